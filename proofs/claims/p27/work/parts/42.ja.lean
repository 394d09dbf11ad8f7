/-! THE PURE PART, 20: frames; copies and beginnings of carousels -/
variable {M M' : Mem} {a c h p t b b' : Nat} {N N' P P' : Nat → Nat} {D D' : Nat → UInt64}
def Same (M M' : Mem) (r : Nat) : Prop := ∀ k, gI M' r k = gI M r k ∧ gD M' r k = gD M r k ∧ gL M' r k = gL M r k ∧ gR M' r k = gR M r k
theorem Same.rf (M : Mem) (r : Nat) : Same M M r := fun _ => ⟨rfl, rfl, rfl, rfl⟩
theorem Same.trans {A B C : Mem} {r : Nat} (h : Same A B r) (g : Same B C r) : Same A C r := fun k => ⟨(g k).1.trans (h k).1, (g k).2.1.trans (h k).2.1, (g k).2.2.1.trans (h k).2.2.1, (g k).2.2.2.trans (h k).2.2.2⟩
theorem OnC.same (o : OnC c M M') {r : Nat} (h : r < c ∨ c + 74 ≤ r) : Same M M' r := fun k => ⟨o.1 r k h, o.2.1 r k h, o.2.2.1 r k h, o.gR r k⟩
theorem sh_frame (f : ∀ r, c ≤ r → r < c + 74 → Same M M' r) (S : Sh M c) : Sh M' c := by
  obtain ⟨C, r, hh, hq, l⟩ := S
  refine ⟨C, ?_, fun h hb => ?_, fun p hb => ?_, ?_⟩
  · have e := fun k => (f c (by omega) (by omega) k).2.2.2
    rw [e, e, e, e, e]; exact r
  · rw [(f (c + 4) (by omega) (by omega) h).2.2.2, (f (c + 5 + h) (by omega) (by omega) 0).1]; exact hh h hb
  · rw [(f (c + 13) (by omega) (by omega) p).2.2.2, (f (c + 14 + p) (by omega) (by omega) 0).1]; exact hq p hb
  · have e1 := fun k => (f (c + 1) (by omega) (by omega) k).2.2.1
    have e2 := fun k => (f (c + 2) (by omega) (by omega) k).2.2.1
    have e3 := fun k => (f (c + 3) (by omega) (by omega) k).2.2.1
    rw [e1, e1, e2, e2, e3, e3]; exact l
theorem cr_frame (f : ∀ r, c ≤ r → r < c + 74 → Same M M' r) (n0 : N 0 ≤ 8) (n2 : N 2 ≤ 60) (cr : CR M c N D P) : CR M' c N D P := by
  obtain ⟨S, s, cq, ch, cd, pc, pa⟩ := cr
  refine ⟨sh_frame f S, ?_, fun i hi => ?_, fun h hh => ?_, fun h hh => ?_, fun p hp => ?_, fun p h1 h2 => ?_⟩
  · have e := fun k => (f c (by omega) (by omega) k).1
    unfold CS at s ⊢
    rw [e, e, e, e, e]; exact s
  · rw [(f (c + 1 + i) (by omega) (by omega) 2).2.2.1, (f (c + 1 + i) (by omega) (by omega) 3).2.1]; exact cq i hi
  · have e := fun k => (f (c + 5 + h) (by omega) (by omega) k).1
    have x := ch h hh
    unfold HI at x ⊢
    rw [e, e, e, e, e, e, e, e]; exact x
  · have e := fun k => (f (c + 5 + h) (by omega) (by omega) k).1
    have g := fun k => (f (c + 5 + h) (by omega) (by omega) k).2.1
    have x := cd h hh
    unfold HD at x ⊢
    rw [e, g, g, g, g]; exact x
  · have e := fun k => (f (c + 14 + p) (by omega) (by omega) k).1
    have g := fun k => (f (c + 14 + p) (by omega) (by omega) k).2.1
    have x := pc p hp
    unfold PC at x ⊢
    rw [e, e, e, e, e, e, e, e, e, g]; exact x
  · have e := fun k => (f (c + 14 + p) (by omega) (by omega) k).1
    have x := pa p h1 h2
    unfold PA at x ⊢
    rw [e, e, e]; exact x
theorem cr_pipe (cr : CR M c N D P) (w : WF N D P b) (p : Nat) (hp : p < 60) : gI M (c + 14 + p) 1 = 0 ∨ gI M (c + 14 + p) 1 = 1 := by
  obtain ⟨S, s, cq, ch, cd, pc, pa⟩ := cr
  by_cases q : p < N 2
  · have x := (pc p q).1
    have y := (w.2.2.2.2.2.2.1 p q).1
    rw [x]
    rcases (show N (92 + 8 * p + 0) = 0 ∨ N (92 + 8 * p + 0) = 1 by omega) with e | e <;> rw [e]
    · exact Or.inl rfl
    · exact Or.inr rfl
  · exact (pa p (by omega) hp).2.2
theorem onC_pr (i : Nat) (hi : i < 3) : OnC a M (prM M a c i) := (onC_L (M := M) (by omega) (by omega)).trans (onC_D (by omega) (by omega))
theorem onC_cy : OnC a M (cyM M a c) := by
  have h0 : OnC a M (prM (prM (prM M a c 0) a c 1) a c 2) := ((onC_pr (M := M) (a := a) (c := c) 0 (by decide)).trans (onC_pr 1 (by decide))).trans (onC_pr 2 (by decide))
  have h1 := (h0.mB (n := 8) (FI := fun i => hcI M (c + 5 + i) (a + 5 + i)) (FD := fun i => hcD M (c + 5 + i) (a + 5 + i)) (show a ≤ a + 5 by omega) (by omega)).mB (n := 60) (FI := fun i => pcI M (c + 14 + i) (a + 14 + i)) (FD := fun i => pcD M (c + 14 + i) (a + 14 + i)) (show a ≤ a + 14 by omega) (by omega)
  exact ((((h1.mI (Nat.le_refl a) (by omega)).mI (Nat.le_refl a) (by omega)).mI (Nat.le_refl a) (by omega)).mI (Nat.le_refl a) (by omega)).mI (Nat.le_refl a) (by omega)
theorem gL_ne {M : Mem} {r k a j : Nat} {v : Int64} (h : a ≠ r ∨ j ≠ k) : gL (sL M r k v) a j = gL M a j := by rw [gL_sL, if_neg (fun z => h.elim (fun y => y z.1) (fun y => y z.2))]
theorem gL_eq {M : Mem} {r k : Nat} {v : Int64} : gL (sL M r k v) r k = v := by rw [gL_sL, if_pos ⟨rfl, rfl⟩]
theorem cr_copy (cr : CR M c N D P) (T : Sh M a) (ap : Apart a c) (n0 : N 0 ≤ 8) (n2 : N 2 ≤ 60) : CR (cyM M a c) a N D P := by
  obtain ⟨S, ⟨s1, s2, s3, s4, s5⟩, cq, ch, cd, pc, pa⟩ := cr
  unfold Apart at ap
  have hI : ∀ h k, h < 8 → gI (cyM M a c) (a + 5 + h) k = hcI M (c + 5 + h) (a + 5 + h) k := fun h k hh => by
    unfold cyM
    rw [gI_ne (Or.inl (by omega)), gI_ne (Or.inl (by omega)), gI_ne (Or.inl (by omega)), gI_ne (Or.inl (by omega)), gI_ne (Or.inl (by omega)), gI_bkN (by omega), gI_bkY hh]
  have hD : ∀ h k, h < 8 → gD (cyM M a c) (a + 5 + h) k = hcD M (c + 5 + h) (a + 5 + h) k := fun h k hh => by
    unfold cyM
    rw [gD_sI, gD_sI, gD_sI, gD_sI, gD_sI, gD_bkN (by omega), gD_bkY hh]
  have pI : ∀ p k, p < 60 → gI (cyM M a c) (a + 14 + p) k = pcI M (c + 14 + p) (a + 14 + p) k := fun h k hh => by
    unfold cyM
    rw [gI_ne (Or.inl (by omega)), gI_ne (Or.inl (by omega)), gI_ne (Or.inl (by omega)), gI_ne (Or.inl (by omega)), gI_ne (Or.inl (by omega)), gI_bkY hh]
  have pD : ∀ p k, p < 60 → gD (cyM M a c) (a + 14 + p) k = pcD M (c + 14 + p) (a + 14 + p) k := fun h k hh => by
    unfold cyM
    rw [gD_sI, gD_sI, gD_sI, gD_sI, gD_sI, gD_bkY hh]
  refine ⟨T.to (fun h hh => ?_) (fun p hp => ?_) (fun i k hi hk => ?_) rfl, ?_, fun i hi => ?_, fun h hh => ?_, fun h hh => ?_, fun p hp => ?_, fun p h1 h2 => ?_⟩
  · rw [hI h 0 hh]; rfl
  · rw [pI p 0 hp]; rfl
  · have e : gL (cyM M a c) (a + 1 + i) k = gL (prM (prM (prM M a c 0) a c 1) a c 2) (a + 1 + i) k := rfl
    rw [e]
    unfold prM
    rw [gL_sD, gL_sL, if_neg (by omega), gL_sD, gL_sL, if_neg (by omega), gL_sD, gL_sL, if_neg (by omega)]
  · unfold CS cyM
    rw [gI_ne (Or.inr (by decide)), gI_ne (Or.inr (by decide)), gI_ne (Or.inr (by decide)), gI_ne (Or.inr (by decide)), gI_eq, gI_ne (Or.inr (by decide)), gI_ne (Or.inr (by decide)), gI_ne (Or.inr (by decide)), gI_eq, gI_ne (Or.inr (by decide)), gI_ne (Or.inr (by decide)), gI_eq, gI_ne (Or.inr (by decide)), gI_eq, gI_eq]
    exact ⟨s1, s2, s3, s4, s5⟩
  · have e : gL (cyM M a c) (a + 1 + i) 2 = gL (prM (prM (prM M a c 0) a c 1) a c 2) (a + 1 + i) 2 := rfl
    have e2 : gD (cyM M a c) (a + 1 + i) 3 = gD (prM (prM (prM M a c 0) a c 1) a c 2) (a + 1 + i) 3 := by
      unfold cyM
      rw [gD_sI, gD_sI, gD_sI, gD_sI, gD_sI, gD_bkN (by omega), gD_bkN (by omega)]
    rw [e, e2]
    obtain ⟨q1, q2⟩ := cq i hi
    unfold prM
    rcases (show i = 0 ∨ i = 1 ∨ i = 2 by omega) with z | z | z <;> subst z
    · simp (disch := omega) only [gL_sD, gL_ne, gL_eq, gD_sL, gD_ne, gD_eq]
      exact ⟨q1, q2⟩
    · simp (disch := omega) only [gL_sD, gL_ne, gL_eq, gD_sL, gD_ne, gD_eq]
      exact ⟨q1, q2⟩
    · simp (disch := omega) only [gL_sD, gL_ne, gL_eq, gD_sL, gD_ne, gD_eq]
      exact ⟨q1, q2⟩
  · unfold HI
    rw [hI h _ hh, hI h _ hh, hI h _ hh, hI h _ hh, hI h _ hh, hI h _ hh, hI h _ hh, hI h _ hh]
    exact ch h hh
  · unfold HD
    rw [hI h _ (by omega), hD h _ (by omega), hD h _ (by omega), hD h _ (by omega), hD h _ (by omega)]
    exact cd h hh
  · unfold PC
    rw [pI p _ (by omega), pI p _ (by omega), pI p _ (by omega), pI p _ (by omega), pI p _ (by omega), pI p _ (by omega), pI p _ (by omega), pI p _ (by omega), pI p _ (by omega), pD p _ (by omega)]
    exact pc p hp
  · unfold PA
    rw [pI p _ h2, pI p _ h2, pI p _ h2]
    exact pa p h1 h2
theorem onC_bg (n : Nat) : OnC c M (bgM M c n) := by
  have h1 := ((OnC.rf c M).mB (n := 8) (FI := fun i => hbI M (c + 5 + i)) (FD := fun i => hbD M (c + 5 + i)) (show c ≤ c + 5 by omega) (by omega)).mB (n := 60) (FI := fun i => pbI M (c + 14 + i)) (FD := fun i => pbD M (c + 14 + i)) (show c ≤ c + 14 by omega) (by omega)
  exact (((h1.mI (Nat.le_refl c) (by omega)).mI (Nat.le_refl c) (by omega)).mI (Nat.le_refl c) (by omega)).mI (Nat.le_refl c) (by omega)
theorem bgN_z {k x : Nat} (h0 : x ≠ 0) (h3 : x ≠ 3) : bgN N k x = 0 := by unfold bgN; rw [if_neg h0, if_neg h3]
theorem bgD_1 {k h i : Nat} (hh : h < k) (hi : i < 2) : bgD D k (3 + 12 * h + i) = FP.dconst1 := by unfold bgD; rw [if_neg (by omega), if_pos (by omega)]
theorem cr_begin (cr : CR M c N D P) (k : Nat) (hk : 2 ≤ k) (h8 : k ≤ 8) : CR (bgM M c k) c (bgN N k) (bgD D k) P := by
  obtain ⟨S, ⟨s1, s2, s3, s4, s5⟩, cq, ch, cd, pc, pa⟩ := cr
  have hI : ∀ h k', h < 8 → gI (bgM M c k) (c + 5 + h) k' = hbI M (c + 5 + h) k' := fun h k' hh => by
    unfold bgM
    rw [gI_ne (Or.inl (by omega)), gI_ne (Or.inl (by omega)), gI_ne (Or.inl (by omega)), gI_ne (Or.inl (by omega)), gI_bkN (by omega), gI_bkY hh]
  have hD : ∀ h k', h < 8 → gD (bgM M c k) (c + 5 + h) k' = hbD M (c + 5 + h) k' := fun h k' hh => by
    unfold bgM
    rw [gD_sI, gD_sI, gD_sI, gD_sI, gD_bkN (by omega), gD_bkY hh]
  have pI : ∀ p k', p < 60 → gI (bgM M c k) (c + 14 + p) k' = pbI M (c + 14 + p) k' := fun h k' hh => by
    unfold bgM
    rw [gI_ne (Or.inl (by omega)), gI_ne (Or.inl (by omega)), gI_ne (Or.inl (by omega)), gI_ne (Or.inl (by omega)), gI_bkY hh]
  have b0 : bgN N k 0 = k := if_pos rfl
  refine ⟨S.to (fun h hh => ?_) (fun p hp => ?_) (fun i k hi hk => rfl) rfl, ?_, fun i hi => ?_, fun h hh => ?_, fun h hh => ?_, fun p hp => ?_, fun p h1 h2 => ?_⟩
  · rw [hI h 0 hh]; rfl
  · rw [pI p 0 hp]; rfl
  · have b3 : bgN N k 3 = N 3 := by unfold bgN; rw [if_neg (by decide), if_pos rfl]
    have z1 : bgN N k 1 = 0 := bgN_z (by decide) (by decide)
    have z2 : bgN N k 2 = 0 := bgN_z (by decide) (by decide)
    refine ⟨?_, ?_, ?_, ?_, ?_⟩
    · rw [b3]
      simp (disch := omega) only [bgM, gI_ne, gI_bkN]
      exact s1
    · rw [b0]
      simp (disch := omega) only [bgM, gI_ne, gI_eq]
    · rw [z2]
      simp (disch := omega) only [bgM, gI_ne, gI_eq]
      rfl
    · rw [z1]
      simp (disch := omega) only [bgM, gI_ne, gI_eq]
      rfl
    · rw [z1, Nat.zero_mod]
      simp (disch := omega) only [bgM, gI_ne, gI_eq]
      rfl
  · have e : gD (bgM M c k) (c + 1 + i) 3 = gD M (c + 1 + i) 3 := by
      unfold bgM
      rw [gD_sI, gD_sI, gD_sI, gD_sI, gD_bkN (by omega), gD_bkN (by omega)]
    rw [e, show bgD D k i = D i from if_pos hi]
    exact cq i hi
  · unfold HI
    rw [hI h _ hh, hI h _ hh, hI h _ hh, hI h _ hh, hI h _ hh, hI h _ hh, hI h _ hh, hI h _ hh, bgN_z (by omega) (by omega), bgN_z (by omega) (by omega), bgN_z (by omega) (by omega), bgN_z (by omega) (by omega), bgN_z (by omega) (by omega), bgN_z (by omega) (by omega), bgN_z (by omega) (by omega), bgN_z (by omega) (by omega)]
    exact ⟨rfl, rfl, rfl, rfl, rfl, rfl, rfl, rfl⟩
  · rw [b0] at hh
    unfold HD
    rw [hD h _ (by omega), hD h _ (by omega), bgN_z (x := 12 + 10 * h + 3) (by omega) (by omega)]
    refine ⟨?_, ?_, fun z => absurd rfl z⟩
    · exact (bgD_1 hh (i := 0) (by decide)).symm
    · rw [show 4 + 12 * h = 3 + 12 * h + 1 by omega]; exact (bgD_1 hh (by decide)).symm
  · rw [bgN_z (by decide) (by decide)] at hp
    omega
  · unfold PA
    rw [pI p _ h2, pI p _ h2, pI p _ h2]
    exact ⟨rfl, rfl, Or.inl rfl⟩
theorem cnt_0 (f : Nat → Nat) (s : Nat) (hs : s ≠ 0) : ∀ n, (∀ q, q < n → f q = 0) → cnt f s n = 0 := by
  intro n
  induction n with
  | zero => intro _; rfl
  | succ n ih =>
    intro h
    unfold cnt
    rw [ih (fun q hq => h q (by omega)), h n (by omega), if_neg (by omega)]
theorem sm_0 (f : Nat → Nat) : ∀ n, (∀ q, q < n → f q = 0) → sm f n = 0 := by
  intro n
  induction n with
  | zero => intro _; rfl
  | succ n ih =>
    intro h
    unfold sm
    rw [ih (fun q hq => h q (by omega)), h n (by omega)]
theorem cH_0 (N : Nat → Nat) : ∀ n, (∀ q, q < n → N (12 + 10 * q + 3) = 0) → cH N n = 0 := by
  intro n
  induction n with
  | zero => intro _; rfl
  | succ n ih =>
    intro h
    unfold cH
    rw [ih (fun q hq => h q (by omega)), h n (by omega), if_pos rfl]
theorem FR1 : FR FP.dconst1 := by unfold FR; decide +kernel
theorem GR1 : GR 0 FP.dconst1 := by unfold GR; decide +kernel
theorem wf_begin (g3 : 1 ≤ N 3 ∧ N 3 ≤ 99) (r : WR D) (k : Nat) (hk : 2 ≤ k) (h8 : k ≤ 8) : WF (bgN N k) (bgD D k) P b := by
  have b0 : bgN N k 0 = k := if_pos rfl
  have z : ∀ x, x ≠ 0 → x ≠ 3 → bgN N k x = 0 := fun x h0 h3 => bgN_z h0 h3
  have b3 : bgN N k 3 = N 3 := by unfold bgN; rw [if_neg (by decide), if_pos rfl]
  have d0 : ∀ i, i < 3 → bgD D k i = D i := fun i hi => if_pos hi
  have z2 := z 2 (by decide) (by decide)
  refine ⟨⟨by omega, by omega, by rw [z 1 (by decide) (by decide)]; omega, by omega, by omega, by omega, by rw [z 4 (by decide) (by decide)]; omega, by rw [z 5 (by decide) (by decide)]; omega⟩, ?_, fun h hh => ?_, fun h hh q => absurd (z _ (by omega) (by omega)) q, fun h _ _ k _ => z _ (by omega) (by omega), fun h h' _ _ q => absurd (z _ (by omega) (by omega)) q, fun p hp => by omega, ⟨by rw [z 11 (by decide) (by decide)]; omega, fun k hk => by rw [z 11 (by decide) (by decide)] at hk; omega, fun q hq => by omega⟩, ?_⟩
  · unfold WR
    rw [d0 0 (by decide), d0 1 (by decide), d0 2 (by decide)]; exact r
  · rw [b0] at hh
    unfold WH
    rw [z _ (by omega) (by omega), z _ (by omega) (by omega), z _ (by omega) (by omega), z _ (by omega) (by omega), z _ (by omega) (by omega), z _ (by omega) (by omega), z _ (by omega) (by omega)]
    refine ⟨by omega, by omega, by omega, by omega, by omega, by omega, by omega, ?_, ?_⟩
    · rw [show bgD D k (3 + 12 * h) = FP.dconst1 from bgD_1 hh (i := 0) (by decide)]; exact GR1
    · rw [show 4 + 12 * h = 3 + 12 * h + 1 by omega, bgD_1 hh (by decide)]; exact FR1
  · unfold WC
    rw [z2, b0, z 11 (by decide) (by decide), z 4 (by decide) (by decide), z 5 (by decide) (by decide)]
    refine ⟨rfl, ?_, fun e h1 h2 => ?_, ?_, ?_⟩
    · rw [cH_0 _ _ (fun q _ => z _ (by omega) (by omega))]; rfl
    · rw [z _ (by omega) (by omega)]; rfl
    · exact sm_0 _ _ (fun q _ => z _ (by omega) (by omega))
    · exact sm_0 _ _ (fun q _ => z _ (by omega) (by omega))

