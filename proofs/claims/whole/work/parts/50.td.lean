/-! THE PURE PART, 28: the text's characters; undo, keep, restore -/
variable {M M' A : Mem} {b b' c h k k' tl tl' : Nat} {s s' z z' : S3} {Hs : Nat → S3} {f f' : Bool} {q tx tx' : Nat → Nat} {N N' P : Nat → Nat} {D D' : Nat → UInt64}
theorem CI.text (I : CI M b s Hs k z f q tl tx) (F : ∀ r, r ≤ 446 → Same M M' r) (g : gR M' 447 0 = gR M 447 0) (t : tl' ≤ 60 ∧ gI M' 447 1 = nI tl' ∧ ∀ j, j < 60 → tx' j < 65536 ∧ gI M' 448 j = nI (tx' j)) : CI M' b s Hs k z f q tl' tx' := by
  obtain ⟨⟨i1, i2, i3, i4, i5⟩, sh, ⟨q1, q2⟩, ⟨c1, c2⟩, ⟨h1, h2, h3⟩, ⟨f1, f2⟩, -⟩ := I
  have cf : ∀ c, Car c → ∀ r, c ≤ r → r < c + 74 → Same M M' r := fun c C r h1 h2 => F r (by have := C.le; omega)
  refine ⟨?_, fun c C => sh_frame (cf c C) (sh c C), ⟨fun i hi => ?_, q2⟩, ⟨CRs.fr (cf 2 car2) c2 c1, c2⟩, ⟨h1, ?_, fun i hi => ?_⟩, ⟨?_, fun e => ?_⟩, t⟩
  · have e := fun k => (F 1 (by decide) k).2.2.2
    rw [e, e, e, e, g]
    exact ⟨i1, i2, i3, i4, i5⟩
  · rw [(F 76 (by decide) i).2.2.2]; exact q1 i hi
  · rw [(F 1 (by decide) 4).1]; exact h2
  · obtain ⟨a, b⟩ := h3 i hi
    exact ⟨CRs.fr (cf _ (q1 i (by omega)).2.1) b a, b⟩
  · rw [(F 1 (by decide) 5).1]; exact f1
  · obtain ⟨a, b⟩ := f2 e
    exact ⟨CRs.fr (cf _ car373) b a, b⟩
theorem RF.text (R : RF M s Hs k z f tl tx) (F : ∀ r, 450 ≤ r → r ≤ 455 → Same M M' r) (g : ∀ k, gR M' 449 k = gR M 449 k) (g6 : gI M' 449 6 = gI M 449 6) (g7 : gI M' 449 7 = gI M 449 7) (t : gI M' 449 8 = nI tl' ∧ ∀ j, j < 60 → gI M' 456 j = nI (tx' j)) : RF M' s Hs k z f tl' tx' := by
  obtain ⟨⟨x, r1, r2⟩, ⟨h1, h2⟩, ⟨f1, f2⟩, -⟩ := R
  refine ⟨⟨?_, fun j hj => by rw [(F 450 (by decide) (by decide) j).1]; exact r1 j hj, fun j hj => by rw [(F 453 (by decide) (by decide) j).2.1]; exact r2 j hj⟩, ⟨g6.trans h1, fun i hi => ⟨fun j hj => ?_, fun j hj => ?_⟩⟩, ⟨g7.trans f1, fun e => ⟨fun j hj => ?_, fun j hj => ?_⟩⟩, t⟩
  · unfold FX6 at x ⊢
    rw [g, g, g, g, g, g, g, g]; exact x
  · rw [(F 451 (by decide) (by decide) _).1]; exact (h2 i hi).1 j hj
  · rw [(F 454 (by decide) (by decide) _).2.1]; exact (h2 i hi).2 j hj
  · rw [(F 452 (by decide) (by decide) _).1]; exact (f2 e).1 j hj
  · rw [(F 455 (by decide) (by decide) _).2.1]; exact (f2 e).2 j hj
theorem vn_char {j : Nat} (h : j < 65536) : vp_nar .char (nI j) = nI j := by
  unfold vp_nar
  rw [(pk_charN h).1]
theorem k448 : 448 ≤ 457 ∧ kd 448 = (9, 60) := by decide
def putT (tx : Nat → Nat) (tl j : Nat) : Nat → Nat := up tx tl j
theorem put_at {M : Mem} {r : Nat} {tx : Nat → Nat} {tl j : Nat} (h : ∀ i, i < 60 → gI M r i = nI (tx i)) : ∀ i, i < 60 → gI (sI M r tl (nI j)) r i = nI (putT tx tl j i) := by
  intro i hi
  by_cases e : i = tl
  · rw [e, gI_eq, show putT tx tl j tl = j from up_eq _ _ _]
  · rw [gI_ne (Or.inr e), show putT tx tl j i = tx i from up_ne e]; exact h i hi
theorem y_type {K : Int32 → Mem → Prop} (V : INV M b) (x : Int32) (H : ∀ v M1, An (w_X6_type 457 M1 449 ((Int32.toUInt32 x % 65536).toInt32)) v b → K v M1) : w_X5_type 457 M 1 ((Int32.toUInt32 x % 65536).toInt32) K := by
  obtain ⟨s, Hs, k, z, f, q, tl, tx, I, R⟩ := id V
  obtain ⟨i1, i2, i3, i4, i5⟩ := I.1
  obtain ⟨t1, t2, t3⟩ := I.2.2.2.2.2.2
  obtain ⟨u1, u2⟩ := R.2.2.2
  have F9 := R.1.1.2.2.2.2.2.2.1
  rw [pk_char] at H ⊢
  obtain ⟨j, hj⟩ : ∃ j, j = x.toBitVec.toNat % 65536 := ⟨_, rfl⟩
  have j1 : j < 65536 := by rw [hj]; exact Nat.mod_lt _ (by decide)
  rw [← hj] at H ⊢
  refine ⟨k1, m_rR i4 ⟨k447, k447, ?_⟩⟩
  rw [t2]
  refine cF (nI_pos (by omega)) (m_rR i5 (a_len k448 (by decide) ?_))
  rw [a_ln k448]
  by_cases e : tl = 60
  · refine cF (fun a => by have := (nI_ltI (b := 60) (by omega) (by decide)).mp a; omega) (H _ _ (fun K h => ⟨k449, ?_⟩))
    rw [u1]
    exact cP (by rw [e]; rfl) (h M V)
  · refine cT (nI_lt (b := 60) (by omega) (by decide)) (m_rR i5 (m_wI 448 9 60 tl k448 rfl (by omega) (by decide) (m_eq ?_)))
    rw [vn_char j1, gI_ne (r := 448) (Or.inl (by decide)), t2, nI_1, gI_eq]
    refine H _ _ (fun K h => ⟨k449, ?_⟩)
    obtain ⟨X, hX⟩ : ∃ X, X = sI (sI M 448 tl (nI j)) 447 1 (nI (tl + 1)) := ⟨_, rfl⟩
    have I' : CI X b s Hs k z f q (tl + 1) (putT tx tl j) := by
      rw [hX]
      refine I.text (fun r hr k => ⟨by rw [gI_ne (Or.inl (by omega)), gI_ne (Or.inl (by omega))], rfl, rfl, rfl⟩) rfl ⟨by omega, gI_eq, fun i hi => ⟨?_, ?_⟩⟩
      · by_cases e : i = tl
        · rw [e, show putT tx tl j tl = j from up_eq _ _ _]; exact j1
        · rw [show putT tx tl j i = tx i from up_ne e]; exact (t3 i hi).1
      · rw [gI_ne (Or.inl (by decide))]
        exact put_at (fun i hi => (t3 i hi).2) i hi
    have RX : RF X s Hs k z f tl tx := R.fr (M' := X) (fun r hr k => by rw [hX]; exact ⟨by rw [gI_ne (Or.inl (by omega)), gI_ne (Or.inl (by omega))], rfl, rfl, rfl⟩)
    rw [← hX]
    obtain ⟨v1, v2⟩ := RX.2.2.2
    rw [v1]
    refine cN (fun a => e ((nI_eq (b := 60) (by omega) (by decide)).mp a)) (m_rR RX.1.1.2.2.2.2.2.2.1 (m_wI 456 9 60 tl k456 rfl (by omega) (by decide) (m_eq ?_)))
    rw [vn_char j1, gI_ne (r := 456) (Or.inl (by decide)), v1, nI_1, gI_eq]
    refine h _ (inv_fin I' (RX.text (fun r h1 h2 k => ⟨by rw [gI_ne (Or.inl (by omega)), gI_ne (Or.inl (by omega))], rfl, rfl, rfl⟩) (fun _ => rfl) (by rw [gI_ne (Or.inr (by decide)), gI_ne (Or.inl (by decide))]) (by rw [gI_ne (Or.inr (by decide)), gI_ne (Or.inl (by decide))]) ⟨gI_eq, fun i hi => ?_⟩) (fun r hr k => ⟨by rw [gI_ne (Or.inl (by omega)), gI_ne (Or.inl (by omega))], rfl, rfl, rfl⟩))
    rw [gI_ne (Or.inl (by decide))]
    exact put_at v2 i hi
theorem y_clearText {K : Int32 → Mem → Prop} (V : INV M b) (H : ∀ v M1, An (w_X6_clearText 457 M1 449) v b → K v M1) : w_X5_clearText 457 M 1 K := by
  obtain ⟨s, Hs, k, z, f, q, tl, tx, I, R⟩ := id V
  obtain ⟨i1, i2, i3, i4, i5⟩ := I.1
  obtain ⟨t1, t2, t3⟩ := I.2.2.2.2.2.2
  refine ⟨k1, m_rR i4 ⟨k447, m_eq (m_rR i4 ⟨k447, m_eq ?_⟩)⟩⟩
  rw [t2]
  refine H _ _ (fun K h => ⟨k449, m_eq (m_eq ?_)⟩)
  obtain ⟨X, hX⟩ : ∃ X, X = sI M 447 1 0 := ⟨_, rfl⟩
  have I' : CI X b s Hs k z f q 0 tx := by
    rw [hX]
    exact I.text (fun r hr k => ⟨gI_ne (Or.inl (by omega)), rfl, rfl, rfl⟩) rfl ⟨by omega, gI_eq, fun i hi => ⟨(t3 i hi).1, by rw [gI_ne (Or.inl (by decide))]; exact (t3 i hi).2⟩⟩
  have RX : RF X s Hs k z f tl tx := R.fr (M' := X) (fun r hr k => by rw [hX]; exact ⟨gI_ne (Or.inl (by omega)), rfl, rfl, rfl⟩)
  rw [← hX]
  obtain ⟨v1, v2⟩ := RX.2.2.2
  rw [v1]
  exact h _ (inv_fin I' (RX.text (fun r h1 h2 k => ⟨gI_ne (Or.inl (by omega)), rfl, rfl, rfl⟩) (fun _ => rfl) (gI_ne (Or.inr (by decide))) (gI_ne (Or.inr (by decide))) ⟨gI_eq, fun i hi => by rw [gI_ne (Or.inl (by decide))]; exact v2 i hi⟩) (fun r hr k => ⟨gI_ne (Or.inl (by omega)), rfl, rfl, rfl⟩))
theorem CI.hist (I : CI M b s Hs k z f q tl tx) (hk : k' ≤ k) : CI (sI M 1 4 (nI k')) b s Hs k' z f q tl tx := by
  obtain ⟨⟨i1, i2, i3, i4, i5⟩, sh, ⟨q1, q2⟩, ⟨c1, c2⟩, ⟨h1, h2, h3⟩, ⟨f1, f2⟩, ⟨t1, t2, t3⟩⟩ := I
  have F : ∀ r, r ≠ 1 → Same M (sI M 1 4 (nI k')) r := fun r hr => sm_I hr
  have cf : ∀ c, Car c → ∀ r, c ≤ r → r < c + 74 → Same M (sI M 1 4 (nI k')) r := fun c C r h1 h2 => F r (by have := C.le; omega)
  refine ⟨⟨i1, i2, i3, i4, i5⟩, fun c C => sh_frame (cf c C) (sh c C), ⟨q1, q2⟩, ⟨CRs.fr (cf 2 car2) c2 c1, c2⟩, ⟨by omega, gI_eq, fun i hi => ?_⟩, ⟨?_, fun e => ?_⟩, ⟨t1, ?_, fun j hj => ?_⟩⟩
  · obtain ⟨a, w⟩ := h3 i (by omega)
    exact ⟨CRs.fr (cf _ (q1 i (by omega)).2.1) w a, w⟩
  · rw [gI_ne (Or.inr (by decide))]; exact f1
  · obtain ⟨a, w⟩ := f2 e
    exact ⟨CRs.fr (cf _ car373) w a, w⟩
  · rw [gI_ne (Or.inl (by decide))]; exact t2
  · rw [gI_ne (Or.inl (by decide))]; exact t3 j hj
theorem RF.hist (R : RF M s Hs k z f tl tx) (hk : k' ≤ k) : RF (sI M 449 6 (nI k')) s Hs k' z f tl tx := by
  obtain ⟨⟨x, r1, r2⟩, ⟨h1, h2⟩, ⟨f1, f2⟩, ⟨t1, t2⟩⟩ := R
  refine ⟨⟨x, fun j hj => by rw [gI_ne (Or.inl (by decide))]; exact r1 j hj, r2⟩, ⟨gI_eq, fun i hi => ⟨fun j hj => ?_, (h2 i (by omega)).2⟩⟩, ⟨by rw [gI_ne (Or.inr (by decide))]; exact f1, fun e => ⟨fun j hj => ?_, (f2 e).2⟩⟩, ⟨by rw [gI_ne (Or.inr (by decide))]; exact t1, fun j hj => ?_⟩⟩
  · rw [gI_ne (Or.inl (by decide))]; exact (h2 i (by omega)).1 j hj
  · rw [gI_ne (Or.inl (by decide))]; exact (f2 e).1 j hj
  · rw [gI_ne (Or.inl (by decide))]; exact t2 j hj
theorem y_undo {K : Int32 → Mem → Prop} (V : INV M b) (H : ∀ v M1, An (w_X6_undo 457 M1 449) v b → K v M1) : w_X5_undo 457 M 1 K := by
  obtain ⟨s, Hs, k, z, f, q, tl, tx, I, R⟩ := id V
  obtain ⟨⟨i1, i2, i3, i4, i5⟩, sh, ⟨q1, q2⟩, ⟨c1, c2⟩, ⟨h1, h2, h3⟩, -⟩ := id I
  refine ⟨k1, m_eq ?_⟩
  rw [h2]
  cases k with
  | zero =>
    refine cT (by decide) (H _ _ (fun K h => ⟨k449, ?_⟩))
    rw [R.2.1.1]
    exact cP rfl (h M V)
  | succ k =>
    rw [nI_pred]
    obtain ⟨x1, x2, x3, x4⟩ := q1 k (by omega)
    obtain ⟨a, w⟩ := h3 k (by omega)
    refine cF (nI_pos (by omega)) (m_rR i2 (a_len k76 (by decide) ?_))
    rw [a_ln k76]
    refine cT (nI_lt (b := 4) (by omega) (by decide)) (m_rR i1 (m_rR i2 (a_idx 76 12 4 k _ k76 (by decide) rfl (by omega) (by decide) x1 ⟨kc0 car2, c_copyOf a.1 (sh 2 car2) (Car.ap car2 x2 (fun e => x3 e.symm)) (cr_pipe a w) (m_eq ?_)⟩)))
    rw [gI_eq]
    have o : OnC 2 M (cyM M 2 (q k)) := onC_cy
    have cn := cr_copy a (sh 2 car2) (Car.ap car2 x2 (fun e => x3 e.symm)) w.n.1 w.n.2
    obtain ⟨X, hX⟩ : ∃ X, X = cyM M 2 (q k) := ⟨_, rfl⟩
    rw [← hX] at o cn ⊢
    have I1 : CI X b (Hs k) Hs (k + 1) z f q tl tx := I.act o cn w (Nat.le_refl b)
    have I2 := I1.hist (k' := k) (by omega)
    have R2 := R.fr ((o.fc car2).trans (fc_I (r := 1) (j := 4) (v := nI k) (by decide)))
    obtain ⟨Y, hY⟩ : ∃ Y, Y = sI X 1 4 (nI k) := ⟨_, rfl⟩
    rw [← hY] at I2 R2 ⊢
    refine H _ _ (fun K h => q_undo R2.1 R2.2.1 (by omega) (fun M' M1 hM r1 o1 => ?_))
    have R3 := R2.hist (k' := k) (by omega)
    rw [← hM] at R3
    refine h M' (inv_fin I2 (R3.act (s' := Hs k) o1 r1) (FrR.trans (fun r hr => ?_) o1.fr))
    rw [hM]
    exact sm_I (by omega)
theorem CI.kept {X : Mem} (I : CI M b s Hs k z f q tl tx) (o : OnC 373 M X) (c' : CRs X 373 s) : CI (sI X 1 5 1) b s Hs k s true q tl tx := by
  obtain ⟨⟨i1, i2, i3, i4, i5⟩, sh, ⟨q1, q2⟩, ⟨c1, c2⟩, ⟨h1, h2, h3⟩, ⟨f1, f2⟩, ⟨t1, t2, t3⟩⟩ := I
  have cf : ∀ c, Car c → c ≠ 373 → ∀ r, c ≤ r → r < c + 74 → Same M (sI X 1 5 1) r := fun c C e r g1 g2 => (o.same (by have := Car.ap C car373 e; unfold Apart at this; omega)).trans (sm_I (by have := C.le; omega))
  have c3 : ∀ r, 373 ≤ r → r < 373 + 74 → Same X (sI X 1 5 1) r := fun r g1 g2 => sm_I (by omega)
  have e0 : ∀ r, (r < 373 ∨ 447 ≤ r) → Same M X r := fun r hr => o.same (by omega)
  refine ⟨?_, fun c C => ?_, ⟨fun i hi => ?_, q2⟩, ⟨CRs.fr (cf 2 car2 (by decide)) c2 c1, c2⟩, ⟨h1, ?_, fun i hi => ?_⟩, ⟨gI_eq, fun _ => ⟨CRs.fr c3 c2 c', c2⟩⟩, ⟨t1, ?_, fun j hj => ?_⟩⟩
  · show gR X 1 0 = 2 ∧ gR X 1 1 = 76 ∧ gR X 1 2 = 373 ∧ gR X 1 3 = 447 ∧ gR X 447 0 = 448
    rw [o.gR, o.gR, o.gR, o.gR, o.gR]; exact ⟨i1, i2, i3, i4, i5⟩
  · by_cases e : c = 373
    · rw [e]; exact sh_frame c3 c'.1
    · exact sh_frame (cf c C e) (sh c C)
  · show gR X 76 i = q i ∧ _
    rw [o.gR]; exact q1 i hi
  · rw [gI_ne (Or.inr (by decide)), (e0 1 (by decide) 4).1]; exact h2
  · obtain ⟨a, w⟩ := h3 i hi
    obtain ⟨x1, x2, x3, x4⟩ := q1 i (by omega)
    exact ⟨CRs.fr (cf _ x2 x4) w a, w⟩
  · rw [gI_ne (Or.inl (by decide)), (e0 447 (by decide) 1).1]; exact t2
  · rw [gI_ne (Or.inl (by decide)), (e0 448 (by decide) j).1]; exact t3 j hj
theorem gI_cpD {M : Mem} {r o i a j : Nat} {g : Nat → UInt64} : gI (cpD M r o g i) a j = gI M a j := rfl
theorem y_keep {K : Int32 → Mem → Prop} (V : INV M b) (H : ∀ v M1, An (w_X6_keep 457 M1 449) v b → K v M1) : w_X5_keep 457 M 1 K := by
  obtain ⟨s, Hs, k, z, f, q, tl, tx, I, R⟩ := id V
  obtain ⟨⟨i1, i2, i3, i4, i5⟩, sh, ⟨q1, q2⟩, ⟨c1, c2⟩, -⟩ := id I
  refine ⟨k1, m_rR i3 (m_rR i1 ⟨kc0 car373, c_copyOf c1.1 (sh 373 car373) (Car.ap car373 car2 (by decide)) (cr_pipe c1 c2) (m_eq ?_)⟩)⟩
  have o : OnC 373 M (cyM M 373 2) := onC_cy
  have cn := cr_copy c1 (sh 373 car373) (Car.ap car373 car2 (by decide)) c2.n.1 c2.n.2
  obtain ⟨X, hX⟩ : ∃ X, X = cyM M 373 2 := ⟨_, rfl⟩
  rw [← hX] at o cn ⊢
  have g0 : gR (sI X 1 5 1) 1 0 = 2 := (o.gR 1 0).trans i1
  have g7 : gI (sI X 1 5 1) 2 7 = nI (s.1 2) := by
    rw [gI_ne (Or.inl (by decide)), o.1 2 7 (by decide)]
    exact c1.2.1.2.2.1
  refine m_rR g0 ⟨kc0 car2, ?_⟩
  rw [g7]
  have I2 := I.kept o cn
  have R2 := R.fr ((o.fc car373).trans (fc_I (r := 1) (j := 5) (v := 1) (by decide)))
  obtain ⟨Y, hY⟩ : ∃ Y, Y = sI X 1 5 1 := ⟨_, rfl⟩
  rw [← hY] at I2 R2 ⊢
  refine H _ _ (fun K h => q_keep R2.1 (fun sl => ?_))
  have fr : ∀ r, r ≠ 449 → r ≠ 452 → r ≠ 455 → Same Y (kpM Y) r := fun r h1 h2 h3 k => by
    refine ⟨?_, ?_, rfl, rfl⟩
    · unfold kpM
      rw [gI_ne (Or.inl h1), gI_cpD, gI_cpN (fun z => h2 z.1)]
    · unfold kpM
      rw [gD_sI, gD_cpN (fun z => h3 z.1)]
      rfl
  have e9 : ∀ k, k ≠ 7 → gI (kpM Y) 449 k = gI Y 449 k := fun k hk => by
    unfold kpM
    rw [gI_ne (Or.inr hk), gI_cpD, gI_cpN (fun z => absurd z.1 (by decide))]
  obtain ⟨⟨x, r1, r2⟩, ⟨h1, h2⟩, ⟨f1, f2⟩, ⟨t1, t2⟩⟩ := R2
  refine h (kpM Y) (inv_fin I2 ⟨⟨x, fun j hj => ?_, fun j hj => ?_⟩, ⟨by rw [e9 6 (by decide)]; exact h1, fun i hi => ⟨fun j hj => ?_, fun j hj => ?_⟩⟩, ⟨gI_eq, fun _ => sl⟩, ⟨by rw [e9 8 (by decide)]; exact t1, fun j hj => ?_⟩⟩ (fun r hr => fr r (by omega) (by omega) (by omega)))
  · rw [(fr 450 (by decide) (by decide) (by decide) j).1]; exact r1 j hj
  · rw [(fr 453 (by decide) (by decide) (by decide) j).2.1]; exact r2 j hj
  · rw [(fr 451 (by decide) (by decide) (by decide) _).1]; exact (h2 i hi).1 j hj
  · rw [(fr 454 (by decide) (by decide) (by decide) _).2.1]; exact (h2 i hi).2 j hj
  · rw [(fr 456 (by decide) (by decide) (by decide) _).1]; exact t2 j hj
theorem y_restore {K : Int32 → Mem → Prop} (V : INV M b) (H : ∀ v M1, An (w_X6_restore 457 M1 449) v b → K v M1) : w_X5_restore 457 M 1 K := by
  obtain ⟨s, Hs, k, z, f, q, tl, tx, I, R⟩ := id V
  have f1 := I.2.2.2.2.2.1.1
  refine ⟨k1, ?_⟩
  rw [f1]
  cases f with
  | false =>
    refine cP rfl (H _ _ (fun K h => ⟨k449, ?_⟩))
    rw [R.2.2.1.1]
    exact cP rfl (h M V)
  | true =>
    refine cN (by decide) (c_remember I (fun M1 q1 I1 F1 => ?_))
    obtain ⟨⟨i1, i2, i3, i4, i5⟩, sh, -, ⟨c1, c2⟩, -, ⟨-, f2⟩, -⟩ := id I1
    obtain ⟨a, w⟩ := f2 rfl
    refine m_rR i1 (m_rR i3 ⟨kc0 car2, c_copyOf a.1 (sh 2 car2) (Car.ap car2 car373 (by decide)) (cr_pipe a w) ?_⟩)
    have o : OnC 2 M1 (cyM M1 2 373) := onC_cy
    have cn := cr_copy a (sh 2 car2) (Car.ap car2 car373 (by decide)) w.n.1 w.n.2
    obtain ⟨X, hX⟩ : ∃ X, X = cyM M1 2 373 := ⟨_, rfl⟩
    rw [← hX] at o cn ⊢
    refine m_rR ((o.gR 1 0).trans i1) ⟨kc0 car2, ?_⟩
    rw [show gI X 2 7 = nI (z.1 2) from cn.2.1.2.2.1]
    have I2 : CI X b z (psT Hs k s) (psK k) z true q1 tl tx := I1.act o cn w (Nat.le_refl b)
    have R2 := (R.fr F1).fr (o.fc car2)
    refine H _ _ (fun K h => ⟨k449, ?_⟩)
    rw [R2.2.2.1.1]
    refine cN (by decide) (r_rec R2 I.2.2.2.2.1.1 (fun M3 R3 F3 => q_restore R3.1.1 (R3.2.2.1.2 rfl) (fun M4 r4 o4 => ?_)))
    exact h M4 (inv_fin I2 (R3.act (s' := z) o4 r4) (F3.trans o4.fr))
