/-! p27, 12: what an event leaves; sets -/
variable {zz : Nat}
variable {M M' A : Mem} {b b' c h p k k' tl tl' : Nat} {s s' z z' : S3} {Hs Hs' : Nat → S3} {f f' : Bool} {q tx tx' : Nat → Nat}
def IE (M : Mem) (b : Nat) (s : S3) (Hs : Nat → S3) (k : Nat) : Prop := (∃ z f q tl tx, CI M b s Hs k z f q tl tx) ∧ WEs s ∧ ∀ i, i < k → WEs (Hs i)
/-- nothing has been done, or one act -/
def EV (M : Mem) (b : Nat) (s : S3) (Hs : Nat → S3) (k : Nat) : Prop := IE M b s Hs k ∨ ∃ s', IE M b s' (psT Hs k s) (psK k)
def INE (M : Mem) (b : Nat) : Prop := ∃ s Hs k, IE M b s Hs k
theorem we_psT (e : WEs s) (he : ∀ i, i < k → WEs (Hs i)) (hk : k ≤ 4) : ∀ i, i < psK k → WEs (psT Hs k s i) := by
  intro i hi
  unfold psK at hi
  unfold psT
  by_cases h4 : k = 4
  · rw [if_pos h4] at hi ⊢
    by_cases h3 : i < 3
    · rw [if_pos h3]; exact he _ (by omega)
    · rw [if_neg h3]; exact e
  · rw [if_neg h4] at hi ⊢
    by_cases h3 : i < k
    · rw [if_pos h3]; exact he _ h3
    · rw [if_neg h3]; exact e
theorem psK_le (k : Nat) (hk : k ≤ 4) : psK k ≤ 4 := by unfold psK; split <;> omega
theorem CI.k4 (I : CI M b s Hs k z f q tl tx) : k ≤ 4 := I.2.2.2.2.1.1
theorem EV.no (I : CI M b s Hs k z f q tl tx) (e : WEs s) (he : ∀ i, i < k → WEs (Hs i)) : EV M b s Hs k := Or.inl ⟨⟨z, f, q, tl, tx, I⟩, e, he⟩
theorem EV.yes (I : CI M b s' (psT Hs k s) (psK k) z f q tl tx) (hk : k ≤ 4) (e : WEs s) (he : ∀ i, i < k → WEs (Hs i)) (e' : WEs s') : EV M b s Hs k := Or.inr ⟨s', ⟨z, f, q, tl, tx, I⟩, e', we_psT e he hk⟩
theorem and31 (x : Int32) : ∃ v, v < 2 ^ 31 ∧ x &&& (2147483647 : Int32) = nI v := by
  refine ⟨(x &&& (2147483647 : Int32)).toBitVec.toNat, ?_, ?_⟩
  · have h1 : (x &&& (2147483647 : Int32)).toBitVec = x.toBitVec &&& (2147483647 : Int32).toBitVec := rfl
    rw [h1, BitVec.toNat_and]
    have h2 : (2147483647 : Int32).toBitVec.toNat = 2147483647 := rfl
    rw [h2]
    exact Nat.lt_of_le_of_lt Nat.and_le_right (by decide)
  · apply Int32.toBitVec_inj.mp
    show _ = BitVec.ofNat 32 _
    rw [BitVec.ofNat_toNat, BitVec.setWidth_eq]
theorem z_low {K : Int32 → Mem → Prop} {n : Nat} (x : Int32) (d : Nat) (h0 : 0 < d) (hd : d < 2 ^ 31) (H : ∀ v, v < d → K (nI v) M) : w_L_low n M x (nI d) K := by
  refine ⟨nI_ne0 h0 hd, m_eq ?_⟩
  obtain ⟨v, hv, e⟩ := and31 x
  rw [e, pk_rem hv h0 hd]
  exact H _ (Nat.mod_lt _ h0)
theorem z_bits {K : Int64 → Mem → Prop} {n : Nat} (i : Nat) (hi : i < 3) (y : Int32) (H : ∀ u : UInt64, loB i ≤ u.toNat → u.toNat ≤ hiB i → K u.toInt64 M) : w_L_bits n M (nI i) y K := by
  by_cases i0 : i = 0
  · subst i0
    refine cP rfl ?_
    by_cases y0 : y = 0
    · exact cP y0 (H 4647503709213818880 (by decide) (by decide))
    refine cN y0 ?_
    by_cases y1 : y = 1
    · exact cP y1 (H 4652007308841189376 (by decide) (by decide))
    refine cN y1 ?_
    by_cases y2 : y = 2
    · exact cP y2 (H 4607182418800017408 (by decide) (by decide))
    · exact cN y2 (H 4638387860618067575 (by decide) (by decide))
  · have lo : loB i = 0 := if_neg i0
    have hh : hiB i = 4696837146684686336 := if_neg i0
    rw [lo, hh] at H
    refine cN (nI_ne0 (by omega) (by omega)) ?_
    by_cases y0 : y = 0
    · exact cP y0 (H 4626322717216342016 (by decide) (by decide))
    refine cN y0 ?_
    by_cases y1 : y = 1
    · exact cP y1 (H 4629137466983448576 (by decide) (by decide))
    refine cN y1 ?_
    by_cases y2 : y = 2
    · exact cP y2 (H 0 (by decide) (by decide))
    · exact cN y2 (H 4627026404658118656 (by decide) (by decide))
theorem lg_self (x : Int64) : lg_cmp x x = 0 := (lg_cmp_eq _ _).mpr rfl
theorem big_lo (i : Nat) (hi : i < 3) : lN (hiB i) < (9221120237041090560 : Int64) ∧ (-9223372036854775808 : Int64) < lN (loB i) ∧ lN (hiB i) < (4696837155274620928 : Int64) := by
  rcases (show i = 0 ∨ i = 1 ∨ i = 2 by omega) with rfl | rfl | rfl <;> decide
theorem z_set0 {K : Int32 → Mem → Prop} (I : CI M b s Hs k z f q tl tx) (e : WEs s) (he : ∀ i, i < k → WEs (Hs i)) (hb : b ≤ 20480) (p3 p4 : Int32) (H : ∀ M', EV M' b s Hs k → K 1 M') : w_L_sets (448 + zz) M 1 0 p3 p4 K := by
  have w0 := I.2.2.2.1.2
  have g8 := w0.n.1
  have g60 := w0.n.2
  have g2 := w0.1.1
  refine ⟨k1 (zz := zz), z_count I 0 (by decide) (z_low p3 (s.1 0) (by omega) (by omega) (fun j hj => cP rfl (z_low p4 3 (by decide) (by decide) (fun i hi => ?_))))⟩
  obtain ⟨b1, b2, b3⟩ := big_lo i hi
  refine z_pressureBits I i hi (z_bits i hi _ (fun u u1 u2 => ?_))
  refine z_setPN I i hi _ (Or.inr b1) (cP rfl (z_setPN I i hi _ (Or.inl b2) (cP rfl (z_setPN I i hi _ (Or.inr b3) (cP rfl ?_)))))
  refine z_setPN I 0 (by decide) _ (Or.inl (by decide)) (m_eq (cF (by decide) ?_))
  refine z_setP I i hi u u1 u2 (fun eq => ?_) (fun ne M1 q1 I1 => ?_)
  · rw [eq]
    refine m_eq (cP ?_ ?_)
    · rw [if_pos (lg_self _)]
    · refine z_pressureBits I i hi ?_
      rw [eq]
      exact cP (lg_self _) (H M (EV.no I e he))
  · refine m_eq (cP ?_ ?_)
    · rw [if_neg (fun y => ne ?_)]
      have := congrArg Int64.toUInt64 ((lg_cmp_eq _ _).mp y)
      simpa using this
    · refine z_pressureBits I1 i hi ?_
      dsimp only
      rw [show up s.2.1 i u i = u from up_eq _ _ _]
      exact cP (lg_self _) (H M1 (EV.yes I1 I.k4 e he (we_press e g8 g60 i hi u)))
theorem z_set1 {K : Int32 → Mem → Prop} (I : CI M b s Hs k z f q tl tx) (e : WEs s) (he : ∀ i, i < k → WEs (Hs i)) (hb : b ≤ 20480) (p3 p4 : Int32) (H : ∀ M', EV M' b s Hs k → K 1 M') : w_L_sets (448 + zz) M 1 1 p3 p4 K := by
  have w0 := I.2.2.2.1.2
  have g8 := w0.n.1
  have g60 := w0.n.2
  have g2 := w0.1.1
  have g3 := w0.1.2.2.2.2.2.1
  refine ⟨k1 (zz := zz), z_count I 0 (by decide) (z_low p3 (s.1 0) (by omega) (by omega) (fun j hj => cN (by decide) (cP rfl (z_count I 9 (by decide) (m_eq ?_)))))⟩
  have main : ∀ v, v < 99 → (∀ x48, x48 = (1 : Int32) + nI v → w_X5_setInterval (448 + zz) M 1 x48 (fun x50 M49 => (∀ x51 : Int32, x51 = (if nI (cT_ s 9) = x48 then (-5 : Int32) else nI (cT_ s 9)) → ((¬ x50 = x51 → K (0 : Int32) M49) ∧ (x50 = x51 → w_X5_count (448 + zz) M49 1 (9 : Int32) (fun x53 M52 => ((¬ x53 = x48 → K (0 : Int32) M52) ∧ (x53 = x48 → w_X5_setInterval (448 + zz) M52 1 (100 : Int32) (fun x55 M54 => ((¬ x55 = (-2 : Int32) → K (0 : Int32) M54) ∧ (x55 = (-2 : Int32) → K (1 : Int32) M54))))))))))) := by
    intro v hv
    refine m_eq ?_
    rw [show (1 : Int32) + nI v = nI (1 + v) from nI_add 1 v]
    have c9 : cT_ s 9 = s.1 3 := rfl
    rw [c9]
    refine z_setInterval I (1 + v) (by omega) (by omega) (fun eq => ?_) (fun ne M1 q1 I1 => ?_)
    · refine m_eq (cP ?_ (z_count I 9 (by decide) (cP ?_ (z_setIntervalN _ (Or.inr (by decide)) (cP rfl (H M (EV.no I e he)))))))
      · rw [if_pos (congrArg nI eq.symm)]
      · exact congrArg nI eq.symm
    · refine m_eq (cP ?_ (z_count I1 9 (by decide) (cP ?_ (z_setIntervalN _ (Or.inr (by decide)) (cP rfl (H M1 (EV.yes I1 I.k4 e he (we_3 e g8 g60 _))))))))
      · rw [if_neg (fun y => ne ((nI_eq (by omega) (by omega)).mp y).symm)]
      · show nI (up s.1 3 (1 + v) 3) = _
        rw [up_eq]
  by_cases o : (p4 &&& (1 : Int32)) = 0
  · rw [if_pos o]
    exact z_low p4 4 (by decide) (by decide) (fun v hv => main v (by omega))
  · rw [if_neg o]
    exact z_low p4 99 (by decide) (by decide) (fun v hv => main v hv)
theorem z_set306 {K : Int32 → Mem → Prop} (I : CI M b s Hs k z f q tl tx) (e : WEs s) (he : ∀ i, i < k → WEs (Hs i)) (hb : b ≤ 20480) (j : Nat) (hj : j < s.1 0) (w u : Nat) (hw : w ≤ 1000) (hu : u ≤ 2) (a8 : Int32) (h8 : a8 = 0 ↔ ¬ (w = s.1 (12 + 10 * j + 0) ∧ u = s.1 (12 + 10 * j + 1))) (H : ∀ M', EV M' b s Hs k → K 1 M') : w_L_sets_L306 (448 + zz) K M 1 (nI j) (nI (s.1 (12 + 10 * j + 0))) (nI u) (nI w) a8 := by
  have w0 := I.2.2.2.1.2
  have g8 := w0.n.1
  have g60 := w0.n.2
  refine ⟨k1 (zz := zz), z_equip I j hj w u hw hu (fun eq => ?_) (fun ne M1 q1 I1 => ?_)⟩
  · refine m_eq (cP ?_ (z_head I hb j hj 0 (by decide) (cP ?_ (z_head I hb j hj 1 (by decide) (cP ?_ (z_equipN I j hj _ _ (by decide) (cP rfl (H M (EV.no I e he)))))))))
    · rw [if_neg (fun y => h8.mp y eq)]
    · exact congrArg nI eq.1.symm
    · exact congrArg nI eq.2.symm
  · have n0 : up (up s.1 (12 + 10 * j + 0) w) (12 + 10 * j + 1) u 0 = s.1 0 := by rw [up_ne (by omega), up_ne (by omega)]
    have hj1 : j < up (up s.1 (12 + 10 * j + 0) w) (12 + 10 * j + 1) u 0 := by rw [n0]; exact hj
    refine m_eq (cP ?_ (z_head I1 hb j hj1 0 (by decide) (cP ?_ (z_head I1 hb j hj1 1 (by decide) (cP ?_ (z_equipN I1 j hj1 _ _ (by decide) (cP rfl (H M1 (EV.yes I1 I.k4 e he (we_equip e g8 g60 hj w u))))))))))
    · rw [if_pos (h8.mpr ne)]
    · show nI (up (up s.1 (12 + 10 * j + 0) w) (12 + 10 * j + 1) u (12 + 10 * j + 0)) = _
      rw [up_ne (by omega), up_eq]
    · show nI (up (up s.1 (12 + 10 * j + 0) w) (12 + 10 * j + 1) u (12 + 10 * j + 1)) = _
      rw [up_eq]
theorem z_set269 {K : Int32 → Mem → Prop} (I : CI M b s Hs k z f q tl tx) (e : WEs s) (he : ∀ i, i < k → WEs (Hs i)) (hb : b ≤ 20480) (j : Nat) (hj : j < s.1 0) (u : Nat) (hu : u ≤ 2) (a3 : Int32) (H : ∀ M', EV M' b s Hs k → K 1 M') : w_L_sets_L269 (448 + zz) K M 1 a3 (nI j) (nI (s.1 (12 + 10 * j + 0))) (nI u) := by
  have w0 := I.2.2.2.1.2
  obtain ⟨a0, a1, -⟩ := w0.2.2.1 j hj
  refine z_low _ 1001 (by decide) (by decide) (fun w hw => ?_)
  by_cases e1 : s.1 (12 + 10 * j + 0) = w
  · refine cP (congrArg nI e1) ⟨k1 (zz := zz), z_head I hb j hj 1 (by decide) (m_eq ?_)⟩
    refine z_set306 I e he hb j hj w u (by omega) hu _ ?_ H
    show (if nI (s.1 (12 + 10 * j + 1)) = nI u then (1 : Int32) else 0) = 0 ↔ _
    by_cases e2 : s.1 (12 + 10 * j + 1) = u
    · rw [if_pos (congrArg nI e2)]
      exact ⟨fun y => absurd y (by decide), fun y => absurd ⟨e1.symm, e2.symm⟩ y⟩
    · rw [if_neg (fun y => e2 ((nI_eq (by omega) (by omega)).mp y))]
      exact ⟨fun _ y => e2 y.2.symm, fun _ => rfl⟩
  · exact cN (fun y => e1 ((nI_eq (by omega) (by omega)).mp y)) (z_set306 I e he hb j hj w u (by omega) hu _ ⟨fun _ y => e1 y.1.symm, fun _ => rfl⟩ H)
theorem z_set2 {K : Int32 → Mem → Prop} (I : CI M b s Hs k z f q tl tx) (e : WEs s) (he : ∀ i, i < k → WEs (Hs i)) (hb : b ≤ 20480) (p3 p4 : Int32) (H : ∀ M', EV M' b s Hs k → K 1 M') : w_L_sets (448 + zz) M 1 2 p3 p4 K := by
  have w0 := I.2.2.2.1.2
  have g8 := w0.n.1
  have g2 := w0.1.1
  refine ⟨k1 (zz := zz), z_count I 0 (by decide) (z_low p3 (s.1 0) (by omega) (by omega) (fun j hj => cN (by decide) (cN (by decide) (cP rfl (z_head I hb j hj 0 (by decide) ?_)))))⟩
  by_cases o : (p4 &&& (3 : Int32)) = 0
  · exact cP o (z_low _ 3 (by decide) (by decide) (fun u hu => z_set269 I e he hb j hj u (by omega) p4 H))
  · exact cN o (z_set269 I e he hb j hj 0 (by decide) p4 H)
theorem z_set3 {K : Int32 → Mem → Prop} (I : CI M b s Hs k z f q tl tx) (e : WEs s) (he : ∀ i, i < k → WEs (Hs i)) (hb : b ≤ 20480) (p3 p4 : Int32) (H : ∀ M', EV M' b s Hs k → K 1 M') : w_L_sets (448 + zz) M 1 3 p3 p4 K := by
  have w0 := I.2.2.2.1.2
  have g8 := w0.n.1
  have g60 := w0.n.2
  have g2 := w0.1.1
  refine ⟨k1 (zz := zz), z_count I 0 (by decide) (z_low p3 (s.1 0) (by omega) (by omega) (fun j hj => cN (by decide) (cN (by decide) (cN (by decide) (z_head I hb j hj 2 (by decide) (z_head I hb j hj 3 (by decide) (m_eq (z_gauge I j hj 0 (by decide) (z_low p4 99999 (by decide) (by decide) (fun v hv => ?_))))))))))⟩
  rw [show (1 : Int32) + nI v = nI (1 + v) from nI_add 1 v]
  refine z_calibrate I hb j hj (1 + v) (by omega) (by omega) (fun h3 => ?_) (fun h3 M1 q1 I1 => ?_)
  · refine cF ?_ (cP rfl (H M (EV.no I e he)))
    show ¬ (if hp (s.1 (12 + 10 * j + 3)) < 0 then (0 : Int32) else 1) = 0
    have := (w0.2.2.2.1 j hj h3).1
    rw [if_neg (fun y => h3 ((hp_neg (by omega)).mp y))]
    decide
  · refine cT ?_ ?_
    · show (if hp (s.1 (12 + 10 * j + 3)) < 0 then (0 : Int32) else 1) = 0
      rw [h3]; decide
    have hj1 : j < up s.1 (12 + 10 * j + 2) 0 0 := by rw [up_ne (by omega)]; exact hj
    refine z_gauge I1 j hj1 1 (by decide) ?_
    dsimp only
    rw [show up s.2.1 (4 + 12 * j) (calV s.2.1 s.1 j (1 + v)) (3 + 12 * j + 1) = calV s.2.1 s.1 j (1 + v) from up_at (by omega)]
    obtain ⟨a0, a1, a2, a3, a4, a5, a6, a7, a8⟩ := w0.2.2.1 j hj
    obtain ⟨r1, r2, -⟩ := w0.2.1
    obtain ⟨f1, f2, f3, f4, f5, f6⟩ := cal_fac r1 r2 (show 1 ≤ 1 + v by omega) (show 1 + v ≤ 99999 by omega) (show 1 ≤ s.1 0 - 1 by omega) (by omega) a7 (Nat.le_trans a3 hb) (calV s.2.1 s.1 j (1 + v)) rfl
    refine ⟨f2, m_eq ⟨f3, m_eq (cP rfl (z_head I1 hb j hj1 2 (by decide) (cP ?_ ?_)))⟩⟩
    · show nI (up s.1 (12 + 10 * j + 2) 0 (12 + 10 * j + 2)) = 0
      rw [up_eq]; rfl
    have fin := H M1 (EV.yes I1 I.k4 e he (we_cal e g8 g60 hj _ f1))
    by_cases g : Op.cmpValue (FP.dcmp (s.2.1 (3 + 12 * j)) FP.dconst1) CmpOp.l = 0
    · exact cP g (cP (f6 g) fin)
    · exact cN g (cF f4 (cF f5 fin))
theorem z_sets {K : Int32 → Mem → Prop} (I : CI M b s Hs k z f q tl tx) (e : WEs s) (he : ∀ i, i < k → WEs (Hs i)) (hb : b ≤ 20480) (i : Nat) (hi : i < 4) (p3 p4 : Int32) (H : ∀ M', EV M' b s Hs k → K 1 M') : w_L_sets (448 + zz) M 1 (nI i) p3 p4 K := by
  rcases (show i = 0 ∨ i = 1 ∨ i = 2 ∨ i = 3 by omega) with rfl | rfl | rfl | rfl
  · exact z_set0 I e he hb p3 p4 H
  · exact z_set1 I e he hb p3 p4 H
  · exact z_set2 I e he hb p3 p4 H
  · exact z_set3 I e he hb p3 p4 H
