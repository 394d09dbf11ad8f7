/-! p27, 8: traces and heads are sound -/
variable {zz : Nat}
variable {M M' A : Mem} {b b' c h p k k' tl tl' : Nat} {s s' z z' : S3} {Hs : Nat → S3} {f f' : Bool} {q tx tx' : Nat → Nat} {N N' : Nat → Nat}
theorem nan_ne : ¬ Op.cmpValue (FP.dcmp NaN64 NaN64) CmpOp.l = 0 := by decide +kernel
theorem pz_eq {x : UInt64} (hx : PZ x) : Op.cmpValue (FP.dcmp x x) CmpOp.l = 0 := dself_ok (Nat.le_trans hx (by decide))
theorem until_eq {h n m : Nat} (hh : h < n) (h2 : 2 ≤ n) (h8 : n ≤ 8) (hm : m < 2 ^ 30) : (nI h + (64 : Int32) * nI n - (nI m - nI m / nI n * nI n)) - (nI h + (64 : Int32) * nI n - (nI m - nI m / nI n * nI n)) / nI n * nI n = nI ((h + n - m % n) % n) := by
  have sa : m % n < n := Nat.mod_lt _ (by omega)
  rw [pk_rem (by omega) (by omega) (by omega), show (64 : Int32) * nI n = nI (64 * n) from pk_mul 64 n, nI_add, pk_sub (by omega), pk_rem (by omega) (by omega) (by omega)]
  congr 1
  rw [show h + 64 * n - m % n = (h + n - m % n) + n * 63 by omega, Nat.add_mul_mod_self_left]
theorem dst_until (hh : h < N 0) (g : 2 ≤ N 0) : (h + N 0 - stA N) % N 0 + dst N h = N 0 ∧ 1 ≤ dst N h := by
  have sa : stA N < N 0 := Nat.mod_lt _ (by omega)
  rw [mod_back hh sa]
  unfold dst
  by_cases e : h < stA N
  · rw [if_neg (by omega), if_pos e]; omega
  · rw [if_pos (by omega), if_neg e]; omega
theorem disp_ne {x : UInt64} (hx : PZ x) : ¬ UInt32.toInt32 (FP.d2f x) = -5 := by
  rw [u32_i]
  exact nI_ne5 (by have := d2f_lo hx; omega)
theorem z_tr159 {K : Int32 → Mem → Prop} (I : CI M b s Hs k z f q tl tx) (j : Nat) (hj : j < s.1 0) (h3 : s.1 (12 + 10 * j + 3) = p + 1) (ht : s.1 (12 + 10 * j + 8) = dst s.1 j) (H : K 1 M) : ∀ r i f2, i + r = s.1 (12 + 10 * j + 8) → 1 ≤ i → r < f2 → w_L_traces_L159 (448 + zz) K f2 M 1 (nI j) (nI (s.1 0)) (nI ((j + s.1 0 - stA s.1) % s.1 0)) (nI (s.1 (92 + 8 * p + 1))) (BY (s.1 (92 + 8 * p + 2))) (s.2.1 (5 + 12 * j + (i - 1))) (nI i) := by
  have w0 := I.2.2.2.1.2
  have g8 := w0.n.1
  have g2 := w0.1.1
  have p0 : s.1 (12 + 10 * j + 3) ≠ 0 := by omega
  obtain ⟨o1, o2, o3, o4, o5, o6⟩ := w0.2.2.2.1 j hj p0
  have p2 : p < s.1 2 := by omega
  obtain ⟨q0, q1, q2, q3, -⟩ := w0.2.2.2.2.2.2.1 p p2
  rw [h3, Nat.add_sub_cancel] at o6
  obtain ⟨d1, d2⟩ := dst_until hj g2
  have un : nI (s.1 0) - nI ((j + s.1 0 - stA s.1) % s.1 0) = nI (s.1 (12 + 10 * j + 8)) := by
    rw [pk_sub (by omega)]
    congr 1
    omega
  have t8 := WF.t8 w0 hj p0
  intro r
  induction r with
  | zero =>
    intro i f2 hi h1 hf
    obtain ⟨f3, rfl⟩ : ∃ f3, f2 = f3 + 1 := ⟨f2 - 1, by omega⟩
    unfold w_L_traces_L159
    rw [un]
    refine pk_le (s.1 (12 + 10 * j + 8)) i (fun _ => ⟨k1 (zz := zz), z_traceP I j hj _ p0 (fun _ => ?_) (fun i' hi' e => ?_)⟩) (fun _ => by omega)
    · refine z_traceP I j hj _ p0 (fun _ => ?_) (fun i' hi' e => ?_)
      · refine z_gaugeP I j hj p0 3 (Or.inr rfl) ?_
        rw [if_neg (by decide), show s.1 (12 + 10 * j + 8) - 1 = i - 1 by omega]
        exact cP (pz_eq (o5 _ (by omega))) (cF nan_ne (cF nan_ne H))
      · exact absurd (by rw [← e]; decide) (nI_pos (n := i') (by omega))
    · have := (nI_eq (by omega) (by omega)).mp e
      omega
  | succ r ih =>
    intro i f2 hi h1 hf
    obtain ⟨f3, rfl⟩ : ∃ f3, f2 = f3 + 1 := ⟨f2 - 1, by omega⟩
    unfold w_L_traces_L159
    rw [un]
    refine pk_le (s.1 (12 + 10 * j + 8)) i (fun _ => by omega) (fun _ => ?_)
    obtain ⟨v1, v2, v3, v4⟩ := dec_ok (o5 (i - 1) (by omega)) q1 q2 q3
    have nx := o6 (i - 1) (by omega)
    rw [show i - 1 + 1 = i by omega] at nx
    refine ⟨v1, m_eq ⟨v2, m_eq ⟨v3, m_eq (m_eq ⟨k1 (zz := zz), z_traceP I j hj _ p0 (fun e => ?_) (fun i' hi' e => ?_)⟩)⟩⟩⟩
    · exfalso
      rcases e with e | e
      · exact nI_pos (by omega) e
      · have := (nI_leI (by omega) (by omega)).mp e; omega
    · have e := (nI_eq (by omega) (by omega)).mp e
      subst e
      have nx' : (if 0 ≤ (Op.cmpValue (FP.dcmp (FP.dsub (s.2.1 (5 + 12 * j + (i - 1))) (FP.ddiv (FP.dmul (s.2.1 (5 + 12 * j + (i - 1))) (FP.i2d (nI (s.1 (92 + 8 * p + 1))))) (BY (s.1 (92 + 8 * p + 2))))) FP.dconst0) CmpOp.g) then (FP.dsub (s.2.1 (5 + 12 * j + (i - 1))) (FP.ddiv (FP.dmul (s.2.1 (5 + 12 * j + (i - 1))) (FP.i2d (nI (s.1 (92 + 8 * p + 1))))) (BY (s.1 (92 + 8 * p + 2))))) else FP.dconst0) = s.2.1 (5 + 12 * j + i) := nx.symm
      rw [nx']
      refine cT (pz_eq (o5 _ hi')) (m_eq ?_)
      rw [nI_1]
      have := ih (i + 1) f3 (by omega) (by omega) (by omega)
      rw [Nat.add_sub_cancel] at this
      exact this
theorem z_traces {K : Int32 → Mem → Prop} (I : CI M b s Hs k z f q tl tx) (e : WEs s) (hb : b ≤ 20480) (j : Nat) (hj : j < s.1 0) (H : K 1 M) : w_L_traces (448 + zz) M 1 (nI j) K := by
  have w0 := I.2.2.2.1.2
  have g8 := w0.n.1
  have g2 := w0.1.1
  have b1 := w0.1.2.2.1
  have n0 : ¬ nI (s.1 0) = 0 := nI_ne0 (by omega) (by omega)
  refine ⟨k1 (zz := zz), z_head I hb j hj 3 (by decide) (z_count I 0 (by decide) (z_head I hb j hj 8 (by decide) ?_))⟩
  have u8 : hT s j 8 = nI ((j + s.1 0 - stA s.1) % s.1 0) := rfl
  have u3 : hT s j 3 = hp (s.1 (12 + 10 * j + 3)) := rfl
  by_cases p0 : s.1 (12 + 10 * j + 3) = 0
  · refine z_traceE I j hj _ p0 (z_count I 1 (by decide) ⟨n0, m_eq ⟨n0, m_eq ?_⟩⟩)
    rw [u8, u3, p0]
    refine cT (until_eq hj g2 g8 (by omega)).symm (cF (by decide) ?_)
    refine z_gaugeN I j hj p0 3 (by decide) (by decide) (cF nan_ne (cF nan_ne (z_display I j hj ?_)))
    unfold dT
    rw [if_pos p0]
    exact cP rfl H
  · obtain ⟨p, hp⟩ : ∃ p, s.1 (12 + 10 * j + 3) = p + 1 := ⟨s.1 (12 + 10 * j + 3) - 1, by omega⟩
    obtain ⟨o1, o2, o3, o4, o5, o6⟩ := w0.2.2.2.1 j hj p0
    have g60 := w0.n.2
    have p2 : p < s.1 2 := by omega
    obtain ⟨q0, q1, q2, q3, -⟩ := w0.2.2.2.2.2.2.1 p p2
    have ht := e.2.2.1 j hj (by omega) p0
    have t8 := WF.t8 w0 hj p0
    refine z_traceP I j hj _ p0 (fun y => ?_) (fun i hi y => ?_)
    · exfalso
      rcases y with y | y
      · exact absurd y (by decide)
      · have := (nI_leI (b := 0) (by omega) (by decide)).mp y; omega
    have y := (nI_eq (a := 0) (by decide) (by omega)).mp y
    subst y
    refine z_count I 1 (by decide) ⟨n0, m_eq ⟨n0, m_eq ?_⟩⟩
    rw [u8, u3, hp, hp_s]
    refine cT (until_eq hj g2 g8 (by omega)).symm (cT (nI_pos' (by omega)) ?_)
    refine z_part I p p2 1 (by decide) (z_part I p p2 2 (by decide) ?_)
    refine ⟨by_ok q2 q3, m_eq (z_gaugeP I j hj p0 2 (Or.inl rfl) (z_part I p p2 3 (by decide) ?_))⟩
    have st : s.1 (92 + 8 * p + 3) = 1 := by
      rw [hp, Nat.add_sub_cancel] at o2; exact o2
    have ps : pT s p 3 = 1 := by
      show nI (s.1 (92 + 8 * p + 3)) = 1
      rw [st]; rfl
    rw [if_pos rfl]
    refine cP ps (cP (pz_eq (o5 0 (by omega))) (z_display I j hj ?_))
    unfold dT
    rw [if_neg p0]
    refine cN (disp_ne (o5 _ (by omega))) ?_
    exact z_tr159 I j hj hp ht H (s.1 (12 + 10 * j + 8) - 1) 1 4000 (by omega) (by decide) (by have := WF.t8 w0 hj p0; omega)
theorem sm_ext (f : Nat → Nat) (n m : Nat) (h : n ≤ m) (z : ∀ q, n ≤ q → q < m → f q = 0) : sm f m = sm f n := by
  induction m with
  | zero => have : n = 0 := by omega
            subst this; rfl
  | succ m ih =>
    by_cases e : n = m + 1
    · rw [e]
    · unfold sm
      rw [ih (by omega) (fun q a c => z q a (by omega)), z m (by omega) (by omega)]
      cases n <;> rfl
theorem sm_add3 (f g u v : Nat → Nat) : ∀ n, (∀ q, q < n → f q = g q + u q + v q) → sm f n = sm g n + sm u n + sm v n := by
  intro n
  induction n with
  | zero => intro _; rfl
  | succ n ih =>
    intro h
    unfold sm
    rw [ih (fun q hq => h q (by omega)), h n (by omega)]
    omega
theorem z_heads15 {K : Int32 → Mem → Prop} (I : CI M b s Hs k z f q tl tx) (e : WEs s) (hb : b ≤ 20480) (H : K 1 M) : ∀ r j f2, j + r = s.1 0 → r < f2 → w_L_heads_L15 (448 + zz) K f2 M 1 (nI (sm (fun h => s.1 (12 + 10 * h + 4)) j)) (nI (sm (fun h => s.1 (12 + 10 * h + 5)) j)) (nI (sm (fun h => s.1 (12 + 10 * h + 6)) j)) (nI (sm (fun h => s.1 (12 + 10 * h + 7)) j)) (nI (cH s.1 j)) (nI j) := by
  have w0 := I.2.2.2.1.2
  have g8 := w0.n.1
  have g2 := w0.1.1
  have wz := w0.2.2.2.2.1
  obtain ⟨d0, d1, d2, d3, d4⟩ := w0.2.2.2.2.2.2.2.2
  obtain ⟨t1, t2, t3⟩ := e.2.2.2
  have ex : ∀ k, k < 10 → sm (fun h => s.1 (12 + 10 * h + k)) 8 = sm (fun h => s.1 (12 + 10 * h + k)) (s.1 0) := fun k hk => sm_ext _ _ _ g8 (fun q h1 h2 => wz q h1 h2 k hk)
  intro r
  induction r with
  | zero =>
    intro j f2 hj hf
    obtain ⟨f3, rfl⟩ : ∃ f3, f2 = f3 + 1 := ⟨f2 - 1, by omega⟩
    have hj : j = s.1 0 := by omega
    subst hj
    rw [← ex 4 (by decide), ← ex 5 (by decide), ← ex 6 (by decide), ← ex 7 (by decide)]
    refine ⟨k1 (zz := zz), z_count I 0 (by decide) (pk_le (s.1 0) (s.1 0) (fun _ => ?_) (fun _ => by omega))⟩
    refine z_count I 7 (by decide) (cP (congrArg nI d3) ?_)
    refine z_count I 8 (by decide) (cP (congrArg nI d4) ?_)
    refine z_count I 5 (by decide) (cP ?_ ?_)
    · refine congrArg nI (t2.trans ?_)
      exact (cS_cnt s.1 2 (s.1 2)).symm
    refine z_count I 6 (by decide) (z_count I 14 (by decide) (cP ?_ ?_))
    · have c6 : cT_ s 6 = cnt (fun q => s.1 (92 + 8 * q + 3)) 3 (s.1 2) := cS_cnt s.1 3 (s.1 2)
      have c14 : cT_ s 14 = s.1 10 := rfl
      rw [c6, c14, pk_sub (by omega)]
      congr 1
      omega
    refine cP ?_ ?_
    · rw [nI_add, nI_add]
      congr 1
      rw [ex 4 (by decide), ex 5 (by decide), ex 6 (by decide), ex 7 (by decide)]
      exact sm_add3 _ _ _ _ _ (fun q hq => (e.2.1 q hq).2.1)
    refine z_count I 4 (by decide) (cP ?_ ?_)
    · exact congrArg nI d1.symm
    refine z_count I 0 (by decide) (z_headN I _ _ (Or.inr ?_) (cP rfl (z_displayN I _ (Or.inl (by decide)) (cP rfl H))))
    exact nI_le (Nat.le_refl _) (by show s.1 0 < 2 ^ 31; omega)
  | succ r ih =>
    intro j f2 hj hf
    obtain ⟨f3, rfl⟩ : ∃ f3, f2 = f3 + 1 := ⟨f2 - 1, by omega⟩
    have hjn : j < s.1 0 := by omega
    refine ⟨k1 (zz := zz), z_count I 0 (by decide) (pk_le (s.1 0) j (fun _ => by omega) (fun _ => ?_))⟩
    refine z_head I hb j hjn 4 (by decide) (m_eq (z_head I hb j hjn 5 (by decide) (m_eq (z_head I hb j hjn 6 (by decide) (m_eq (z_head I hb j hjn 7 (by decide) (m_eq (z_head I hb j hjn 3 (by decide) (m_eq (m_eq ?_))))))))))
    refine z_traces I e hb j hjn (cF (by decide) (z_head I hb j hjn 2 (by decide) (z_head I hb j hjn 4 (by decide) (cT ?_ (m_eq ?_)))))
    · have := w0.2.2.1 j hjn
      have w4 := this.2.2.2.1
      exact nI_le (e.2.1 j hjn).1 (by omega)
    · have h4 : hT s j 4 = nI (s.1 (12 + 10 * j + 4)) := rfl
      have h5 : hT s j 5 = nI (s.1 (12 + 10 * j + 5)) := rfl
      have h6 : hT s j 6 = nI (s.1 (12 + 10 * j + 6)) := rfl
      have h7 : hT s j 7 = nI (s.1 (12 + 10 * j + 7)) := rfl
      have h3 : nI (cH s.1 j) + (if hT s j 3 < 0 then (0 : Int32) else (1 : Int32)) = nI (cH s.1 (j + 1)) := by
        show nI (cH s.1 j) + (if hp (s.1 (12 + 10 * j + 3)) < 0 then (0 : Int32) else (1 : Int32)) = nI (cH s.1 j + (if s.1 (12 + 10 * j + 3) = 0 then 0 else 1))
        by_cases p0 : s.1 (12 + 10 * j + 3) = 0
        · rw [p0, if_pos (by decide), if_pos rfl]
          exact nI_add _ 0
        · obtain ⟨p, hp⟩ : ∃ p, s.1 (12 + 10 * j + 3) = p + 1 := ⟨s.1 (12 + 10 * j + 3) - 1, by omega⟩
          have := (w0.2.2.2.1 j hjn p0).1
          have g60 := w0.n.2
          rw [hp, hp_s, if_neg (nI_pos (by omega)), if_neg (by omega)]
          exact nI_add _ 1
      rw [h3, h4, h5, h6, h7, nI_add, nI_add, nI_add, nI_add, nI_1]
      exact ih (j + 1) f3 (by omega) (by omega)
theorem z_heads {K : Int32 → Mem → Prop} (I : CI M b s Hs k z f q tl tx) (e : WEs s) (hb : b ≤ 20480) (H : K 1 M) : w_L_heads (448 + zz) M 1 K :=
  z_heads15 I e hb H (s.1 0) 0 4000 (by omega) (by have := I.2.2.2.1.2.n.1; omega)
