/-! THE PURE PART, 24: calibrating, running -/
variable {M M' A : Mem} {b b' c h k tl : Nat} {s s' z : S3} {Hs : Nat → S3} {f : Bool} {q tx : Nat → Nat} {N N' P : Nat → Nat} {D D' : Nat → UInt64}
def calV (D : Nat → UInt64) (N : Nat → Nat) (h m : Nat) : UInt64 := fcE (exE (D 0) (decn (nI m) (BY 100) (D 0) (N 0 - 1)) (N 0 - 1)) (D (3 + 12 * h))
def calM (M : Mem) (c h : Nat) (v : UInt64) : Mem := sD (sI M (c + 5 + h) 5 0) (c + 5 + h) 2 v
theorem onC_cal (hh : h < 8) (v : UInt64) : OnC c M (calM M c h v) := (onC_I (by omega) (by omega)).trans (onC_D (by omega) (by omega))
theorem cr_cal (cr : CR M c N D P) (w : WF N D P b) (hh : h < N 0) (v : UInt64) : CR (calM M c h v) c (up N (12 + 10 * h + 2) 0) (up D (4 + 12 * h) v) P := by
  have g8 := w.1.2.1
  obtain ⟨x3, x4, x5, x6, x10, x11, x12, x13⟩ := cr.2.2.2.1 h (by omega)
  obtain ⟨y1, y2, y3⟩ := cr.2.2.2.2.1 h hh
  refine cr_updh cr h hh g8 w.1.2.2.2.1 w.t10 (fun r k hr => ?_) (fun r k hr => ?_) rfl ?_ (fun j hj => up_ne (by omega)) (fun h' _ e k hk => up_ne (by omega)) (fun x hx => up_ne (by omega)) (fun j hj => up_ne (by omega)) (fun h' _ e k hk => up_ne (by omega)) (fun q hq => up_ne (by omega)) ?_ ?_
  · unfold calM; rw [gI_sD, gI_ne (Or.inl hr)]
  · unfold calM; rw [gD_ne (Or.inl hr), gD_sI]
  · unfold calM; rw [gI_sD, gI_ne (Or.inr (by decide))]
  · unfold HI calM
    simp (disch := omega) only [gI_sD, gI_ne, gI_eq, up_ne, up_eq]
    exact ⟨x3, x4, rfl, x6, x10, x11, x12, x13⟩
  · unfold HD calM
    simp (disch := omega) only [gD_ne, gD_eq, gD_sI, gI_sD, gI_ne, up_ne, up_eq]
    refine ⟨y1, trivial, fun e => ?_⟩
    exact y3 e
theorem wf_cal (w : WF N D P b) (hb : b ≤ 20480) (hh : h < N 0) (m : Nat) (h1 : 1 ≤ m) (h2 : m ≤ 99999) : WF (up N (12 + 10 * h + 2) 0) (up D (4 + 12 * h) (calV D N h m)) P b := by
  have g0 := w.1.1
  have g8 := w.1.2.1
  obtain ⟨a0, a1, a2, a3, a4, a5, a6, a7, a8⟩ := w.2.2.1 h hh
  obtain ⟨r1, r2, -⟩ := w.2.1
  refine wf_updh w hh (fun j hj => up_ne (by omega)) (fun h' _ e k hk => up_ne (by omega)) (fun x hx => up_ne (by omega)) (fun j hj => up_ne (by omega)) (fun h' _ e k hk => up_ne (by omega)) (fun k hk => up_ne (by omega)) ?_ (up_ne (by omega)) (up_ne (by omega)) (up_ne (by omega)) (up_ne (by omega))
  unfold WH
  simp (disch := omega) only [up_ne, up_eq]
  exact ⟨a0, a1, Nat.zero_le _, a3, a4, a5, a6, a7, (cal_ok r1 r2 h1 h2 (by omega) (by omega) a7 (Nat.le_trans a3 hb)).2.2.2.2.2.1⟩
theorem q_dec100 {K : UInt64 → Mem → Prop} (lk : Nat) (hl : lk ≤ 99999) (p : UInt64) (hp : PZ p) (n : Nat) (hn : n < 2 ^ 11) (H : K (decn (nI lk) (BY 100) p n) M) : w_X6_decayed 457 M 449 p (nI lk) 4681608360884174848 (nI n) K := by
  have h := q_dec lk 100 hl (by decide) (by decide) p hp n (by omega) H 4000 0 (by omega) (by omega)
  rw [by100] at h
  exact h
theorem y_calibrate {K : Int32 → Mem → Prop} (V : INV M b) (hb : b ≤ 20480) (x y : Int32) (H : ∀ a M1, An (w_X6_calibrate 457 M1 449 x y) a b → K a M1) : w_X5_calibrate 457 M 1 x y K := by
  obtain ⟨s, Hs, k, z, f, q, tl, tx, I, R⟩ := id V
  have cr0 := I.2.2.2.1.1
  have w0 := I.2.2.2.1.2
  have c2 := kc0 car2
  refine ⟨k1, m_rR I.1.1 ⟨c2, ?_⟩⟩
  rcases argc x (n := s.1 0) (by have := w0.n.1; omega) with e | ⟨j, hj, rfl⟩
  · exact c_headN cr0.1 cr0.2.1.2.1 e (cP rfl (H _ _ (fun K h => ⟨k449, q_noHeadN R.qq w0.n.1 e (cF (by decide) (h M V))⟩)))
  have g0 := w0.1.1
  have g8 := w0.n.1
  have hj8 : j < 8 := by omega
  refine c_headY cr0.1 cr0.2.1.2.1 w0.n.1 j hj (cN (by omega) ?_)
  have bad : (y < 1 ∨ (99999 : Int32) < y) → K (-2) M := fun hbd => H _ _ (fun K h => ⟨k449, q_noHeadY R.qq w0.n.1 j hj (cT rfl (s_inF hbd (cP rfl (h M V))))⟩)
  by_cases y1 : y < 1
  · exact cT y1 (bad (Or.inl y1))
  refine cF y1 ?_
  by_cases y2 : y ≤ 99999
  · obtain ⟨m, m1, m2, rfl⟩ := rng 1 99999 rfl rfl (by decide) (by decide) y1 (not_lt_le y2)
    refine cT y2 ⟨kch car2 j hj8, ?_⟩
    obtain ⟨x3, x4, x5, x6, -⟩ := cr0.2.2.2.1 j hj8
    rw [x6]
    by_cases e3 : s.1 (12 + 10 * j + 3) = 0
    · refine cT (by rw [e3]; rfl) (c_remember I (fun M1 q1 I1 F1 => m_eq (m_rR I1.1.1 ⟨c2, ?_⟩)))
      have cr := I1.2.2.2.1.1
      have wf := I1.2.2.2.1.2
      obtain ⟨X3, X4, X5, X6, X10, X11, X12, X13⟩ := cr.2.2.2.1 j hj8
      obtain ⟨Y1, Y2, -⟩ := cr.2.2.2.2.1 j hj
      obtain ⟨a0, a1, a2, a3, a4, a5, a6, a7, a8⟩ := wf.2.2.1 j hj
      obtain ⟨r1, r2, -⟩ := wf.2.1
      obtain ⟨f1, f2, f3, f4, f5, f6, f7⟩ := cal_ok r1 r2 m1 m2 (show 1 ≤ s.1 0 - 1 by omega) (by omega) a7 (Nat.le_trans a3 hb)
      have C := cr.1
      have d0 : gD M1 (2 + 1) 3 = s.2.1 0 := (cr.2.2.1 0 (by decide)).2
      have n6 : gI M1 2 6 - (1 : Int32) = nI (s.1 0 - 1) := by
        rw [show gI M1 2 6 = nI (s.1 0) from cr.2.1.2.1]; exact pk_sub (b := 1) (by omega)
      have rr : gR M1 2 0 = 2 + 1 := C.2.1.1
      refine ⟨c2, m_rR rr ⟨kcP car2 0 (by decide), ?_⟩⟩
      rw [n6, d0]
      refine s5_dec m 100 m2 (by decide) (by decide) _ r1 (s.1 0 - 1) (by omega) (m_rR rr ⟨kcP car2 0 (by decide), ?_⟩)
      rw [n6, d0]
      refine ⟨f1, m_eq ⟨f2, m_eq ⟨f3, m_eq ⟨kch car2 j hj8, m_eq ?_⟩⟩⟩⟩
      rw [show gD (sI M1 (2 + 5 + j) 5 0) (2 + 5 + j) 1 = s.2.1 (3 + 12 * j) from Y1]
      refine cF f7 ⟨f4, m_eq ⟨f5, m_eq (m_eq ?_)⟩⟩
      refine H _ _ (fun K h => ?_)
      have o : OnC 2 M1 (calM M1 2 j (calV s.2.1 s.1 j m)) := onC_cal hj8 _
      have R1 := (R.fr F1).fr (o.fc car2)
      change w_X6_calibrate 457 (calM M1 2 j (calV s.2.1 s.1 j m)) 449 (nI j) (nI m) K
      refine ⟨k449, q_noHeadY R1.qq g8 j hj (cT rfl (s_inT y1 (not_lt_le y2) (cN (by decide) (q_partOn0 R1.qq j hj8 e3 (cT (by decide) (r_rec R1 I.2.2.2.2.1.1 (fun M3 R3 F3 => ?_)))))))⟩
      refine q_r0 R3.qq (q_rI R3.qq 0 rfl (by decide) (fun x11 h11 => ?_))
      have h11 : x11 = nI (s.1 0 - 1) := h11.trans (pk_sub (b := 1) (by omega))
      rw [h11]
      refine q_r3 R3.qq (q_rD R3.qq 0 rfl (by decide) ?_)
      refine q_dec100 m m2 (s.2.1 0) r1 (s.1 0 - 1) (by omega) ?_
      refine q_r3 R3.qq (q_rD R3.qq 0 rfl (by decide) ⟨f1, m_eq ⟨f2, m_eq ⟨f3, m_eq (q_r3 R3.qq (q_gain R3.qq j hj8 ⟨f4, m_eq ⟨f5, m_eq (q_wD R3.qq (4 + 12 * j) ((ixG j 1).trans (congrArg nI (by omega))) (by omega) (fun M4 Q4 => q_ofHead Q4 j 2 hj8 (by decide) (q_r0 Q4 (q_wI Q4 (12 + 10 * j + 2) 0 (ixH j 2) (by omega) rfl (fun M5 Q5 => ?_)))))⟩⟩))⟩⟩⟩)
      rw [← X5]
      exact h M5 (inv_fin (s := (up s.1 (12 + 10 * j + 2) 0, up s.2.1 (4 + 12 * j) (calV s.2.1 s.1 j m), s.2.2)) (I1.act o (cr_cal cr wf hj _) (wf_cal wf hb hj m m1 m2) (Nat.le_refl b)) (R3.act Q5.2 Q5.1) (F3.trans Q5.2.fr))
    · obtain ⟨p, hp⟩ : ∃ p, s.1 (12 + 10 * j + 3) = p + 1 := ⟨s.1 (12 + 10 * j + 3) - 1, by omega⟩
      have := (w0.2.2.2.1 j hj e3).1
      have w2 := w0.n.2
      have np : ¬ nI p < 0 := nI_pos (by omega)
      refine cF ?_ (H _ _ (fun K h => ⟨k449, q_noHeadY R.qq g8 j hj (cT rfl (s_inT y1 (not_lt_le y2) (cN (by decide) (q_partOn1 R.qq j p hj8 hp (cF np (h M V))))))⟩))
      rw [hp, hp_s]
      intro e
      rw [e] at np
      exact np (by decide)
  · exact cF y2 (bad (Or.inr (not_le_lt y2)))
def itP (N : Nat → Nat) (D : Nat → UInt64) (P : Nat → Nat) : Nat → Nat → Nat
  | 0 => P
  | n + 1 => stP (itS N D n).1 (itS N D n).2.1 (itP N D P n)
def itT (s : S3) (n : Nat) : S3 := ((itS s.1 s.2.1 n).1, (itS s.1 s.2.1 n).2.1, itP s.1 s.2.1 s.2.2 n)
theorem wf_it (w : WFs s b) (n : Nat) (hb : b + n ≤ 20481) : WFs (itT s n) (b + n) := by
  induction n with
  | zero => exact w
  | succ n ih =>
    have := ih (by omega)
    exact wf_step this (show b + n ≤ 20480 by omega)
theorem c_steps {K : Int32 → Mem → Prop} (I : CI M b s Hs k z f q tl tx) (n : Nat) (hn : n ≤ 40) (hb : b + n ≤ 20480) (H : ∀ M', CI M' (b + n) (itT s n) Hs k z f q tl tx → FrC M M' → K (nI (itS s.1 s.2.1 n).2.2) M') : w_X5_doSteps_L8 457 K 4000 M 1 (nI n) 0 0 := by
  refine lpU (fun f' i M' => w_X5_doSteps_L8 457 K f' M' 1 (nI n) (nI (itS s.1 s.2.1 i).2.2) (nI i)) (fun i M' => CI M' (b + i) (itT s i) Hs k z f q tl tx ∧ FrC M M') n ?_ ?_ 4000 0 M (by omega) (by omega) ⟨I, fun _ _ => Same.rf _ _⟩
  · intro f' M' ⟨J, F⟩
    exact pk_le n n (fun _ => H M' J F) (fun z => by omega)
  · intro f' i M' hi ⟨J, F⟩ ih
    refine pk_le n i (fun z => by omega) (fun _ => ⟨k1, m_rR J.1.1 ⟨kc0 car2, c_step J.2.2.2.1.1 J.2.2.2.1.2 (by omega) (fun M2 cr2 o2 => ?_)⟩⟩)
    have J2 : CI M2 (b + (i + 1)) (itT s (i + 1)) Hs k z f q tl tx := J.act o2 cr2 (wf_step J.2.2.2.1.2 (show b + i ≤ 20480 by omega)) (by omega)
    have nx := ih M2 ⟨J2, F.trans (o2.fc car2)⟩
    have ec : (itS s.1 s.2.1 (i + 1)).2.2 = (itS s.1 s.2.1 i).2.2 + stE (itT s i).1 := rfl
    rw [ec] at nx
    have he : stE (itT s i).1 = 0 ∨ stE (itT s i).1 = 1 := by
      unfold stE; split
      · exact Or.inl rfl
      · exact Or.inr rfl
    rcases he with e | e <;> rw [e] at nx ⊢
    · refine cT rfl (m_eq ?_)
      rw [nI_1]; exact nx
    · refine cF (by decide) (m_eq (m_eq ?_))
      rw [nI_1, nI_1]; exact nx
theorem r_goes {K : Int32 → Mem → Prop} (R : RF M s Hs k z f tl tx) (w : WFs s b) (n : Nat) (hn : n ≤ 40) (hb : b + n ≤ 20480) (H : ∀ M', RF M' (itT s n) Hs k z f tl tx → FrR M M' → K (nI (itS s.1 s.2.1 n).2.2) M') : w_X6_goes 457 M 449 (nI n) K := by
  refine q_goes R.qq n hn (fun i hi => ?_) (fun M' Q' => H M' (R.act (s' := itT s n) Q'.2 Q'.1) Q'.2.fr)
  have := wf_it w i (by omega)
  exact WF.st (P := itP s.1 s.2.1 s.2.2 i) (b := b + i) this (by omega)
theorem y_run {K : Int32 → Mem → Prop} (V : INV M b) (hb : b + 40 ≤ 20480) (x : Int32) (H : ∀ v M1, An (w_X6_run 457 M1 449 x) v (b + 40) → K v M1) : w_X5_run 457 M 1 x K := by
  obtain ⟨s, Hs, k, z, f, q, tl, tx, I, R⟩ := id V
  have V' := V.mono (show b ≤ b + 40 by omega)
  by_cases h1 : x < 1
  · exact cT h1 (H _ _ (fun K h => s_inF (Or.inl h1) (cP rfl (h M V'))))
  refine cF h1 ?_
  by_cases h2 : x ≤ 40
  · obtain ⟨n, n1, n2, rfl⟩ := rng 1 40 rfl rfl (by decide) (by decide) h1 (not_lt_le h2)
    refine cT h2 ⟨k1, k1, c_remember I (fun M1 q1 I1 F1 => c_steps I1 n n2 (by omega) (fun M2 I2 F2 => H _ _ (fun K h => ?_)))⟩
    have R2 := (R.fr F1).fr F2
    refine s_inT h1 (not_lt_le h2) (cN (by decide) ⟨k449, r_rec R2 I.2.2.2.2.1.1 (fun M3 R3 F3 => r_goes R3 I.2.2.2.1.2 n n2 (by omega) (fun M4 R4 F4 => h M4 ?_))⟩)
    exact (inv_fin I2 R4 (F3.trans F4)).mono (by omega)
  · exact cF h2 (H _ _ (fun K h => s_inF (Or.inr (not_le_lt h2)) (cP rfl (h M V'))))
