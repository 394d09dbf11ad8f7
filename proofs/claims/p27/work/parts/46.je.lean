/-! THE PURE PART, 24: calibrating, running -/
variable {zz : Nat}
variable {M M' A : Mem} {b b' c h k tl : Nat} {s s' z : S3} {Hs : Nat → S3} {f : Bool} {q tx : Nat → Nat} {N N' P : Nat → Nat} {D D' : Nat → UInt64}
def calV (D : Nat → UInt64) (N : Nat → Nat) (h m : Nat) : UInt64 := fcE (exE (D 0) (decn (nI m) (BY 100) (D 0) (N 0 - 1)) (N 0 - 1)) (D (3 + 12 * h))
def calM (M : Mem) (c h : Nat) (v : UInt64) : Mem := sD (sI M (c + 5 + h) 5 0) (c + 5 + h) 2 v
theorem onC_cal (hh : h < 8) (v : UInt64) : OnC c M (calM M c h v) := (onC_I (by omega) (by omega)).trans (onC_D (by omega) (by omega))
theorem cr_cal (cr : CR M c N D P) (w : WF N D P b) (hh : h < N 0) (v : UInt64) : CR (calM M c h v) c (up N (12 + 10 * h + 2) 0) (up D (4 + 12 * h) v) P := by
  have g8 := w.1.2.1
  obtain ⟨x3, x4, x5, x6, x10, x11, x12, x13⟩ := cr.2.2.2.1 h (by omega)
  obtain ⟨y1, y2, y3⟩ := cr.2.2.2.2.1 h hh
  refine cr_updh cr h hh g8 w.1.2.2.2.1 w.t10 (fun r k hr => ?_) (fun r k hr => ?_) rfl ?_ (fun j hj => up_ne (by omega)) (fun h' _ e k hk => up_ne (by omega)) (fun x hx => up_ne (by omega)) (fun j hj => up_ne (by omega)) (fun h' _ e k hk => up_ne (by omega)) (fun q hq => up_ne (by omega)) ?_ ?_
  · unfold calM; rw [gI_sD, gI_ne (Or.inl hr)]
  · unfold calM; rw [gD_ne (Or.inl hr), gD_sI]
  · unfold calM; rw [gI_sD, gI_ne (Or.inr (by decide))]
  · unfold HI calM
    simp (disch := omega) only [gI_sD, gI_ne, gI_eq, up_ne, up_eq]
    exact ⟨x3, x4, rfl, x6, x10, x11, x12, x13⟩
  · unfold HD calM
    simp (disch := omega) only [gD_ne, gD_eq, gD_sI, gI_sD, gI_ne, up_ne, up_eq]
    refine ⟨y1, trivial, fun e => ?_⟩
    exact y3 e
theorem wf_cal (w : WF N D P b) (hb : b ≤ 20480) (hh : h < N 0) (m : Nat) (h1 : 1 ≤ m) (h2 : m ≤ 99999) : WF (up N (12 + 10 * h + 2) 0) (up D (4 + 12 * h) (calV D N h m)) P b := by
  have g0 := w.1.1
  have g8 := w.1.2.1
  obtain ⟨a0, a1, a2, a3, a4, a5, a6, a7, a8⟩ := w.2.2.1 h hh
  obtain ⟨r1, r2, -⟩ := w.2.1
  refine wf_updh w hh (fun j hj => up_ne (by omega)) (fun h' _ e k hk => up_ne (by omega)) (fun x hx => up_ne (by omega)) (fun j hj => up_ne (by omega)) (fun h' _ e k hk => up_ne (by omega)) (fun k hk => up_ne (by omega)) ?_ (up_ne (by omega)) (up_ne (by omega)) (up_ne (by omega)) (up_ne (by omega))
  unfold WH
  simp (disch := omega) only [up_ne, up_eq]
  exact ⟨a0, a1, Nat.zero_le _, a3, a4, a5, a6, a7, (cal_ok r1 r2 h1 h2 (by omega) (by omega) a7 (Nat.le_trans a3 hb)).2.2.2.2.2.1⟩
def itP (N : Nat → Nat) (D : Nat → UInt64) (P : Nat → Nat) : Nat → Nat → Nat
  | 0 => P
  | n + 1 => stP (itS N D n).1 (itS N D n).2.1 (itP N D P n)
def itT (s : S3) (n : Nat) : S3 := ((itS s.1 s.2.1 n).1, (itS s.1 s.2.1 n).2.1, itP s.1 s.2.1 s.2.2 n)
theorem wf_it (w : WFs s b) (n : Nat) (hb : b + n ≤ 20481) : WFs (itT s n) (b + n) := by
  induction n with
  | zero => exact w
  | succ n ih =>
    have := ih (by omega)
    exact wf_step this (show b + n ≤ 20480 by omega)
theorem c_steps {K : Int32 → Mem → Prop} (I : CI M b s Hs k z f q tl tx) (n : Nat) (hn : n ≤ 40) (hb : b + n ≤ 20480) (H : ∀ M', CI M' (b + n) (itT s n) Hs k z f q tl tx → FrC M M' → K (nI (itS s.1 s.2.1 n).2.2) M') : w_X5_doSteps_L8 (448 + zz) K 4000 M 1 (nI n) 0 0 := by
  refine lpU (fun f' i M' => w_X5_doSteps_L8 (448 + zz) K f' M' 1 (nI n) (nI (itS s.1 s.2.1 i).2.2) (nI i)) (fun i M' => CI M' (b + i) (itT s i) Hs k z f q tl tx ∧ FrC M M') n ?_ ?_ 4000 0 M (by omega) (by omega) ⟨I, fun _ _ => Same.rf _ _⟩
  · intro f' M' ⟨J, F⟩
    exact pk_le n n (fun _ => H M' J F) (fun z => by omega)
  · intro f' i M' hi ⟨J, F⟩ ih
    refine pk_le n i (fun z => by omega) (fun _ => ⟨(k1 (zz := zz)), m_rR J.1.1 ⟨kc0 (zz := zz) car2, c_step J.2.2.2.1.1 J.2.2.2.1.2 (by omega) (fun M2 cr2 o2 => ?_)⟩⟩)
    have J2 : CI M2 (b + (i + 1)) (itT s (i + 1)) Hs k z f q tl tx := J.act o2 cr2 (wf_step J.2.2.2.1.2 (show b + i ≤ 20480 by omega)) (by omega)
    have nx := ih M2 ⟨J2, F.trans (o2.fc car2)⟩
    have ec : (itS s.1 s.2.1 (i + 1)).2.2 = (itS s.1 s.2.1 i).2.2 + stE (itT s i).1 := rfl
    rw [ec] at nx
    have he : stE (itT s i).1 = 0 ∨ stE (itT s i).1 = 1 := by
      unfold stE; split
      · exact Or.inl rfl
      · exact Or.inr rfl
    rcases he with e | e <;> rw [e] at nx ⊢
    · refine cT rfl (m_eq ?_)
      rw [nI_1]; exact nx
    · refine cF (by decide) (m_eq (m_eq ?_))
      rw [nI_1, nI_1]; exact nx
