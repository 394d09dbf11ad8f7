/-! THE PURE PART, 21: both objects' invariants; remembering, undoing, keeping -/
variable {zz : Nat}
abbrev S3 : Type := (Nat → Nat) × (Nat → UInt64) × (Nat → Nat)
variable {M M' : Mem} {b b' k tl : Nat} {s z : S3} {Hs : Nat → S3} {f : Bool} {q tx : Nat → Nat}
def CRs (M : Mem) (c : Nat) (s : S3) : Prop := CR M c s.1 s.2.1 s.2.2
def WFs (s : S3) (b : Nat) : Prop := WF s.1 s.2.1 s.2.2 b
def CI (M : Mem) (b : Nat) (s : S3) (Hs : Nat → S3) (k : Nat) (z : S3) (f : Bool) (q : Nat → Nat) (tl : Nat) (tx : Nat → Nat) : Prop := (gR M 1 0 = 2 ∧ gR M 1 1 = 76 ∧ gR M 1 2 = 373 ∧ gR M 1 3 = 447 ∧ gR M 447 0 = 448) ∧ (∀ c, Car c → Sh M c) ∧ ((∀ i, i < 4 → gR M 76 i = q i ∧ Car (q i) ∧ q i ≠ 2 ∧ q i ≠ 373) ∧ ∀ i j, i < 4 → j < 4 → q i = q j → i = j) ∧ (CRs M 2 s ∧ WFs s b) ∧ (k ≤ 4 ∧ gI M 1 4 = nI k ∧ ∀ i, i < k → CRs M (q i) (Hs i) ∧ WFs (Hs i) b) ∧ (gI M 1 5 = (if f then 1 else 0) ∧ (f = true → CRs M 373 z ∧ WFs z b)) ∧ (tl ≤ 60 ∧ gI M 447 1 = nI tl ∧ ∀ j, j < 60 → tx j < 65536 ∧ gI M 448 j = nI (tx j))
def prj (Hs : Nat → S3) : Nat → (Nat → Nat) × (Nat → UInt64) := fun i => ((Hs i).1, (Hs i).2.1)
def FrR (M M' : Mem) : Prop := ∀ r, r ≤ 448 → Same M M' r
def FrC (M M' : Mem) : Prop := ∀ r, 449 ≤ r → Same M M' r
theorem FrC.trans {A B C : Mem} (h : FrC A B) (g : FrC B C) : FrC A C := fun r hr => (h r hr).trans (g r hr)
theorem FrR.trans {A B C : Mem} (h : FrR A B) (g : FrR B C) : FrR A C := fun r hr => (h r hr).trans (g r hr)
theorem Car.le {c : Nat} (h : Car c) : 2 ≤ c ∧ c + 74 ≤ 447 := by unfold Car at h; omega
theorem Car.ap {a c : Nat} (h : Car a) (g : Car c) (e : a ≠ c) : Apart a c := by unfold Car at h g; unfold Apart; omega
theorem Car.no76 {c r : Nat} (h : Car c) (h1 : c ≤ r) (h2 : r < c + 74) : r ≠ 76 ∧ r ≠ 1 ∧ r ≤ 446 := by unfold Car at h; omega
theorem WFs.n (w : WFs s b) : s.1 0 ≤ 8 ∧ s.1 2 ≤ 60 := ⟨w.1.2.1, w.1.2.2.2.1⟩
theorem WFs.mono (w : WFs s b) (h : b ≤ b') : WFs s b' := WF.mono w h
theorem CRs.fr {c : Nat} (fr : ∀ r, c ≤ r → r < c + 74 → Same M M' r) (w : WFs s b) (h : CRs M c s) : CRs M' c s := cr_frame fr w.n.1 w.n.2 h
theorem CI.fr (I : CI M b s Hs k z f q tl tx) (F : FrR M M') : CI M' b s Hs k z f q tl tx := by
  obtain ⟨⟨i1, i2, i3, i4, i5⟩, sh, ⟨q1, q2⟩, ⟨c1, c2⟩, ⟨h1, h2, h3⟩, ⟨f1, f2⟩, ⟨t1, t2, t3⟩⟩ := I
  have cf : ∀ c, Car c → ∀ r, c ≤ r → r < c + 74 → Same M M' r := fun c C r h1 h2 => F r (by have := C.le; omega)
  have c2' : Car 2 := by unfold Car; decide
  have c3' : Car 373 := by unfold Car; decide
  refine ⟨?_, fun c C => sh_frame (cf c C) (sh c C), ⟨fun i hi => ?_, q2⟩, ⟨CRs.fr (cf 2 c2') c2 c1, c2⟩, ⟨h1, ?_, fun i hi => ?_⟩, ⟨?_, fun e => ?_⟩, ⟨t1, ?_, fun j hj => ?_⟩⟩
  · have e := fun k => (F 1 (by decide) k).2.2.2
    rw [e, e, e, e, (F 447 (by decide) 0).2.2.2]
    exact ⟨i1, i2, i3, i4, i5⟩
  · rw [(F 76 (by decide) i).2.2.2]; exact q1 i hi
  · rw [(F 1 (by decide) 4).1]; exact h2
  · obtain ⟨a, b⟩ := h3 i hi
    exact ⟨CRs.fr (cf _ (q1 i (by omega)).2.1) b a, b⟩
  · rw [(F 1 (by decide) 5).1]; exact f1
  · obtain ⟨a, b⟩ := f2 e
    exact ⟨CRs.fr (cf _ c3') b a, b⟩
  · rw [(F 447 (by decide) 1).1]; exact t2
  · rw [(F 448 (by decide) j).1]; exact t3 j hj
theorem OnC.fc {c : Nat} (o : OnC c M M') (C : Car c) : FrC M M' := fun r hr => o.same (by have := C.le; omega)
theorem fc_I {r j : Nat} {v : Int32} (h : r ≤ 448) : FrC M (sI M r j v) := fun a ha k => ⟨gI_ne (Or.inl (by omega)), rfl, rfl, rfl⟩
theorem sm_I {r j a : Nat} {v : Int32} (h : a ≠ r) : Same M (sI M r j v) a := fun k => ⟨gI_ne (Or.inl h), rfl, rfl, rfl⟩
theorem k1 : 1 ≤ (448 + zz) ∧ kd 1 = (5, 0) := ⟨by omega, by decide⟩
theorem k76 : 76 ≤ (448 + zz) ∧ kd 76 = (12, 4) := ⟨by omega, by decide⟩
theorem car2 : Car 2 := by unfold Car; decide
theorem car373 : Car 373 := by unfold Car; decide
/-- the present state is put into a place of the history -/
def psT (Hs : Nat → S3) (k : Nat) (s : S3) : Nat → S3 := fun i => if k = 4 then (if i < 3 then Hs (i + 1) else s) else (if i < k then Hs i else s)
theorem prj_psT (Hs : Nat → S3) (k : Nat) (s : S3) : psH (prj Hs) k (s.1, s.2.1) = prj (psT Hs k s) := by
  funext i
  unfold psH prj psT
  split
  · split <;> rfl
  · split <;> rfl
def qRem (zz : Nat) (K : Mem → Prop) (M : Mem) : Prop := (((gI M 1 4) < 0 → K M) ∧ (¬ (gI M 1 4) < 0 → (∀ r3, r3 = gR M 1 1 → ((r3 ≤ (448 + zz) ∧ 7 ≤ (kd r3).1 ∧ (kd r3).1 < 13) ∧ (((nI (kd r3).2) ≤ (gI M 1 4) → K M) ∧ (¬ (nI (kd r3).2) ≤ (gI M 1 4) → (∀ r4, r4 = gR M 1 1 → ((r4 ≤ (448 + zz) ∧ (10 ≤ (kd r4).1 ∧ (kd r4).1 < 13) ∧ vp_in (gI M 1 4) (kd r4).2) ∧ (∀ r5, r5 = gR M r4 (Int32.toNatClampNeg (gI M 1 4)) → (∀ r6, r6 = gR M 1 0 → ((r5 ≤ (448 + zz) ∧ kd r5 = (0, 0)) ∧ w_X0_copyOf (448 + zz) M r5 r6 (fun M8 => (∀ M9, M9 = sI M8 1 4 ((gI M8 1 4) + (1 : Int32)) → K M9)))))))))))))
theorem c_rem1 {K : Mem → Prop} (hk : k ≤ 3) (I : CI M b s Hs k z f q tl tx) (H : ∀ M', CI M' b s (fun i => if i < k then Hs i else s) (k + 1) z f q tl tx → FrC M M' → K M') : qRem zz K M := by
  obtain ⟨⟨i1, i2, i3, i4, i5⟩, sh, ⟨q1, q2⟩, ⟨c1, c2⟩, ⟨h1, h2, h3⟩, ⟨f1, f2⟩, ⟨t1, t2, t3⟩⟩ := id I
  unfold qRem
  rw [h2]
  obtain ⟨j1, j2, j3, j4⟩ := q1 k (by omega)
  refine cF (nI_pos (by omega)) (m_rR i2 (a_len (k76 (zz := zz)) (by decide) ?_))
  rw [a_ln (k76 (zz := zz))]
  refine pk_le 4 k (fun z => by omega) (fun _ => m_rR i2 (a_idx 76 12 4 k _ (k76 (zz := zz)) (by decide) rfl (by omega) (by decide) j1 (m_rR i1 ⟨kc0 (zz := zz) j2, c_copyOf (sh 2 car2) (sh _ j2) (Car.ap j2 car2 j3) (cr_pipe c1 c2) (m_eq ?_)⟩)))
  have o : OnC (q k) M (cyM M (q k) 2) := onC_cy
  have cn := cr_copy c1 (sh _ j2) (Car.ap j2 car2 j3) c2.n.1 c2.n.2
  have e4 : gI (cyM M (q k) 2) 1 4 = nI k := (o.1 1 4 (by have := j2.le; omega)).trans h2
  rw [e4, nI_1]
  obtain ⟨X, hX⟩ : ∃ X, X = cyM M (q k) 2 := ⟨_, rfl⟩
  rw [← hX] at o cn ⊢
  have fr : ∀ c, Car c → c ≠ q k → ∀ r, c ≤ r → r < c + 74 → Same M (sI X 1 4 (nI (k + 1))) r := fun c C e r g1 g2 => (o.same (by have := Car.ap C j2 e; unfold Apart at this; omega)).trans (sm_I (by have := C.le; omega))
  have fq : ∀ r, q k ≤ r → r < q k + 74 → Same X (sI X 1 4 (nI (k + 1))) r := fun r g1 g2 => sm_I (by have := j2.le; omega)
  have ec : ∀ r, (r = 1 ∨ r = 76 ∨ r = 447 ∨ r = 448) → Same M X r := fun r hr => o.same (by unfold Car at j2; omega)
  refine H _ ⟨?_, fun c C => ?_, ⟨fun i hi => ?_, q2⟩, ⟨CRs.fr (fr 2 car2 (by omega)) c2 c1, c2⟩, ⟨by omega, gI_eq, fun i hi => ?_⟩, ⟨?_, fun e => ?_⟩, ⟨t1, ?_, fun j hj => ?_⟩⟩ ((o.fc j2).trans (fc_I (by decide)))
  · show gR X 1 0 = 2 ∧ gR X 1 1 = 76 ∧ gR X 1 2 = 373 ∧ gR X 1 3 = 447 ∧ gR X 447 0 = 448
    rw [o.gR, o.gR, o.gR, o.gR, o.gR]
    exact ⟨i1, i2, i3, i4, i5⟩
  · by_cases e : c = q k
    · rw [e]; exact sh_frame fq cn.1
    · exact sh_frame (fr c C e) (sh c C)
  · show gR X 76 i = q i ∧ _
    rw [o.gR]; exact q1 i hi
  · dsimp only
    by_cases e : i < k
    · rw [if_pos e]
      obtain ⟨a, w⟩ := h3 i e
      exact ⟨CRs.fr (fr _ (q1 i (by omega)).2.1 (fun y => by have := q2 i k (by omega) (by omega) y; omega)) w a, w⟩
    · rw [if_neg e, show i = k by omega]
      exact ⟨CRs.fr (s := s) (b := b) fq c2 cn, c2⟩
  · rw [gI_ne (Or.inr (by decide)), (ec 1 (by omega) 5).1]; exact f1
  · obtain ⟨a, w⟩ := f2 e
    exact ⟨CRs.fr (fr 373 car373 (fun y => j4 y.symm)) w a, w⟩
  · rw [gI_ne (Or.inl (by decide)), (ec 447 (by omega) 1).1]; exact t2
  · rw [gI_ne (Or.inl (by decide)), (ec 448 (by omega) j).1]; exact t3 j hj
/-- references of the history, in another order -/
def rtM (M : Mem) (p : Nat → Nat) : Mem := (M.1, M.2.1, M.2.2.1, fun r j => if r = 76 ∧ j < 4 then p j else M.2.2.2 r j)
def rq (q : Nat → Nat) (i : Nat) : Nat → Nat := fun j => if j + 1 < i then q (j + 1) else if j + 1 = i then q 0 else q j
theorem gR_rt {p : Nat → Nat} {j : Nat} (h : j < 4) : gR (rtM M p) 76 j = p j := if_pos ⟨rfl, h⟩
theorem gR_rtN {p : Nat → Nat} {r j : Nat} (h : r ≠ 76) : gR (rtM M p) r j = gR M r j := if_neg (fun z => h z.1)
theorem c_drop {K : Mem → Prop} (i2 : gR M 1 1 = 76) (q1 : ∀ i, i < 4 → gR M 76 i = q i ∧ Car (q i)) (H : K (sI (rtM M (rq q 4)) 1 4 (nI 3))) : w_X5_dropOldest (448 + zz) M 1 K := by
  refine lpU (fun f i M' => w_X5_dropOldest_L2 (448 + zz) K f M' 1 (nI i)) (fun i M' => 1 ≤ i ∧ M' = rtM M (rq q i)) 4 ?_ ?_ 4000 1 M (by decide) (by decide) ⟨by decide, ?_⟩
  · intro f M' ⟨_, hM⟩
    subst hM
    have e : gR (rtM M (rq q 4)) 1 1 = 76 := i2
    refine ⟨(k1 (zz := zz)), m_rR e (a_len (k76 (zz := zz)) (by decide) ?_)⟩
    rw [a_ln (k76 (zz := zz))]
    refine pk_le 4 4 (fun _ => m_rR e (a_len (k76 (zz := zz)) (by decide) (m_eq ?_))) (fun z => by omega)
    rw [a_ln (k76 (zz := zz))]
    exact H
  · intro f i M' hi ⟨hi1, hM⟩ ih
    have e : gR M' 1 1 = 76 := by rw [hM]; exact i2
    have car : ∀ j, j < 4 → Car (rq q i j) := by
      intro j hj
      unfold rq
      split
      · exact (q1 _ (by omega)).2
      · split
        · exact (q1 _ (by omega)).2
        · exact (q1 _ hj).2
    have em : nI i - (1 : Int32) = nI (i - 1) := pk_sub (b := 1) hi1
    have g1 : gR M' 76 (i - 1) = rq q i (i - 1) := by rw [hM]; exact gR_rt (by omega)
    have g2 : gR M' 76 i = rq q i i := by rw [hM]; exact gR_rt hi
    refine ⟨(k1 (zz := zz)), m_rR e (a_len (k76 (zz := zz)) (by decide) ?_)⟩
    rw [a_ln (k76 (zz := zz)), em]
    refine pk_le 4 i (fun z => by omega) (fun _ => m_rR e (a_idx 76 12 4 (i - 1) _ (k76 (zz := zz)) (by decide) rfl (by omega) (by decide) g1 (m_rR e (m_rR e (a_idx 76 12 4 i _ (k76 (zz := zz)) (by decide) rfl hi (by decide) g2 ⟨⟨by omega, by decide, vp_in_nI (show i - 1 < 4 by omega) (by decide), (kc0 (zz := zz) (car i hi)).1, (kc0 (zz := zz) (car i hi)).2⟩, m_eq ?_⟩)))))
    have cl : ∀ n, n < 2 ^ 31 → Int32.toNatClampNeg (nI n) = n := fun n hn => nI_clamp hn
    rw [cl _ (by omega), cl _ (by omega)]
    have e' : gR (sR M' 76 (i - 1) (rq q i i)) 1 1 = 76 := e
    refine m_rR e' ⟨⟨by omega, by decide, vp_in_nI hi (by decide), (kc0 (zz := zz) (car (i - 1) (by omega))).1, (kc0 (zz := zz) (car (i - 1) (by omega))).2⟩, m_eq (m_eq ?_)⟩
    rw [nI_1]
    refine ih _ ⟨by omega, ?_⟩
    rw [hM]
    unfold rtM sR
    refine Prod.ext rfl (Prod.ext rfl (Prod.ext rfl ?_))
    funext r j
    dsimp only
    by_cases er : r = 76
    · by_cases ej : j < 4
      · rw [if_pos (show r = 76 ∧ j < 4 from ⟨er, ej⟩), if_pos (show r = 76 ∧ j < 4 from ⟨er, ej⟩)]
        unfold rq
        by_cases x1 : j = i
        · rw [if_pos ⟨er, x1⟩, if_neg (by omega), if_pos (by omega), if_neg (by omega), if_pos (by omega)]
        · rw [if_neg (fun y => x1 y.2)]
          by_cases x2 : j = i - 1
          · rw [if_pos ⟨er, x2⟩, if_neg (by omega), if_neg (by omega), if_pos (by omega)]
            congr 1; omega
          · rw [if_neg (fun y => x2 y.2)]
            by_cases x3 : j + 1 < i
            · rw [if_pos x3, if_pos (by omega)]
            · rw [if_neg x3, if_neg (by omega), if_neg (by omega), if_neg (by omega)]
      · rw [if_neg (fun y => by omega), if_neg (fun y => by omega), if_neg (fun y => by omega), if_neg (fun y => by omega)]
    · rw [if_neg (fun y => er y.1), if_neg (fun y => er y.1), if_neg (fun y => er y.1), if_neg (fun y => er y.1)]
  · unfold rtM
    refine Prod.ext rfl (Prod.ext rfl (Prod.ext rfl ?_))
    funext r j
    dsimp only
    by_cases er : r = 76 ∧ j < 4
    · rw [if_pos er, er.1]
      refine (q1 j er.2).1.trans ?_
      unfold rq
      rw [if_neg (by omega)]
      by_cases x : j = 0
      · rw [if_pos (by omega), x]
      · rw [if_neg (by omega)]
    · rw [if_neg er]
theorem c_remember {K : Mem → Prop} (I : CI M b s Hs k z f q tl tx) (H : ∀ M' q', CI M' b s (psT Hs k s) (psK k) z f q' tl tx → FrC M M' → K M') : w_X5_remember (448 + zz) M 1 K := by
  obtain ⟨⟨i1, i2, i3, i4, i5⟩, sh, ⟨q1, q2⟩, ⟨c1, c2⟩, ⟨h1, h2, h3⟩, ⟨f1, f2⟩, ⟨t1, t2, t3⟩⟩ := id I
  have hH := H
  unfold psT psK at hH
  refine ⟨(k1 (zz := zz)), m_rR i2 (a_len (k76 (zz := zz)) (by decide) ?_)⟩
  rw [a_ln (k76 (zz := zz))]
  by_cases e : k = 4
  · refine cF (by rw [h2, e]; decide) ?_
    refine c_drop i2 (fun i hi => ⟨(q1 i hi).1, (q1 i hi).2.1⟩) ?_
    obtain ⟨X, hX⟩ : ∃ X, X = sI (rtM M (rq q 4)) 1 4 (nI 3) := ⟨_, rfl⟩
    rw [← hX]
    have r4 : ∀ j, j < 4 → rq q 4 j = if j < 3 then q (j + 1) else q 0 := by
      intro j hj
      unfold rq
      by_cases x : j < 3
      · rw [if_pos x, if_pos (by omega)]
      · rw [if_neg x, if_neg (by omega), if_pos (by omega)]
    have sx : ∀ r, r ≠ 76 → r ≠ 1 → Same M X r := fun r h1 h2 k => by
      rw [hX]
      exact ⟨gI_ne (Or.inl h2), rfl, rfl, gR_rtN h1⟩
    have cf : ∀ c, Car c → ∀ r, c ≤ r → r < c + 74 → Same M X r := fun c C r g1 g2 => by
      have := C.no76 g1 g2
      exact sx r (by omega) (by omega)
    have I' : CI X b s (fun i => Hs (i + 1)) 3 z f (rq q 4) tl tx := by
      refine ⟨?_, fun c C => sh_frame (cf c C) (sh c C), ⟨fun i hi => ?_, fun i j hi hj y => ?_⟩, ⟨CRs.fr (cf 2 car2) c2 c1, c2⟩, ⟨by decide, by rw [hX]; exact gI_eq, fun i hi => ?_⟩, ⟨?_, fun e => ?_⟩, ⟨t1, ?_, fun j hj => ?_⟩⟩
      · rw [hX]; exact ⟨i1, i2, i3, i4, i5⟩
      · refine ⟨by rw [hX]; exact gR_rt hi, ?_⟩
        rw [r4 i hi]
        split
        · exact (q1 _ (by omega)).2
        · exact (q1 _ (by omega)).2
      · rw [r4 i hi, r4 j hj] at y
        by_cases x1 : i < 3
        · by_cases x2 : j < 3
          · rw [if_pos x1, if_pos x2] at y
            have := q2 _ _ (by omega) (by omega) y
            omega
          · rw [if_pos x1, if_neg x2] at y
            have := q2 _ _ (by omega) (by omega) y
            omega
        · by_cases x2 : j < 3
          · rw [if_neg x1, if_pos x2] at y
            have := q2 _ _ (by omega) (by omega) y
            omega
          · omega
      · obtain ⟨a, w⟩ := h3 (i + 1) (by omega)
        rw [r4 i (by omega), if_pos hi]
        exact ⟨CRs.fr (cf _ (q1 _ (by omega)).2.1) w a, w⟩
      · rw [hX, gI_ne (Or.inr (by decide))]; exact f1
      · obtain ⟨a, w⟩ := f2 e
        exact ⟨CRs.fr (cf 373 car373) w a, w⟩
      · rw [(sx 447 (by decide) (by decide) 1).1]; exact t2
      · rw [(sx 448 (by decide) (by decide) j).1]; exact t3 j hj
    refine c_rem1 (Nat.le_refl 3) I' (fun M' C F => ?_)
    simp only [if_pos e] at hH
    exact hH M' _ C (FrC.trans (fun r hr => sx r (by omega) (by omega)) F)
  · refine cT ?_ ?_
    · rw [h2]; exact (nI_ltI (by omega) (by decide)).mpr (by omega)
    · refine c_rem1 (by omega) I (fun M' C F => ?_)
      simp only [if_neg e] at hH
      exact hH M' _ C F

