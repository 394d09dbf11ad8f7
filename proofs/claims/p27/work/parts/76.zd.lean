/-! p27, 7: the digest -/
variable {zz : Nat}
variable {M M' A : Mem} {b b' c h p k k' tl tl' : Nat} {s s' z z' : S3} {Hs : Nat → S3} {f f' : Bool} {q tx tx' : Nat → Nat}
def dgF (g : Nat → Int64) : Nat → Nat → Int64 → Int64
  | _, 0, h => h
  | i, n + 1, h => dgF g (i + 1) n ((31 : Int64) * h + g i)
def dgH (s : S3) : Nat → Nat → Int64 → Int64
  | _, 0, h => h
  | j, n + 1, h => dgH s (j + 1) n ((31 : Int64) * dgF (fun i => Int32.toInt64 (hT s j i)) 0 9 h + Int32.toInt64 (dT s j))
def dgP (s : S3) : Nat → Nat → Int64 → Int64
  | _, 0, h => h
  | j, n + 1, h => dgP s (j + 1) n (dgF (fun i => Int32.toInt64 (pT s j i)) 0 9 h)
def dg1 (s : S3) : Int64 := dgF (fun i => Int32.toInt64 (nI (cT_ s i))) 0 15 71
def dg2 (s : S3) : Int64 := dgF (fun i => (s.2.1 i).toInt64) 0 3 (dg1 s)
def dg3 (s : S3) : Int64 := dgH s 0 (s.1 0) (dg2 s)
/-- all that a state tells, as one number -/
def dig (s : S3) : Int64 := dgP s 0 (s.1 2) (dg3 s)
theorem z_dig131 {K : Int64 → Mem → Prop} {J : Mem → Nat → Int64 → Int32 → Prop} (I : CI M b s Hs k z f q tl tx) (j : Nat) (hj : j < s.1 2) : ∀ r i f2 (h : Int64), i + r = 9 → r < f2 → J M 1 (dgF (fun i => Int32.toInt64 (pT s j i)) i r h) (nI (j + 1)) → w_L_digest_L131 (448 + zz) K J f2 M 1 h (nI j) (nI i) := by
  intro r
  induction r with
  | zero =>
    intro i f2 h hi hf H
    obtain ⟨f3, rfl⟩ : ∃ f3, f2 = f3 + 1 := ⟨f2 - 1, by omega⟩
    refine pk_le 9 i (fun _ => m_eq ?_) (fun _ => by omega)
    rw [nI_1]; exact H
  | succ r ih =>
    intro i f2 h hi hf H
    obtain ⟨f3, rfl⟩ : ∃ f3, f2 = f3 + 1 := ⟨f2 - 1, by omega⟩
    refine pk_le 9 i (fun _ => by omega) (fun _ => ⟨k1 (zz := zz), z_part I j hj i (by omega) (m_eq (m_eq ?_))⟩)
    rw [nI_1]
    exact ih (i + 1) f3 _ (by omega) (by omega) H
theorem z_dig119 {K : Int64 → Mem → Prop} (I : CI M b s Hs k z f q tl tx) (h60 : s.1 2 ≤ 60) : ∀ r j f2 (h : Int64), j + r = s.1 2 → r < f2 → K (dgP s j r h) M → w_L_digest_L119 (448 + zz) K f2 M 1 h (nI j) := by
  intro r
  induction r with
  | zero =>
    intro j f2 h hi hf H
    obtain ⟨f3, rfl⟩ : ∃ f3, f2 = f3 + 1 := ⟨f2 - 1, by omega⟩
    refine ⟨k1 (zz := zz), z_count I 2 (by decide) ?_⟩
    exact pk_le (s.1 2) j (fun _ => H) (fun _ => by omega)
  | succ r ih =>
    intro j f2 h hi hf H
    obtain ⟨f3, rfl⟩ : ∃ f3, f2 = f3 + 1 := ⟨f2 - 1, by omega⟩
    refine ⟨k1 (zz := zz), z_count I 2 (by decide) ?_⟩
    refine pk_le (s.1 2) j (fun _ => by omega) (fun _ => ?_)
    exact z_dig131 I j (by omega) 9 0 4000 h rfl (by decide) (ih (j + 1) f3 _ (by omega) (by omega) H)
theorem z_dig70 {K : Int64 → Mem → Prop} {J : Mem → Nat → Int64 → Int32 → Prop} (I : CI M b s Hs k z f q tl tx) (hb : b ≤ 20480) (j : Nat) (hj : j < s.1 0) : ∀ r i f2 (h : Int64), i + r = 9 → r < f2 → J M 1 ((31 : Int64) * dgF (fun i => Int32.toInt64 (hT s j i)) i r h + Int32.toInt64 (dT s j)) (nI (j + 1)) → w_L_digest_L70 (448 + zz) K J f2 M 1 h (nI j) (nI i) := by
  intro r
  induction r with
  | zero =>
    intro i f2 h hi hf H
    obtain ⟨f3, rfl⟩ : ∃ f3, f2 = f3 + 1 := ⟨f2 - 1, by omega⟩
    refine pk_le 9 i (fun _ => ⟨k1 (zz := zz), z_display I j hj (m_eq (m_eq ?_))⟩) (fun _ => by omega)
    rw [nI_1]; exact H
  | succ r ih =>
    intro i f2 h hi hf H
    obtain ⟨f3, rfl⟩ : ∃ f3, f2 = f3 + 1 := ⟨f2 - 1, by omega⟩
    refine pk_le 9 i (fun _ => by omega) (fun _ => ⟨k1 (zz := zz), z_head I hb j hj i (by omega) (m_eq (m_eq ?_))⟩)
    rw [nI_1]
    exact ih (i + 1) f3 _ (by omega) (by omega) H
theorem z_dig58 {K : Int64 → Mem → Prop} (I : CI M b s Hs k z f q tl tx) (hb : b ≤ 20480) (h8 : s.1 0 ≤ 8) : ∀ r j f2 (h : Int64), j + r = s.1 0 → r < f2 → w_L_digest_L119 (448 + zz) K 4000 M 1 (dgH s j r h) 0 → w_L_digest_L58 (448 + zz) K f2 M 1 h (nI j) := by
  intro r
  induction r with
  | zero =>
    intro j f2 h hi hf H
    obtain ⟨f3, rfl⟩ : ∃ f3, f2 = f3 + 1 := ⟨f2 - 1, by omega⟩
    refine ⟨k1 (zz := zz), z_count I 0 (by decide) ?_⟩
    exact pk_le (s.1 0) j (fun _ => H) (fun _ => by omega)
  | succ r ih =>
    intro j f2 h hi hf H
    obtain ⟨f3, rfl⟩ : ∃ f3, f2 = f3 + 1 := ⟨f2 - 1, by omega⟩
    refine ⟨k1 (zz := zz), z_count I 0 (by decide) ?_⟩
    refine pk_le (s.1 0) j (fun _ => by omega) (fun _ => ?_)
    exact z_dig70 I hb j (by omega) 9 0 4000 h rfl (by decide) (ih (j + 1) f3 _ (by omega) (by omega) H)
theorem z_dig33 {K : Int64 → Mem → Prop} (I : CI M b s Hs k z f q tl tx) : ∀ r i f2 (h : Int64), i + r = 3 → r < f2 → w_L_digest_L58 (448 + zz) K 4000 M 1 (dgF (fun i => (s.2.1 i).toInt64) i r h) 0 → w_L_digest_L33 (448 + zz) K f2 M 1 h (nI i) := by
  intro r
  induction r with
  | zero =>
    intro i f2 h hi hf H
    obtain ⟨f3, rfl⟩ : ∃ f3, f2 = f3 + 1 := ⟨f2 - 1, by omega⟩
    exact pk_le 3 i (fun _ => H) (fun _ => by omega)
  | succ r ih =>
    intro i f2 h hi hf H
    obtain ⟨f3, rfl⟩ : ∃ f3, f2 = f3 + 1 := ⟨f2 - 1, by omega⟩
    refine pk_le 3 i (fun _ => by omega) (fun _ => ⟨k1 (zz := zz), z_pressureBits I i (by omega) (m_eq (m_eq ?_))⟩)
    rw [nI_1]
    exact ih (i + 1) f3 _ (by omega) (by omega) H
theorem z_dig6 {K : Int64 → Mem → Prop} (I : CI M b s Hs k z f q tl tx) : ∀ r i f2 (h : Int64), i + r = 15 → r < f2 → w_L_digest_L33 (448 + zz) K 4000 M 1 (dgF (fun i => Int32.toInt64 (nI (cT_ s i))) i r h) 0 → w_L_digest_L6 (448 + zz) K f2 M 1 h (nI i) := by
  intro r
  induction r with
  | zero =>
    intro i f2 h hi hf H
    obtain ⟨f3, rfl⟩ : ∃ f3, f2 = f3 + 1 := ⟨f2 - 1, by omega⟩
    exact pk_le 15 i (fun _ => H) (fun _ => by omega)
  | succ r ih =>
    intro i f2 h hi hf H
    obtain ⟨f3, rfl⟩ : ∃ f3, f2 = f3 + 1 := ⟨f2 - 1, by omega⟩
    refine pk_le 15 i (fun _ => by omega) (fun _ => ⟨k1 (zz := zz), z_count I i (by omega) (m_eq (m_eq ?_))⟩)
    rw [nI_1]
    exact ih (i + 1) f3 _ (by omega) (by omega) H
theorem z_digest {K : Int64 → Mem → Prop} (I : CI M b s Hs k z f q tl tx) (hb : b ≤ 20480) (H : K (dig s) M) : w_L_digest (448 + zz) M 1 K := by
  have w0 := I.2.2.2.1.2
  have g8 := w0.n.1
  have g60 := w0.n.2
  refine z_dig6 I 15 0 4000 71 rfl (by decide) ?_
  refine z_dig33 I 3 0 4000 _ rfl (by decide) ?_
  refine z_dig58 I hb g8 (s.1 0) 0 4000 _ (by omega) (by omega) ?_
  exact z_dig119 I g60 (s.1 2) 0 4000 _ (by omega) (by omega) H
