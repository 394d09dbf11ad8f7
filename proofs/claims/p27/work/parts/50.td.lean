/-! THE PURE PART, 28: the text's characters; undo, keep, restore -/
variable {zz : Nat}
variable {M M' A : Mem} {b b' c h k k' tl tl' : Nat} {s s' z z' : S3} {Hs : Nat → S3} {f f' : Bool} {q tx tx' : Nat → Nat} {N N' P : Nat → Nat} {D D' : Nat → UInt64}
theorem CI.text (I : CI M b s Hs k z f q tl tx) (F : ∀ r, r ≤ 446 → Same M M' r) (g : gR M' 447 0 = gR M 447 0) (t : tl' ≤ 60 ∧ gI M' 447 1 = nI tl' ∧ ∀ j, j < 60 → tx' j < 65536 ∧ gI M' 448 j = nI (tx' j)) : CI M' b s Hs k z f q tl' tx' := by
  obtain ⟨⟨i1, i2, i3, i4, i5⟩, sh, ⟨q1, q2⟩, ⟨c1, c2⟩, ⟨h1, h2, h3⟩, ⟨f1, f2⟩, -⟩ := I
  have cf : ∀ c, Car c → ∀ r, c ≤ r → r < c + 74 → Same M M' r := fun c C r h1 h2 => F r (by have := C.le; omega)
  refine ⟨?_, fun c C => sh_frame (cf c C) (sh c C), ⟨fun i hi => ?_, q2⟩, ⟨CRs.fr (cf 2 car2) c2 c1, c2⟩, ⟨h1, ?_, fun i hi => ?_⟩, ⟨?_, fun e => ?_⟩, t⟩
  · have e := fun k => (F 1 (by decide) k).2.2.2
    rw [e, e, e, e, g]
    exact ⟨i1, i2, i3, i4, i5⟩
  · rw [(F 76 (by decide) i).2.2.2]; exact q1 i hi
  · rw [(F 1 (by decide) 4).1]; exact h2
  · obtain ⟨a, b⟩ := h3 i hi
    exact ⟨CRs.fr (cf _ (q1 i (by omega)).2.1) b a, b⟩
  · rw [(F 1 (by decide) 5).1]; exact f1
  · obtain ⟨a, b⟩ := f2 e
    exact ⟨CRs.fr (cf _ car373) b a, b⟩
theorem vn_char {j : Nat} (h : j < 65536) : vp_nar .char (nI j) = nI j := by
  unfold vp_nar
  rw [(pk_charN h).1]
theorem k448 : 448 ≤ (448 + zz) ∧ kd 448 = (9, 60) := ⟨by omega, by decide⟩
def putT (tx : Nat → Nat) (tl j : Nat) : Nat → Nat := up tx tl j
theorem put_at {M : Mem} {r : Nat} {tx : Nat → Nat} {tl j : Nat} (h : ∀ i, i < 60 → gI M r i = nI (tx i)) : ∀ i, i < 60 → gI (sI M r tl (nI j)) r i = nI (putT tx tl j i) := by
  intro i hi
  by_cases e : i = tl
  · rw [e, gI_eq, show putT tx tl j tl = j from up_eq _ _ _]
  · rw [gI_ne (Or.inr e), show putT tx tl j i = tx i from up_ne e]; exact h i hi
theorem CI.hist (I : CI M b s Hs k z f q tl tx) (hk : k' ≤ k) : CI (sI M 1 4 (nI k')) b s Hs k' z f q tl tx := by
  obtain ⟨⟨i1, i2, i3, i4, i5⟩, sh, ⟨q1, q2⟩, ⟨c1, c2⟩, ⟨h1, h2, h3⟩, ⟨f1, f2⟩, ⟨t1, t2, t3⟩⟩ := I
  have F : ∀ r, r ≠ 1 → Same M (sI M 1 4 (nI k')) r := fun r hr => sm_I hr
  have cf : ∀ c, Car c → ∀ r, c ≤ r → r < c + 74 → Same M (sI M 1 4 (nI k')) r := fun c C r h1 h2 => F r (by have := C.le; omega)
  refine ⟨⟨i1, i2, i3, i4, i5⟩, fun c C => sh_frame (cf c C) (sh c C), ⟨q1, q2⟩, ⟨CRs.fr (cf 2 car2) c2 c1, c2⟩, ⟨by omega, gI_eq, fun i hi => ?_⟩, ⟨?_, fun e => ?_⟩, ⟨t1, ?_, fun j hj => ?_⟩⟩
  · obtain ⟨a, w⟩ := h3 i (by omega)
    exact ⟨CRs.fr (cf _ (q1 i (by omega)).2.1) w a, w⟩
  · rw [gI_ne (Or.inr (by decide))]; exact f1
  · obtain ⟨a, w⟩ := f2 e
    exact ⟨CRs.fr (cf _ car373) w a, w⟩
  · rw [gI_ne (Or.inl (by decide))]; exact t2
  · rw [gI_ne (Or.inl (by decide))]; exact t3 j hj
theorem CI.kept {X : Mem} (I : CI M b s Hs k z f q tl tx) (o : OnC 373 M X) (c' : CRs X 373 s) : CI (sI X 1 5 1) b s Hs k s true q tl tx := by
  obtain ⟨⟨i1, i2, i3, i4, i5⟩, sh, ⟨q1, q2⟩, ⟨c1, c2⟩, ⟨h1, h2, h3⟩, ⟨f1, f2⟩, ⟨t1, t2, t3⟩⟩ := I
  have cf : ∀ c, Car c → c ≠ 373 → ∀ r, c ≤ r → r < c + 74 → Same M (sI X 1 5 1) r := fun c C e r g1 g2 => (o.same (by have := Car.ap C car373 e; unfold Apart at this; omega)).trans (sm_I (by have := C.le; omega))
  have c3 : ∀ r, 373 ≤ r → r < 373 + 74 → Same X (sI X 1 5 1) r := fun r g1 g2 => sm_I (by omega)
  have e0 : ∀ r, (r < 373 ∨ 447 ≤ r) → Same M X r := fun r hr => o.same (by omega)
  refine ⟨?_, fun c C => ?_, ⟨fun i hi => ?_, q2⟩, ⟨CRs.fr (cf 2 car2 (by decide)) c2 c1, c2⟩, ⟨h1, ?_, fun i hi => ?_⟩, ⟨gI_eq, fun _ => ⟨CRs.fr c3 c2 c', c2⟩⟩, ⟨t1, ?_, fun j hj => ?_⟩⟩
  · show gR X 1 0 = 2 ∧ gR X 1 1 = 76 ∧ gR X 1 2 = 373 ∧ gR X 1 3 = 447 ∧ gR X 447 0 = 448
    rw [o.gR, o.gR, o.gR, o.gR, o.gR]; exact ⟨i1, i2, i3, i4, i5⟩
  · by_cases e : c = 373
    · rw [e]; exact sh_frame c3 c'.1
    · exact sh_frame (cf c C e) (sh c C)
  · show gR X 76 i = q i ∧ _
    rw [o.gR]; exact q1 i hi
  · rw [gI_ne (Or.inr (by decide)), (e0 1 (by decide) 4).1]; exact h2
  · obtain ⟨a, w⟩ := h3 i hi
    obtain ⟨x1, x2, x3, x4⟩ := q1 i (by omega)
    exact ⟨CRs.fr (cf _ x2 x4) w a, w⟩
  · rw [gI_ne (Or.inl (by decide)), (e0 447 (by decide) 1).1]; exact t2
  · rw [gI_ne (Or.inl (by decide)), (e0 448 (by decide) j).1]; exact t3 j hj
theorem gI_cpD {M : Mem} {r o i a j : Nat} {g : Nat → UInt64} : gI (cpD M r o g i) a j = gI M a j := rfl
