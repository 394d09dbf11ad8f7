/-! THE PURE PART, 25: what is told of heads and parts -/
variable {M M' A : Mem} {b b' c h k tl : Nat} {s s' z : S3} {Hs : Nat → S3} {f : Bool} {q tx : Nat → Nat} {N N' P : Nat → Nat} {D D' : Nat → UInt64}
theorem nI_ne5 {p : Nat} (h : p < 2 ^ 31) : ¬ nI p = -5 := fun e => nI_pos h (by rw [e]; decide)
theorem outN {y : Int32} (n : Nat) (hn : n < 2 ^ 31) (h : ∀ j, j ≤ n → y ≠ nI j) : y < 0 ∨ nI n < y := by
  by_cases h1 : y < 0
  · exact Or.inl h1
  · by_cases h2 : nI n < y
    · exact Or.inr h2
    · obtain ⟨j, j1, j2, rfl⟩ := rng (x := y) 0 n rfl rfl (by decide) hn h1 h2
      exact absurd rfl (h j j2)
theorem mod_back {j n a : Nat} (hj : j < n) (ha : a < n) : (j + n - a) % n = if a ≤ j then j - a else j + n - a := by
  by_cases h : a ≤ j
  · rw [if_pos h, show j + n - a = (j - a) + n by omega, Nat.add_mod_right, Nat.mod_eq_of_lt (by omega)]
  · rw [if_neg h, Nat.mod_eq_of_lt (by omega)]
theorem y_head {K : Int32 → Mem → Prop} (V : INV M b) (hb : b ≤ 20480) (x y : Int32) (H : ∀ v M1, An (w_X6_head 457 M1 449 x y) v b → K v M1) : w_X5_head 457 M 1 x y K := by
  obtain ⟨s, Hs, k, z, f, q, tl, tx, I, R⟩ := id V
  have cr0 := I.2.2.2.1.1
  have w0 := I.2.2.2.1.2
  have c2 := kc0 car2
  have g8 := w0.n.1
  have g2 := w0.1.1
  refine ⟨k1, m_rR I.1.1 ⟨c2, ?_⟩⟩
  rcases argc x (n := s.1 0) (by omega) with e | ⟨j, hj, rfl⟩
  · exact c_headN cr0.1 cr0.2.1.2.1 e (cP rfl (H _ _ (fun K h => ⟨k449, q_noHeadN R.qq g8 e (cF (by decide) (h M V))⟩)))
  have hj8 : j < 8 := by omega
  obtain ⟨X3, X4, X5, X6, X10, X11, X12, X13⟩ := cr0.2.2.2.1 j hj8
  have kh := kch car2 j hj8
  refine c_headY cr0.1 cr0.2.1.2.1 g8 j hj (cN (by omega) ?_)
  have ref : ∀ k, k < 8 → k ≠ 3 → An (w_X6_head 457 M 449 (nI j) (nI k)) (nI (s.1 (12 + 10 * j + k))) b := by
    intro k hk h3 K h
    refine ⟨k449, q_noHeadY R.qq g8 j hj (cT rfl (cN (fun e => h3 ((nI_eq (b := 3) (by omega) (by decide)).mp e)) (cN (fun e => absurd ((nI_eq (b := 8) (by omega) (by decide)).mp e) (by omega)) (s_inT (nI_pos (by omega)) (fun e => ?_) (cF (by decide) (q_ofHead R.qq j k hj8 (by omega) (h M V)))))))⟩
    have := (nI_ltI (a := 7) (by decide) (by omega)).mp e
    omega
  by_cases e0 : y = 0
  · subst e0; exact cT rfl ⟨kh, by rw [X3]; exact H _ _ (ref 0 (by decide) (by decide))⟩
  refine cF e0 ?_
  by_cases e1 : y = 1
  · subst e1; exact cT rfl ⟨kh, by rw [X4]; exact H _ _ (ref 1 (by decide) (by decide))⟩
  refine cF e1 ?_
  by_cases e2 : y = 2
  · subst e2; exact cT rfl ⟨kh, by rw [X5]; exact H _ _ (ref 2 (by decide) (by decide))⟩
  refine cF e2 ?_
  by_cases e3 : y = 3
  · subst e3
    refine cT rfl ⟨kh, ?_⟩
    rw [X6]
    by_cases p0 : s.1 (12 + 10 * j + 3) = 0
    · rw [p0]
      exact H _ _ (fun K h => ⟨k449, q_noHeadY R.qq g8 j hj (cT rfl (cP rfl (q_partOn0 R.qq j hj8 p0 (cF (by decide) (h M V)))))⟩)
    · obtain ⟨p, hp⟩ : ∃ p, s.1 (12 + 10 * j + 3) = p + 1 := ⟨s.1 (12 + 10 * j + 3) - 1, by omega⟩
      have := (w0.2.2.2.1 j hj p0).1
      have := w0.n.2
      rw [hp, hp_s]
      exact H _ _ (fun K h => ⟨k449, q_noHeadY R.qq g8 j hj (cT rfl (cP rfl (q_partOn1 R.qq j p hj8 hp (cT (nI_pos' (by omega)) (q_partOn1 R.qq j p hj8 hp (h M V))))))⟩)
  refine cF e3 ?_
  by_cases e4 : y = 4
  · subst e4; exact cT rfl ⟨kh, by rw [X10]; exact H _ _ (ref 4 (by decide) (by decide))⟩
  refine cF e4 ?_
  by_cases e5 : y = 5
  · subst e5; exact cT rfl ⟨kh, by rw [X11]; exact H _ _ (ref 5 (by decide) (by decide))⟩
  refine cF e5 ?_
  by_cases e6 : y = 6
  · subst e6; exact cT rfl ⟨kh, by rw [X12]; exact H _ _ (ref 6 (by decide) (by decide))⟩
  refine cF e6 ?_
  by_cases e7 : y = 7
  · subst e7; exact cT rfl ⟨kh, by rw [X13]; exact H _ _ (ref 7 (by decide) (by decide))⟩
  refine cF e7 ?_
  by_cases e8 : y = 8
  · subst e8
    have b1 := w0.1.2.2.1
    have sa : s.1 1 % s.1 0 < s.1 0 := Nat.mod_lt _ (by omega)
    have n0 : ¬ nI (s.1 0) = 0 := nI_ne0 (by omega) (by omega)
    have x0 := (cr0.1.2.2.1 j hj8).2
    obtain ⟨s1, s2, s3, s4, s5⟩ := cr0.2.1
    refine cT rfl (m_rR I.1.1 ⟨c2, kh, c2, m_eq ?_⟩)
    rw [x0, s5, s2]
    have ref8 : An (w_X6_head 457 M 449 (nI j) 8) (nI ((j + s.1 0 - s.1 1 % s.1 0) % s.1 0)) b := by
      intro K h
      refine ⟨k449, q_noHeadY R.qq g8 j hj (cT rfl (cN (by decide) (cP rfl (q_r0 R.qq (q_rI R.qq 0 rfl (by decide) (q_r0 R.qq (q_rI R.qq 1 rfl (by decide) (q_r0 R.qq (q_rI R.qq 0 rfl (by decide) ⟨n0, m_eq (q_r0 R.qq (q_rI R.qq 0 rfl (by decide) ⟨n0, m_eq ?_⟩))⟩)))))))))⟩
      rw [pk_rem (by omega) (by omega) (by omega), nI_add, pk_sub (by omega), pk_rem (by omega) (by omega) (by omega)]
      exact h M V
    rw [mod_back hj sa] at ref8
    by_cases ej : s.1 1 % s.1 0 ≤ j
    · rw [if_pos ej] at ref8
      rw [pk_sub ej]
      exact cT (nI_pos' (by omega)) (H _ _ ref8)
    · rw [if_neg ej] at ref8
      have ng : nI j - nI (s.1 1 % s.1 0) < 0 := pk_sneg (by omega) (by omega)
      refine cF (fun y => not_lt_le y ng) ?_
      have ea : nI j - nI (s.1 1 % s.1 0) + nI (s.1 0) = nI (j + s.1 0 - s.1 1 % s.1 0) := by
        have t : nI (j + s.1 0 - s.1 1 % s.1 0) = nI (j + s.1 0) - nI (s.1 1 % s.1 0) := (pk_sub (by omega)).symm
        rw [t, ← nI_add]
        simp only [Int32.sub_eq_add_neg, Int32.add_assoc]
        rw [Int32.add_comm (-nI (s.1 1 % s.1 0)) (nI (s.1 0))]
      rw [ea]
      exact H _ _ ref8
  refine cF e8 (H _ _ (fun K h => ⟨k449, q_noHeadY R.qq g8 j hj (cT rfl (cN e3 (cN e8 (s_inF (outN 7 (by decide) (fun i hi => ?_)) (cT rfl (h M V))))))⟩))
  rcases (show i = 0 ∨ i = 1 ∨ i = 2 ∨ i = 3 ∨ i = 4 ∨ i = 5 ∨ i = 6 ∨ i = 7 by omega) with rfl | rfl | rfl | rfl | rfl | rfl | rfl | rfl
  · exact e0
  · exact e1
  · exact e2
  · exact e3
  · exact e4
  · exact e5
  · exact e6
  · exact e7
theorem y_gauge {K : UInt64 → Mem → Prop} (V : INV M b) (x y : Int32) (H : ∀ v M1, An (w_X6_gauge 457 M1 449 x y) v b → K v M1) : w_X5_gauge 457 M 1 x y K := by
  obtain ⟨s, Hs, k, z, f, q, tl, tx, I, R⟩ := id V
  have cr0 := I.2.2.2.1.1
  have w0 := I.2.2.2.1.2
  have c2 := kc0 car2
  have g8 := w0.n.1
  refine ⟨k1, m_rR I.1.1 ⟨c2, ?_⟩⟩
  rcases argc x (n := s.1 0) (by omega) with e | ⟨j, hj, rfl⟩
  · exact c_headN cr0.1 cr0.2.1.2.1 e (cP rfl (H _ _ (fun K h => ⟨k449, q_noHeadN R.qq g8 e (cN (by decide) (h M V))⟩)))
  have hj8 : j < 8 := by omega
  obtain ⟨X3, X4, X5, X6, -⟩ := cr0.2.2.2.1 j hj8
  obtain ⟨Y1, Y2, Y3⟩ := cr0.2.2.2.2.1 j hj
  have kh := kch car2 j hj8
  refine c_headY cr0.1 cr0.2.1.2.1 g8 j hj (cN (by omega) ?_)
  by_cases e0 : y = 0
  · subst e0
    refine cP rfl ⟨kh, ?_⟩
    rw [Y1]
    exact H _ _ (fun K h => ⟨k449, q_noHeadY R.qq g8 j hj (cP rfl (s_inT (by decide) (by decide) (cF (by decide) (cT (by decide) (cP rfl (q_gain R.qq j hj8 (h M V)))))))⟩)
  refine cN e0 ?_
  by_cases e1 : y = 1
  · subst e1
    refine cP rfl ⟨kh, ?_⟩
    rw [Y2]
    exact H _ _ (fun K h => ⟨k449, q_noHeadY R.qq g8 j hj (cP rfl (s_inT (by decide) (by decide) (cF (by decide) (cT (by decide) (cN (by decide) (cP rfl (q_factor R.qq j hj8 (h M V))))))))⟩)
  refine cN e1 ⟨kh, ?_⟩
  rw [X6]
  by_cases p0 : s.1 (12 + 10 * j + 3) = 0
  · rw [p0]
    refine cP rfl (H _ _ (fun K h => ⟨k449, q_noHeadY R.qq g8 j hj (cP rfl ?_)⟩))
    by_cases o : y < 0 ∨ (3 : Int32) < y
    · exact s_inF o (cT rfl (h M V))
    · obtain ⟨i, i1, i2, rfl⟩ := rng 0 3 rfl rfl (by decide) (by decide) (fun a => o (Or.inl a)) (fun a => o (Or.inr a))
      have i0 : i ≠ 0 := fun a => e0 (by rw [a]; rfl)
      have i1 : i ≠ 1 := fun a => e1 (by rw [a]; rfl)
      exact s_inT (fun a => o (Or.inl a)) (fun a => o (Or.inr a)) (cF (by decide) (cF (fun a => by have := (nI_leI (b := 1) (by omega) (by decide)).mp a; omega) (q_partOn0 R.qq j hj8 p0 (cF (by decide) (h M V)))))
  · obtain ⟨p, hp⟩ : ∃ p, s.1 (12 + 10 * j + 3) = p + 1 := ⟨s.1 (12 + 10 * j + 3) - 1, by omega⟩
    have := (w0.2.2.2.1 j hj p0).1
    have := w0.n.2
    have t8 := WF.t8 w0 hj p0
    obtain ⟨t, ht⟩ : ∃ t, s.1 (12 + 10 * j + 8) = t + 1 := ⟨s.1 (12 + 10 * j + 8) - 1, by omega⟩
    obtain ⟨y7, y8, -⟩ := Y3 p0
    rw [hp, hp_s]
    refine cN (nI_ne5 (by omega)) ?_
    have np : 0 ≤ nI p := nI_pos' (by omega)
    by_cases e2 : y = 2
    · subst e2
      refine cP rfl ?_
      rw [y7]
      exact H _ _ (fun K h => ⟨k449, q_noHeadY R.qq g8 j hj (cP rfl (s_inT (by decide) (by decide) (cF (by decide) (cF (by decide) (q_partOn1 R.qq j p hj8 hp (cT np (cN (by decide) (cN (by decide) (cP rfl (q_traced R.qq j 0 hj8 (by decide) (h M V)))))))))))⟩)
    refine cN e2 ?_
    by_cases e3 : y = 3
    · subst e3
      refine cP rfl ?_
      rw [y8, ht, Nat.add_sub_cancel]
      exact H _ _ (fun K h => ⟨k449, q_noHeadY R.qq g8 j hj (cP rfl (s_inT (by decide) (by decide) (cF (by decide) (cF (by decide) (q_partOn1 R.qq j p hj8 hp (cT np (cN (by decide) (cN (by decide) (cN (by decide) (q_present R.qq j t hj8 (by omega) ht (h M V)))))))))))⟩)
    refine cN e3 (H _ _ (fun K h => ⟨k449, q_noHeadY R.qq g8 j hj (cP rfl (s_inF (outN 3 (by decide) (fun i hi => ?_)) (cT rfl (h M V))))⟩))
    rcases (show i = 0 ∨ i = 1 ∨ i = 2 ∨ i = 3 by omega) with rfl | rfl | rfl | rfl
    · exact e0
    · exact e1
    · exact e2
    · exact e3
theorem LN.pl (L : LN N P) {p : Nat} (hp : p < N 2) (h : N (92 + 8 * p + 3) = 0) : P p < N 11 ∧ N (572 + P p) = p ∧ ∀ j, j < P p → N (572 + j) ≠ p := by
  obtain ⟨a, b⟩ := L.2.2 p hp h
  refine ⟨a, b, fun j hj e => ?_⟩
  have := (L.2.1 j (by omega)).2.2
  rw [e] at this
  omega
theorem y_part {K : Int32 → Mem → Prop} (V : INV M b) (hb : b ≤ 20480) (x y : Int32) (H : ∀ v M1, An (w_X6_part 457 M1 449 x y) v b → K v M1) : w_X5_part 457 M 1 x y K := by
  obtain ⟨s, Hs, k, z, f, q, tl, tx, I, R⟩ := id V
  have cr0 := I.2.2.2.1.1
  have w0 := I.2.2.2.1.2
  have c2 := kc0 car2
  have g60 := w0.n.2
  refine ⟨k1, m_rR I.1.1 ⟨c2, ?_⟩⟩
  rcases argc x (n := s.1 2) (by omega) with e | ⟨j, hj, rfl⟩
  · exact c_partN cr0.1 cr0.2.1.2.2.1 e (cP rfl (H _ _ (fun K h => ⟨k449, q_noPartN R.qq g60 e (cF (by decide) (h M V))⟩)))
  have hj8 : j < 60 := by omega
  obtain ⟨z1, z2, z3, z4, z5, z6, z7, z8, z10, -⟩ := cr0.2.2.2.2.2.1 j hj
  obtain ⟨q0, q1, q2, q3, q4, q5, q6, q7, q8, q9⟩ := w0.2.2.2.2.2.2.1 j hj
  have kh := kcp car2 j hj8
  refine c_partY cr0.1 cr0.2.1.2.2.1 g60 j hj (cN (by omega) ?_)
  have ref : ∀ k, k < 6 → An (w_X6_part 457 M 449 (nI j) (nI k)) (nI (s.1 (92 + 8 * j + k))) b := by
    intro k hk K h
    refine ⟨k449, q_noPartY R.qq g60 j hj (cT rfl (s_inT (nI_pos (by omega)) (fun e => ?_) (cF (by decide) (q_ofPart R.qq j k hj8 (by omega) (h M V)))))⟩
    have := (nI_ltI (a := 5) (by decide) (by omega)).mp e
    omega
  by_cases e0 : y = 0
  · subst e0
    refine cT rfl ⟨kh, ?_⟩
    have r := ref 0 (by decide)
    rw [z1]
    rcases (show s.1 (92 + 8 * j + 0) = 0 ∨ s.1 (92 + 8 * j + 0) = 1 by omega) with e | e <;> rw [e] at r ⊢
    · exact cT rfl (H _ _ r)
    · exact cF (by decide) (H _ _ r)
  refine cF e0 ?_
  by_cases e1 : y = 1
  · subst e1; exact cT rfl ⟨kh, by rw [z2]; exact H _ _ (ref 1 (by decide))⟩
  refine cF e1 ?_
  by_cases e2 : y = 2
  · subst e2; exact cT rfl ⟨kh, by rw [z3]; exact H _ _ (ref 2 (by decide))⟩
  refine cF e2 ?_
  by_cases e3 : y = 3
  · subst e3; exact cT rfl ⟨kh, by rw [z4]; exact H _ _ (ref 3 (by decide))⟩
  refine cF e3 ?_
  by_cases e4 : y = 4
  · subst e4; exact cT rfl ⟨kh, by rw [z6]; exact H _ _ (ref 4 (by decide))⟩
  refine cF e4 ?_
  by_cases e5 : y = 5
  · subst e5; exact cT rfl ⟨kh, by rw [z7]; exact H _ _ (ref 5 (by decide))⟩
  refine cF e5 ?_
  by_cases e6 : y = 6
  · subst e6
    refine cT rfl ⟨kh, ?_⟩
    rw [z8]
    by_cases p0 : s.1 (92 + 8 * j + 6) = 0
    · rw [p0]
      exact H _ _ (fun K h => ⟨k449, q_noPartY R.qq g60 j hj (cT rfl (s_inF (Or.inr (by decide)) (cT rfl (cT rfl (q_ofPart R.qq j 6 hj8 (by decide) (cP (by rw [p0]; rfl) (h M V)))))))⟩)
    · obtain ⟨p, hp⟩ : ∃ p, s.1 (92 + 8 * j + 6) = p + 1 := ⟨s.1 (92 + 8 * j + 6) - 1, by omega⟩
      rw [hp, hp_s]
      refine H _ _ (fun K h => ⟨k449, q_noPartY R.qq g60 j hj (cT rfl (s_inF (Or.inr (by decide)) (cT rfl (cT rfl (q_ofPart R.qq j 6 hj8 (by decide) (cN (nI_ne0 (by omega) (by omega)) (q_ofPart R.qq j 6 hj8 (by decide) ?_)))))))⟩)
      rw [hp, nI_pred]
      exact h M V
  refine cF e6 ?_
  by_cases e7 : y = 7
  · subst e7
    refine cT rfl ⟨kh, ?_⟩
    rw [z10]
    unfold cp
    by_cases p0 : s.1 (92 + 8 * j + 7) = 0
    · rw [if_pos p0]
      exact H _ _ (fun K h => ⟨k449, q_noPartY R.qq g60 j hj (cT rfl (s_inF (Or.inr (by decide)) (cT rfl (cF (by decide) (cT rfl (q_ofPart R.qq j 7 hj8 (by decide) (cP (by rw [p0]; rfl) (h M V))))))))⟩)
    · rw [if_neg p0]
      exact H _ _ (fun K h => ⟨k449, q_noPartY R.qq g60 j hj (cT rfl (s_inF (Or.inr (by decide)) (cT rfl (cF (by decide) (cT rfl (q_ofPart R.qq j 7 hj8 (by decide) (cN (nI_ne0 (by omega) (by omega)) (q_ofPart R.qq j 7 hj8 (by decide) (h M V)))))))))⟩)
  refine cF e7 ?_
  by_cases e8 : y = 8
  · subst e8
    refine cT rfl ⟨kh, ?_⟩
    rw [z5]
    have L : LN s.1 s.2.2 := w0.2.2.2.2.2.2.2.1
    have hl : ∀ i, i < s.1 11 → s.1 (572 + i) < 60 := fun i hi => by have := (L.2.1 i hi).1; omega
    by_cases p0 : s.1 (92 + 8 * j + 3) = 0
    · obtain ⟨l1, l2, l3⟩ := L.pl hj p0
      rw [if_pos p0]
      exact H _ _ (fun K h => ⟨k449, q_noPartY R.qq g60 j hj (cT rfl (s_inF (Or.inr (by decide)) (cT rfl (cF (by decide) (cF (by decide) (cT rfl (q_placeY R.qq j _ hj8 L.1 l1 hl l2 l3 (h M V))))))))⟩)
    · rw [if_neg p0]
      refine H _ _ (fun K h => ⟨k449, q_noPartY R.qq g60 j hj (cT rfl (s_inF (Or.inr (by decide)) (cT rfl (cF (by decide) (cF (by decide) (cT rfl (q_placeN R.qq j hj8 L.1 hl (fun i hi e => ?_) (h M V))))))))⟩)
      have := (L.2.1 i hi).2.1
      rw [e] at this
      exact p0 this
  refine cF e8 (H _ _ (fun K h => ⟨k449, q_noPartY R.qq g60 j hj (cT rfl (s_inF (outN 5 (by decide) (fun i hi => ?_)) (cT rfl (cF e6 (cF e7 (cF e8 (h M V)))))))⟩))
  rcases (show i = 0 ∨ i = 1 ∨ i = 2 ∨ i = 3 ∨ i = 4 ∨ i = 5 by omega) with rfl | rfl | rfl | rfl | rfl | rfl
  · exact e0
  · exact e1
  · exact e2
  · exact e3
  · exact e4
  · exact e5
theorem y_fits {K : Int32 → Mem → Prop} (V : INV M b) (x y : Int32) (H : ∀ v M1, An (w_X6_fits 457 M1 449 x y) v b → K v M1) : w_X5_fits 457 M 1 x y K := by
  obtain ⟨s, Hs, k, z, f, q, tl, tx, I, R⟩ := id V
  have cr0 := I.2.2.2.1.1
  have w0 := I.2.2.2.1.2
  have c2 := kc0 car2
  have g8 := w0.n.1
  have g60 := w0.n.2
  refine ⟨k1, m_rR I.1.1 ⟨c2, ?_⟩⟩
  rcases argc x (n := s.1 2) (by omega) with e | ⟨i, hi, rfl⟩
  · have a1 : An (w_X6_fits 457 M 449 x y) (-1) b := fun K h => ⟨k449, q_noPartN R.qq g60 e (cN (by decide) (h M V))⟩
    refine c_partN cr0.1 cr0.2.1.2.2.1 e (m_rR I.1.1 ⟨c2, ?_⟩)
    rcases argc y (n := s.1 0) (by omega) with e | ⟨j, hj, rfl⟩
    · exact c_headN cr0.1 cr0.2.1.2.1 e (cT rfl (H _ _ a1))
    · exact c_headY cr0.1 cr0.2.1.2.1 g8 j hj (cT rfl (H _ _ a1))
  have hi8 : i < 60 := by omega
  obtain ⟨z1, -⟩ := cr0.2.2.2.2.2.1 i hi
  obtain ⟨q0, -⟩ := w0.2.2.2.2.2.2.1 i hi
  refine c_partY cr0.1 cr0.2.1.2.2.1 g60 i hi (m_rR I.1.1 ⟨c2, ?_⟩)
  rcases argc y (n := s.1 0) (by omega) with e | ⟨j, hj, rfl⟩
  · exact c_headN cr0.1 cr0.2.1.2.1 e (cF (by omega) (cP rfl (H _ _ (fun K h => ⟨k449, q_noPartY R.qq g60 i hi (cP rfl (q_noHeadN R.qq g8 e (cF (by decide) (h M V))))⟩))))
  have hj8 : j < 8 := by omega
  obtain ⟨X3, X4, -⟩ := cr0.2.2.2.1 j hj8
  obtain ⟨a0, a1, -⟩ := w0.2.2.1 j hj
  refine c_headY cr0.1 cr0.2.1.2.1 g8 j hj (cF (by omega) (cN (by omega) ⟨kch car2 j hj8, ?_⟩))
  have rT : tk s.1 j i → An (w_X6_fits 457 M 449 (nI i) (nI j)) 1 b := fun t K h => ⟨k449, q_noPartY R.qq g60 i hi (cP rfl (q_noHeadY R.qq g8 j hj (cT rfl (q_takes R.qq j i hj8 hi8 a1 q0 (fun _ => cF (by decide) (h M V)) (fun n => absurd t n)))))⟩
  have rF : ¬ tk s.1 j i → An (w_X6_fits 457 M 449 (nI i) (nI j)) 0 b := fun t K h => ⟨k449, q_noPartY R.qq g60 i hi (cP rfl (q_noHeadY R.qq g8 j hj (cT rfl (q_takes R.qq j i hj8 hi8 a1 q0 (fun n => absurd n t) (fun _ => cT rfl (h M V))))))⟩
  exact c_takes car2 j i _ _ hj8 hi8 X4 z1 a1 q0 (fun t => cF (by decide) (H _ _ (rT t))) (fun t => cT rfl (H _ _ (rF t)))
theorem y_value {K : UInt64 → Mem → Prop} (V : INV M b) (hb : b ≤ 20480) (x : Int32) (H : ∀ v M1, An (w_X6_value 457 M1 449 x) v b → K v M1) : w_X5_value 457 M 1 x K := by
  obtain ⟨s, Hs, k, z, f, q, tl, tx, I, R⟩ := id V
  have cr0 := I.2.2.2.1.1
  have w0 := I.2.2.2.1.2
  have c2 := kc0 car2
  have g60 := w0.n.2
  refine ⟨k1, m_rR I.1.1 ⟨c2, ?_⟩⟩
  rcases argc x (n := s.1 2) (by omega) with e | ⟨i, hi, rfl⟩
  · exact c_partN cr0.1 cr0.2.1.2.2.1 e (cT rfl (H _ _ (fun K h => ⟨k449, q_noPartN R.qq g60 e (cN (by decide) (h M V))⟩)))
  have hi8 : i < 60 := by omega
  obtain ⟨z1, z2, z3, z4, z5, z6, z7, z8, z10, z9⟩ := cr0.2.2.2.2.2.1 i hi
  obtain ⟨q0, q1, q2, q3, q4, q5, -⟩ := w0.2.2.2.2.2.2.1 i hi
  refine c_partY cr0.1 cr0.2.1.2.2.1 g60 i hi (cF (by omega) ⟨kcp car2 i hi8, ?_⟩)
  rw [z6]
  by_cases e : s.1 (92 + 8 * i + 4) = 0
  · exact cP (by rw [e]; rfl) (H _ _ (fun K h => ⟨k449, q_noPartY R.qq g60 i hi (cP rfl (q_ofPart R.qq i 4 hi8 (by decide) (cP (by rw [e]; rfl) (h M V))))⟩))
  · have n0 : ¬ nI (s.1 (92 + 8 * i + 4)) = 0 := nI_ne0 (by omega) (by omega)
    refine cN n0 ?_
    rw [z9 e]
    exact H _ _ (fun K h => ⟨k449, q_noPartY R.qq g60 i hi (cP rfl (q_ofPart R.qq i 4 hi8 (by decide) (cN n0 (q_r3 R.qq (q_rD R.qq (99 + i) (ixA 99 i) (by omega) (h M V))))))⟩)
