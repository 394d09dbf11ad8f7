/-! THE PURE PART, 14: the class lets pressures leak away -/
variable {zz : Nat}
variable {M M' : Mem} {c h p t : Nat} {N N' P P' : Nat → Nat} {D D' : Nat → UInt64}
theorem lkN_ne2 (N : Nat → Nat) (a x : Nat) : ∀ n, (∀ m, m < n → m ≠ a → N (12 + 10 * m + 3) ≠ 0 → x ≠ 12 + 10 * m + 8) → lkN N a n x = N x := by
  intro n
  induction n with
  | zero => intro _; rfl
  | succ n ih =>
    intro h
    unfold lkN
    split
    · next e => rw [inc_ne (h n (by omega) e.1 e.2)]; exact ih (fun m hm => h m (by omega))
    · exact ih (fun m hm => h m (by omega))
theorem lkN_eq (N : Nat → Nat) (a h : Nat) : ∀ n, h < n → h ≠ a → N (12 + 10 * h + 3) ≠ 0 → lkN N a n (12 + 10 * h + 8) = N (12 + 10 * h + 8) + 1 := by
  intro n
  induction n with
  | zero => intro h; omega
  | succ n ih =>
    intro h1 h2 h3
    unfold lkN
    by_cases e : h = n
    · subst e
      rw [if_pos ⟨h2, h3⟩, inc_eq, lkN_ne2 N a _ h (fun m hm _ _ => by omega)]
    · have := ih (by omega) h2 h3
      split
      · rw [inc_ne (by omega)]; exact this
      · exact this
theorem lkD_ne2 (N : Nat → Nat) (D : Nat → UInt64) (a x : Nat) : ∀ n, (∀ m, m < n → m ≠ a → N (12 + 10 * m + 3) ≠ 0 → x ≠ 5 + 12 * m + N (12 + 10 * m + 8)) → lkD N D a n x = D x := by
  intro n
  induction n with
  | zero => intro _; rfl
  | succ n ih =>
    intro h
    unfold lkD
    split
    · next e => rw [up_ne (h n (by omega) e.1 e.2)]; exact ih (fun m hm => h m (by omega))
    · exact ih (fun m hm => h m (by omega))
/-- the pressure of a head behind another step -/
def nx (N : Nat → Nat) (D : Nat → UInt64) (h : Nat) : UInt64 := dec1 (nI (N (92 + 8 * (N (12 + 10 * h + 3) - 1) + 1))) (BY (N (92 + 8 * (N (12 + 10 * h + 3) - 1) + 2))) (D (5 + 12 * h + (N (12 + 10 * h + 8) - 1)))
theorem lkD_eq (N : Nat → Nat) (D : Nat → UInt64) (a h : Nat) : ∀ n, (∀ m, m < n → m ≠ a → N (12 + 10 * m + 3) ≠ 0 → N (12 + 10 * m + 8) ≤ 9) → h < n → h ≠ a → N (12 + 10 * h + 3) ≠ 0 → lkD N D a n (5 + 12 * h + N (12 + 10 * h + 8)) = nx N D h := by
  intro n
  induction n with
  | zero => intro _ h; omega
  | succ n ih =>
    intro h0 h1 h2 h3
    unfold lkD
    by_cases e : h = n
    · subst e
      rw [if_pos ⟨h2, h3⟩, up_eq]; rfl
    · have := ih (fun m hm => h0 m (by omega)) (by omega) h2 h3
      have t1 := h0 h h1 h2 h3
      split
      · next g =>
        have t2 := h0 n (by omega) g.1 g.2
        rw [up_ne (by omega)]; exact this
      · exact this
def lwI (M : Mem) (c : Nat) (N : Nat → Nat) (a i k : Nat) : Int32 := if i ≠ a ∧ N (12 + 10 * i + 3) ≠ 0 ∧ k = 9 then gI M (c + 5 + i) 9 + 1 else gI M (c + 5 + i) k
def lwD (M : Mem) (c : Nat) (N : Nat → Nat) (D : Nat → UInt64) (a i k : Nat) : UInt64 := if i ≠ a ∧ N (12 + 10 * i + 3) ≠ 0 ∧ k = 8 then nx N D i else gD M (c + 5 + i) k
def lwM (M : Mem) (c : Nat) (N : Nat → Nat) (D : Nat → UInt64) (a : Nat) : Mem := bkM M (c + 5) 8 (lwI M c N a) (lwD M c N D a)
theorem s5_dec {K : UInt64 → Mem → Prop} (lk vol : Nat) (hl : lk ≤ 99999) (h1 : 1 ≤ vol) (h2 : vol ≤ 999) (p : UInt64) (hp : PZ p) (n : Nat) (hn : n < 4000) (H : K (decn (nI lk) (BY vol) p n) M) : w_X5_decayed (448 + zz) M p (nI lk) (nI vol) (nI n) K := by
  refine lpU (fun f i (_ : Unit) => w_X5_decayed_L6 (448 + zz) K f M (nI lk) (nI vol) (nI n) (decn (nI lk) (BY vol) p i) (nI i)) (fun _ _ => True) n ?_ ?_ 4000 0 () (by omega) ?_ trivial
  · intro f _ _
    exact pk_le n n (fun _ => H) (fun z => by omega) rfl rfl (by omega) (by omega)
  · intro f i _ hi _ ih
    obtain ⟨g1, g2, g3, -⟩ := dec_ok (decn_ok hp hl h1 h2 i) hl h1 h2
    refine pk_le n i (fun z => by omega) (fun _ => ⟨g1, m_eq ⟨by_ok h1 h2, m_eq ⟨g2, m_eq ⟨g3, fun z e => ?_⟩⟩⟩⟩) rfl rfl (by omega) (by omega)
    have hs := ih () trivial
    have ed : decn (nI lk) (BY vol) p (i + 1) = dcz z := by rw [e]; rfl
    rw [ed] at hs
    unfold dcz at hs
    refine ⟨fun y => m_eq ?_, fun y => m_eq ?_⟩
    · rw [if_pos y] at hs
      rw [nI_1]; exact hs
    · rw [if_neg y] at hs
      rw [nI_1]; exact hs
  · omega
theorem c_leak {K : Mem → Prop} (cr : CR M c N D P) (a : Nat) (ha : a < 8) (h0 : N 0 ≤ 8) (h2 : N 2 ≤ 60) (hz : ∀ h, N 0 ≤ h → h < 8 → N (12 + 10 * h + 3) = 0) (hL : ∀ h, h < N 0 → h ≠ a → LK N D h) (h3 : ∀ h, h < N 0 → N (12 + 10 * h + 3) ≤ N 2) (H : K (lwM M c N D a)) : w_X0_leakAwayFrom (448 + zz) M c (c + 5 + a) K := by
  obtain ⟨S, ⟨s1, s2, s3, s4, s5⟩, cq, ch, cd, pc, pa⟩ := id cr
  obtain ⟨C, ⟨r0, r1, r2, r3, r4⟩, hhn, hpn, -⟩ := id S
  have cpos := C.pos
  refine ⟨kc0 (zz := zz) C, m_rR r3 (a_len (kcH (zz := zz) C) (by decide) (m_eq ?_))⟩
  rw [a_ln (kcH (zz := zz) C)]
  refine lpU (fun f i M' => w_X0_leakAwayFrom_L11 (448 + zz) K f M' c (c + 5 + a) (c + 4) (nI 8) (nI i)) (fun i M' => M' = bkM M (c + 5) i (lwI M c N a) (lwD M c N D a)) 8 ?_ ?_ 4000 0 M (by omega) (by omega) (bk_0 _ _ _).symm
  · intro f M' hM
    subst hM
    exact pk_le 8 8 (fun _ => H) (fun z => by omega)
  · intro f i M' hi hM ih
    have e4 : ∀ k, gI M' (c + 5 + i) k = gI M (c + 5 + i) k := fun k => by rw [hM]; exact gI_bkN (by omega)
    have d4 : ∀ k, gD M' (c + 5 + i) k = gD M (c + 5 + i) k := fun k => by rw [hM]; exact gD_bkN (by omega)
    have q4 : ∀ q k, gI M' (c + 14 + q) k = gI M (c + 14 + q) k := fun q k => by rw [hM]; exact gI_bkN (by omega)
    have SM : Sh M' c := by
      refine S.to (fun x hx => ?_) (fun x hx => q4 x 0) (fun _ _ _ _ => by rw [hM]; rfl) (by rw [hM]; rfl)
      rw [hM]
      by_cases z : x < i
      · rw [gI_bkY z]; unfold lwI; rw [if_neg (fun y => absurd y.2.2 (by decide))]
      · exact gI_bkN (by omega)
    have s3' : gI M' c 7 = nI (N 2) := by rw [hM]; exact (gI_bkN (by omega)).trans s3
    have rr : gR M' (c + 4) i = c + 5 + i := by rw [hM]; exact (hhn i hi).1
    have keep : ¬ (i ≠ a ∧ N (12 + 10 * i + 3) ≠ 0) → w_X0_leakAwayFrom_L11 (448 + zz) K f M' c (c + 5 + a) (c + 4) (nI 8) (nI i + 1) := by
      intro hn
      rw [nI_1]
      refine ih M' (bk_s (fun r k _ => by rw [hM]) (fun k => ?_) (fun r k _ => by rw [hM]) (fun k => ?_) (by rw [hM]; rfl))
      · rw [e4 k]; unfold lwI; rw [if_neg (fun y => hn ⟨y.1, y.2.1⟩)]
      · rw [d4 k]; unfold lwD; rw [if_neg (fun y => hn ⟨y.1, y.2.1⟩)]
    refine pk_le 8 i (fun z => by omega) (fun _ => a_idx (c + 4) 10 8 i _ (kcH (zz := zz) C) (by decide) rfl hi (by decide) rr ⟨kch (zz := zz) C i hi, kc0 (zz := zz) C, ?_⟩)
    have x6 := (ch i hi).2.2.2.1
    rw [e4 6, x6]
    by_cases z : N (12 + 10 * i + 3) = 0
    · rw [z]
      refine c_partN SM s3' (Or.inl (by decide)) ⟨fun _ => m_eq (keep (fun y => y.2 z)), fun _ => cT rfl (m_eq (keep (fun y => y.2 z)))⟩
    · have i0 : i < N 0 := by
        rcases Nat.lt_or_ge i (N 0) with w | w
        · exact w
        · exact absurd (hz i w hi) z
      obtain ⟨q, eq⟩ : ∃ q, N (12 + 10 * i + 3) = q + 1 := ⟨N (12 + 10 * i + 3) - 1, by omega⟩
      have q2 := h3 i i0
      rw [eq, hp_s]
      refine c_partY SM s3' h2 q (by omega) ?_
      by_cases w : i = a
      · exact cT (by rw [w]) (m_eq (keep (fun y => y.1 w)))
      · refine cF (by omega) (cF (by omega) ⟨kcp (zz := zz) C q (by omega), ?_⟩)
        obtain ⟨l1, l2, l3, l4, l5, l6⟩ := hL i i0 w z
        rw [eq, Nat.add_sub_cancel] at l4 l5 l6
        obtain ⟨z1, z2, z3, -⟩ := pc q (by omega)
        obtain ⟨y7, y8, y9⟩ := (cd i i0).2.2 z
        rw [q4, q4, z2, z3, d4 8, y8]
        refine s5_dec _ _ l4 l5 l6 _ l3 1 (by decide) (m_eq (m_eq (m_eq ?_)))
        rw [nI_1]
        have en : decn (nI (N (92 + 8 * q + 1))) (BY (N (92 + 8 * q + 2))) (D (5 + 12 * i + (N (12 + 10 * i + 8) - 1))) 1 = nx N D i := by
          unfold nx
          rw [eq, Nat.add_sub_cancel]
          rfl
        rw [en]
        refine ih _ (bk_s (fun r k hr => by rw [gI_ne (Or.inl hr), gI_sD, hM]) (fun k => ?_) (fun r k hr => by rw [gD_sI, gD_ne (Or.inl hr), hM]) (fun k => ?_) (by rw [hM]; rfl))
        · unfold lwI
          by_cases k9 : k = 9
          · subst k9
            rw [if_pos ⟨w, z, rfl⟩, gI_eq, gI_sD, e4]
          · rw [if_neg (fun y => k9 y.2.2), gI_ne (Or.inr k9), gI_sD, e4]
        · unfold lwD
          by_cases k8 : k = 8
          · subst k8
            rw [if_pos ⟨w, z, rfl⟩, gD_sI, gD_eq]
          · rw [if_neg (fun y => k8 y.2.2), gD_sI, gD_ne (Or.inr k8), d4]
theorem onC_lw (a : Nat) : OnC c M (lwM M c N D a) := onC_bk (by omega) (by omega)
theorem cr_leak (cr : CR M c N D P) (a : Nat) (h0 : N 0 ≤ 8) (h2 : N 2 ≤ 60) (ht : ∀ h, h < N 0 → N (12 + 10 * h + 3) ≠ 0 → 1 ≤ N (12 + 10 * h + 8) ∧ N (12 + 10 * h + 8) ≤ 9) : CR (lwM M c N D a) c (lkN N a (N 0)) (lkD N D a (N 0)) P := by
  obtain ⟨S, ⟨s1, s2, s3, s4, s5⟩, cq, ch, cd, pc, pa⟩ := id cr
  have nn : ∀ x, (∀ m, m < N 0 → x ≠ 12 + 10 * m + 8) → lkN N a (N 0) x = N x := fun x hx => lkN_ne N a x (N 0) hx
  have n0 : lkN N a (N 0) 0 = N 0 := nn 0 (by omega)
  have n2 : lkN N a (N 0) 2 = N 2 := nn 2 (by omega)
  have dl : ∀ x, (∀ m, m < N 0 → m ≠ a → N (12 + 10 * m + 3) ≠ 0 → x ≠ 5 + 12 * m + N (12 + 10 * m + 8)) → lkD N D a (N 0) x = D x := fun x hx => lkD_ne2 N D a x (N 0) hx
  have lI : ∀ i k, k ≠ 9 → lwI M c N a i k = gI M (c + 5 + i) k := fun i k hk => if_neg (fun y => hk y.2.2)
  have lD : ∀ i k, k ≠ 8 → lwD M c N D a i k = gD M (c + 5 + i) k := fun i k hk => if_neg (fun y => hk y.2.2)
  refine ⟨?_, ?_, ?_, ?_, ?_, ?_, ?_⟩
  · refine S.to (fun x hx => ?_) (fun x hx => ?_) (fun _ _ _ _ => rfl) rfl
    · unfold lwM; rw [gI_bkY hx, lI _ _ (by decide)]
    · exact gI_bkN (by omega)
  · unfold CS lwM
    rw [gI_bkN (by omega), gI_bkN (by omega), gI_bkN (by omega), gI_bkN (by omega), gI_bkN (by omega), n0, n2, nn 1 (by omega), nn 3 (by omega)]
    exact ⟨s1, s2, s3, s4, s5⟩
  · intro i hi
    rw [dl i (fun m _ _ _ => by omega)]
    refine ⟨(cq i hi).1, ?_⟩
    unfold lwM
    rw [gD_bkN (by omega)]
    exact (cq i hi).2
  · intro i hi
    have hx := ch i hi
    unfold HI at hx ⊢
    unfold lwM
    rw [gI_bkY hi, gI_bkY hi, gI_bkY hi, gI_bkY hi, gI_bkY hi, gI_bkY hi, gI_bkY hi, gI_bkY hi, lI _ _ (by decide), lI _ _ (by decide), lI _ _ (by decide), lI _ _ (by decide), lI _ _ (by decide), lI _ _ (by decide), lI _ _ (by decide), lI _ _ (by decide)]
    rw [nn _ (by omega), nn _ (by omega), nn _ (by omega), nn _ (by omega), nn _ (by omega), nn _ (by omega), nn _ (by omega), nn _ (by omega)]
    exact hx
  · intro i hi
    rw [n0] at hi
    have hi8 : i < 8 := by omega
    obtain ⟨y1, y2, y3⟩ := cd i hi
    refine ⟨?_, ?_, fun q => ?_⟩
    · unfold lwM
      rw [gD_bkY hi8, lD _ _ (by decide), dl _ (fun m hm _ g => by have := ht m hm g; omega)]
      exact y1
    · unfold lwM
      rw [gD_bkY hi8, lD _ _ (by decide), dl _ (fun m hm _ g => by have := ht m hm g; omega)]
      exact y2
    · rw [nn _ (by omega)] at q
      obtain ⟨y7, y8, y9⟩ := y3 q
      have tt := ht i hi q
      have z0 : lkD N D a (N 0) (5 + 12 * i + 0) = D (5 + 12 * i + 0) := dl _ (fun m hm _ g => by
        have := ht m hm g
        by_cases e : m = i
        · subst e; omega
        · omega)
      refine ⟨?_, ?_⟩
      · unfold lwM
        rw [gD_bkY hi8, lD _ _ (by decide), z0]
        exact y7
      · unfold lwM
        rw [gD_bkY hi8, gI_bkY hi8]
        by_cases e : i = a
        · have e8 : lkN N a (N 0) (12 + 10 * i + 8) = N (12 + 10 * i + 8) := lkN_ne2 N a _ _ (fun m _ g _ => by omega)
          rw [e8, show lwD M c N D a i 8 = gD M (c + 5 + i) 8 from if_neg (fun y => y.1 e), show lwI M c N a i 9 = gI M (c + 5 + i) 9 from if_neg (fun y => y.1 e), dl _ (fun m hm ma g => by have := ht m hm g; omega)]
          exact ⟨y8, y9⟩
        · have e8 : lkN N a (N 0) (12 + 10 * i + 8) = N (12 + 10 * i + 8) + 1 := lkN_eq N a i _ hi e q
          rw [e8, Nat.add_sub_cancel, lkD_eq N D a i _ (fun m hm _ g => (ht m hm g).2) hi e q, show lwD M c N D a i 8 = nx N D i from if_pos ⟨e, q, rfl⟩, show lwI M c N a i 9 = gI M (c + 5 + i) 9 + 1 from if_pos ⟨e, q, rfl⟩, y9, nI_1]
          exact ⟨rfl, congrArg nI (by omega)⟩
  · intro q hq
    rw [n2] at hq
    have hx := pc q hq
    have g : ∀ k, gI (lwM M c N D a) (c + 14 + q) k = gI M (c + 14 + q) k := fun k => gI_bkN (by omega)
    have g2 : gD (lwM M c N D a) (c + 14 + q) 9 = gD M (c + 14 + q) 9 := gD_bkN (by omega)
    unfold PC at hx ⊢
    rw [g, g, g, g, g, g, g, g, g, g2, nn _ (by omega), nn _ (by omega), nn _ (by omega), nn _ (by omega), nn _ (by omega), nn _ (by omega), nn _ (by omega), nn _ (by omega), dl _ (fun m hm _ w => by have := ht m hm w; omega)]
    exact hx
  · intro q hq h6
    rw [n2] at hq
    unfold PA lwM
    rw [gI_bkN (by omega), gI_bkN (by omega), gI_bkN (by omega)]
    exact pa q hq h6

