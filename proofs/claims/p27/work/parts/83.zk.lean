/-! p27, 14: the law -/
variable {zz : Nat}
variable {M M' A : Mem} {b b' c h p k k' tl tl' n ev : Nat} {s s' z z' : S3} {Hs Hs' : Nat → S3} {f f' : Bool} {q tx tx' : Nat → Nat}
/-- room: so many cells have been made -/
def RM27 (zz : Nat) : Prop := zz % 2 = 0 ∧ 448 + zz ≤ 1000 ∧ SL (448 + zz) ≤ 100000
theorem rm_ok : ∀ e, e ≤ 200 → RM27 (2 * e) := by
  have h : ∀ e, SL (448 + 2 * e) = SL 448 + 10 * e := by
    intro e
    induction e with
    | zero => rw [Nat.mul_zero, Nat.add_zero, Nat.add_zero]
    | succ e ih =>
      have := (al_p (2 * e) (by omega)).2.2.2
      show SL (448 + 2 * e + 2) = _
      rw [this, ih]; omega
  have h0 : SL 448 ≤ 90000 := by decide +kernel
  intro e he
  exact ⟨by omega, by omega, by rw [h e]; omega⟩
theorem rm_c (r : RM27 zz) (c s : Nat) (hc : c ≤ 1000) (hs : s ≤ 1000) : 448 + zz - 0 + c ≤ 600000 ∧ SL (448 + zz) - SL 0 + s ≤ 7302250 := by
  obtain ⟨-, r1, r2⟩ := r
  exact ⟨by omega, by omega⟩
theorem IE.ine (i : IE M b s Hs k) : INE M b := ⟨s, Hs, k, i⟩
theorem EV.ine (v : EV M b s Hs k) : INE M b := v.elim (fun i => i.ine) (fun ⟨_, i⟩ => i.ine)
theorem INE.mono (i : INE M b) (h : b ≤ b') : INE M b' := by
  obtain ⟨s, Hs, k, ⟨z, f, q, tl, tx, I⟩, e, he⟩ := i
  exact ⟨s, Hs, k, ⟨z, f, q, tl, tx, I.mono h⟩, e, he⟩
theorem z_417 {J : Nat → Mem → Nat → Int32 → Prop} (r : RM27 zz) (i : INE M b) (hb : b ≤ 20480) (H : ∀ M', INE M' b → J (448 + (zz + 2)) M' 1 (nI (ev + 1))) (a9 : Int32) (h9 : a9 = 1) : w_L_law_L417 J (448 + zz) M 1 (nI ev) a9 := by
  obtain ⟨s, Hs, k, ⟨z, f, q, tl, tx, I⟩, e, he⟩ := i
  subst h9
  obtain ⟨p1, p2, p3, p4⟩ := al_p zz r.1
  refine cF (by decide) ⟨rm_c r 2 10 (by decide) (by decide), ⟨by show 448 + zz - 0 + 2 ≤ 448 + zz + 2 - 0; omega, by show SL (448 + zz) - 0 + 10 ≤ SL (448 + zz + 2) - 0; omega⟩, z_sound I e hb r.1 (fun M2 I2 => cN (by decide) (m_eq ?_))⟩
  rw [nI_1]
  exact H M2 ⟨s, Hs, k, ⟨z, f, q, tl, tx, I2⟩, e, he⟩
theorem psK_lt (h : k < 4) : psK k = k + 1 := if_neg (by omega)
theorem psT_top (h : k < 4) : psT Hs k s k = s := by
  unfold psT
  rw [if_neg (by omega), if_neg (by omega)]
theorem z_tail {P : Mem → Int32 → Prop} (r : RM27 zz) (hk : k ≤ 4) (hb : b ≤ 20480) (v : EV M b s Hs k) (L : ∀ M' a9, INE M' b → a9 = 1 → P M' a9) (x53 : Int32) (h53 : x53 = if nI k = (4 : Int32) then (3 : Int32) else nI k) (a9 : Int32) (h9 : a9 = 1) : (448 + zz - 0 + rmX5_count.cells ≤ room_1.cells ∧ SL (448 + zz) - SL 0 + rmX5_count.slots ≤ room_1.slots) ∧ ((1 ≤ 448 + zz ∧ kd 1 = (5, 0)) ∧ w_X5_count (448 + zz) M 1 (15 : Int32) (fun x61 M60 => ((¬ x61 = nI k → ((448 + zz - 0 + rmX5_undo.cells ≤ room_1.cells ∧ SL (448 + zz) - SL 0 + rmX5_undo.slots ≤ room_1.slots) ∧ w_X5_undo (448 + zz) M60 1 (fun x64 M63 => ((¬ x64 = x53 → P M63 (0 : Int32)) ∧ (x64 = x53 → ((448 + zz - 0 + rmL_digest.cells ≤ room_1.cells ∧ SL (448 + zz) - SL 0 + rmL_digest.slots ≤ room_1.slots) ∧ w_L_digest (448 + zz) M63 1 (fun y67 M66 => (∀ x68 : Int32, x68 = (if (lg_cmp y67 (dig s)) = 0 then (1 : Int32) else (0 : Int32)) → P M66 x68)))))))) ∧ (x61 = nI k → ((¬ nI k = (4 : Int32) → P M60 a9) ∧ (nI k = (4 : Int32) → ((448 + zz - 0 + rmL_digest.cells ≤ room_1.cells ∧ SL (448 + zz) - SL 0 + rmL_digest.slots ≤ room_1.slots) ∧ w_L_digest (448 + zz) M60 1 (fun y71 M70 => (((lg_cmp y71 (dig s)) = 0 → P M70 a9) ∧ (¬ (lg_cmp y71 (dig s)) = 0 → ((448 + zz - 0 + rmX5_undo.cells ≤ room_1.cells ∧ SL (448 + zz) - SL 0 + rmX5_undo.slots ≤ room_1.slots) ∧ w_X5_undo (448 + zz) M70 1 (fun x74 M73 => ((¬ x74 = x53 → P M73 (0 : Int32)) ∧ (x74 = x53 → ((448 + zz - 0 + rmL_digest.cells ≤ room_1.cells ∧ SL (448 + zz) - SL 0 + rmL_digest.slots ≤ room_1.slots) ∧ w_L_digest (448 + zz) M73 1 (fun y77 M76 => (∀ x78 : Int32, x78 = (if (lg_cmp y77 (dig s)) = 0 then (1 : Int32) else (0 : Int32)) → P M76 x78))))))))))))))))) := by
  have r0 := rm_c r 0 0 (by decide) (by decide)
  refine ⟨r0, k1 (zz := zz), ?_⟩
  rcases v with i | ⟨s', i⟩
  · have ii := i.ine
    obtain ⟨⟨z, f, q, tl, tx, I⟩, e, he⟩ := i
    refine z_count15 I (cP rfl ?_)
    by_cases h4 : k = 4
    · exact cP (by rw [h4]; rfl) ⟨r0, z_digest I hb (cT (lg_self _) (L M a9 ii h9))⟩
    · exact cN (fun y => h4 ((nI_eq (b := 4) (by omega) (by decide)).mp y)) (L M a9 ii h9)
  · have ii := i.ine
    obtain ⟨⟨z, f, q, tl, tx, I⟩, e, he⟩ := i
    refine z_count15 I ?_
    by_cases h4 : k = 4
    · subst h4
      refine cP rfl (cP rfl ⟨r0, z_digest I hb ?_⟩)
      by_cases hd : lg_cmp (dig s') (dig s) = 0
      · exact cT hd (L M a9 ii h9)
      · refine cF hd ⟨r0, z_undo (k := 3) I (fun M1 I1 => cP ?_ ⟨r0, z_digest I1 hb (m_eq (L M1 _ ?_ ?_))⟩)⟩
        · rw [h53]; rfl
        · exact ⟨_, _, 3, ⟨_, _, _, _, _, I1⟩, he 3 (by decide), fun i hi => he i (by show i < 4; omega)⟩
        · exact if_pos (lg_self _)
    · have k4 : k < 4 := by omega
      have e1 := psK_lt k4
      have ne : ¬ nI (psK k) = nI k := fun y => by
        rw [e1] at y
        have := (nI_eq (by omega) (by omega)).mp y; omega
      refine cN ne ⟨r0, ?_⟩
      rw [e1] at I he
      have n4 : ¬ nI k = (4 : Int32) := fun y => h4 ((nI_eq (b := 4) (by omega) (by decide)).mp y)
      rw [if_neg n4] at h53
      refine z_undo I (fun M1 I1 => cP h53.symm ⟨r0, z_digest I1 hb (m_eq (L M1 _ ?_ ?_))⟩)
      · exact ⟨_, _, k, ⟨_, _, _, _, _, I1⟩, he k (by omega), fun i hi => he i (by omega)⟩
      · rw [psT_top k4]
        exact if_pos (lg_self _)
theorem z_322 {J : Nat → Mem → Nat → Int32 → Prop} (r : RM27 zz) (hk : k ≤ 4) (hb : b ≤ 20480) (v : EV M b s Hs k) (H : ∀ M', INE M' b → J (448 + (zz + 2)) M' 1 (nI (ev + 1))) (a4 : Int32) (sort : Nat) (hs : sort < 20) (h8 : sort < 8 ∨ 11 < sort) (a9 : Int32) (h9 : a9 = 1) : w_L_law_L322 J (448 + zz) M 1 (nI ev) a4 (nI sort) (nI k) (dig s) a9 := by
  have L : ∀ M' a9, INE M' b → a9 = 1 → w_L_law_L417 J (448 + zz) M' 1 (nI ev) a9 := fun M' a9 i h => z_417 r i hb H a9 h
  intro x53 h53
  refine cF (by rw [h9]; decide) ?_
  by_cases o : (a4 &&& (1536 : Int32)) = 0
  · have T := z_tail (P := fun M' a => w_L_law_L417 J (448 + zz) M' 1 (nI ev) a) r hk hb v L x53 h53 a9 h9
    by_cases s8 : sort < 8
    · exact cT (nI_lt s8 (by decide)) (cP o T)
    · refine cF (fun y => s8 ((nI_ltI (b := 8) (by omega) (by decide)).mp y)) (cF (fun y => ?_) (cP o T))
      have := (nI_leI (b := 11) (by omega) (by decide)).mp y; omega
  · have T := L M a9 v.ine h9
    by_cases s8 : sort < 8
    · exact cT (nI_lt s8 (by decide)) (cN o T)
    · refine cF (fun y => s8 ((nI_ltI (b := 8) (by omega) (by decide)).mp y)) (cF (fun y => ?_) (cN o T))
      have := (nI_leI (b := 11) (by omega) (by decide)).mp y; omega
theorem z_322r {J : Nat → Mem → Nat → Int32 → Prop} (r : RM27 zz) (hb : b ≤ 20480) (i : INE M b) (H : ∀ M', INE M' b → J (448 + (zz + 2)) M' 1 (nI (ev + 1))) (a4 a6 : Int32) (b7 : Int64) (sort : Nat) (h1 : 8 ≤ sort) (h2 : sort ≤ 11) (a9 : Int32) (h9 : a9 = 1) : w_L_law_L322 J (448 + zz) M 1 (nI ev) a4 (nI sort) a6 b7 a9 := by
  intro x53 h53
  refine cF (by rw [h9]; decide) (cF (fun y => ?_) (cT (nI_le (b := 11) h2 (by decide)) (z_417 r i hb H a9 h9)))
  have := (nI_ltI (b := 8) (by omega) (by decide)).mp y; omega
theorem z_law : ∀ r e fu (M : Mem), e + r = 26 → r < fu → INE M (32 * e) → w_L_law_L100 fu (448 + 2 * e) M 1 (nI e) := by
  intro r
  induction r with
  | zero =>
    intro e fu M he hf i
    obtain ⟨f3, rfl⟩ : ∃ f3, fu = f3 + 1 := ⟨fu - 1, by omega⟩
    exact pk_le 26 e (fun _ => rm_c (rm_ok e (by omega)) 0 0 (by decide) (by decide)) (fun _ => by omega)
  | succ r ih =>
    intro e fu M he hf i
    obtain ⟨f3, rfl⟩ : ∃ f3, fu = f3 + 1 := ⟨fu - 1, by omega⟩
    have rm := rm_ok e (by omega)
    have r0 := rm_c rm 0 0 (by decide) (by decide)
    have hb : 32 * e + 60 ≤ 20480 := by omega
    have nx : ∀ M', INE M' (32 * e + 32) → w_L_law_L100 f3 (448 + (2 * e + 2)) M' 1 (nI (e + 1)) := fun M' i' => ih (e + 1) f3 M' (by omega) (by omega) i'
    obtain ⟨s, Hs, k, ⟨z, f, q, tl, tx, I⟩, we, wh⟩ := i
    have hk := I.k4
    have w0 := I.2.2.2.1.2
    -- what comes behind an act
    have fin : ∀ (b2 : Nat) (M' : Mem) (a4 : Int32) (sort : Nat), b2 ≤ 32 * e + 32 → sort < 20 → (sort < 8 ∨ 11 < sort) → EV M' b2 s Hs k → ∀ a9, a9 = 1 → w_L_law_L322 (w_L_law_L100 f3) (448 + 2 * e) M' 1 (nI e) a4 (nI sort) (nI k) (dig s) a9 := fun b2 M' a4 sort h1 h2 h3 v a9 h9 => z_322 rm hk (by omega) v (fun M2 i2 => nx M2 (i2.mono h1)) a4 sort h2 h3 a9 h9
    refine pk_le 26 e (fun _ => by omega) (fun _ => ⟨r0, ?_⟩)
    rw [show (2 : Int32) * nI e = nI (2 * e) from pk_mul 2 e, nI_1]
    refine ⟨nI_pos' (by omega), fun g => ⟨r0, nI_pos' (by omega), fun hh => ⟨r0, z_low _ 20 (by decide) (by decide) (fun sort hs => ⟨r0, k1 (zz := 2 * e), z_count15 I ⟨r0, z_digest I (by omega) ?_⟩⟩)⟩⟩⟩
    refine pk_le 4 sort (fun s4 => ?_) (fun s4 => ?_)
    · by_cases e4 : sort = 4
      · refine cP (by rw [e4]; rfl) ⟨r0, z_count I 2 (by decide) ?_⟩
        by_cases o : 0 < (hh &&& (7 : Int32))
        · exact cT o (fin _ M hh sort (by omega) hs (Or.inl (by omega)) (EV.no I we wh) 1 rfl)
        · refine cF o ⟨r0, z_low _ 7 (by decide) (by decide) (fun v hv => ⟨r0, ?_⟩)⟩
          rw [show (2 : Int32) + nI v = nI (2 + v) from nI_add 2 v]
          refine z_build I (2 + v) (by omega) (by omega) (fun M1 q1 I1 => cP rfl ⟨r0, z_count I1 2 (by decide) (cP rfl ⟨r0, z_count I1 1 (by decide) (m_eq ?_)⟩)⟩)
          refine fin _ M1 hh sort (by omega) hs (Or.inl (by omega)) (EV.yes I1 hk we wh (we_begin (2 + v) (by omega))) _ ?_
          rfl
      · refine cN (fun y => e4 ((nI_eq (b := 4) (by omega) (by decide)).mp y)) ?_
        refine pk_le 8 sort (fun s8 => ?_) (fun s8 => ?_)
        · refine pk_le 12 sort (fun s12 => ?_) (fun s12 => ?_)
          · exact ⟨r0, z_adds I we wh (by omega) g hh (fun M1 v => fin _ M1 hh sort (by omega) hs (Or.inr (by omega)) v 1 rfl)⟩
          · refine ⟨r0, z_low _ 6 (by decide) (by decide) (fun x hx => ⟨r0, z_low _ 6 (by decide) (by decide) (fun y hy => ⟨r0, ?_⟩)⟩)⟩
            rw [show (1 : Int32) + nI x = nI (1 + x) from nI_add 1 x, show (1 : Int32) + nI y = nI (1 + y) from nI_add 1 y]
            exact z_runs I we wh (by omega) (1 + x) (1 + y) (by omega) (by omega) (by omega) (by omega) (fun M1 i1 => z_322r rm (by omega) i1 (fun M2 i2 => nx M2 (i2.mono (by omega))) _ _ _ sort (by omega) (by omega) 1 rfl)
        · by_cases e5 : sort = 5
          · exact cP (by rw [e5]; rfl) ⟨r0, z_low _ 4 (by decide) (by decide) (fun w hw => ⟨r0, z_commands I we wh (by omega) w hw (fun M1 v => fin _ M1 hh sort (by omega) hs (Or.inl (by omega)) v 1 rfl)⟩)⟩
          · exact cN (fun y => e5 ((nI_eq (b := 5) (by omega) (by decide)).mp y)) ⟨r0, z_low _ 2 (by decide) (by decide) (fun w hw => ⟨r0, z_commands I we wh (by omega) w (by omega) (fun M1 v => fin _ M1 hh sort (by omega) hs (Or.inl (by omega)) v 1 rfl)⟩)⟩
    · exact ⟨r0, z_sets I we wh (by omega) sort (by omega) g hh (fun M1 v => fin _ M1 hh sort (by omega) hs (Or.inl (by omega)) v 1 rfl)⟩
