/-! p27, 10: the parts are sound: the loop over parts; sound -/
variable {zz : Nat}
variable {M M' A : Mem} {b b' c h p k k' tl tl' ra rb : Nat} {s s' z z' : S3} {Hs : Nat → S3} {f f' : Bool} {q tx tx' : Nat → Nat} {N N' : Nat → Nat}
theorem z_p24 {K : Int32 → Mem → Prop} (e : WEs s) (hb : b ≤ 20480) (hz : zz % 2 = 0) (hra : ra = 448 + zz + 1) (hrb : rb = 448 + zz + 2) (H : ∀ M', CI M' b s Hs k z f q tl tx → K 1 M') : ∀ r p f2 (M : Mem) (m : Nat), p + r = s.1 2 → r < f2 → CI M b s Hs k z f q tl tx → AR M ra rb s p → MK s m p → w_L_parts_L24 (448 + zz) K f2 (448 + (zz + 2)) M 1 ra rb (lN m) (nI (sm (fun q => s.1 (92 + 8 * q + 4)) p)) (nI (s.1 2)) (nI p) := by
  have al := al_ok zz hz
  obtain ⟨p1, p2, p3, p4⟩ := al_p zz hz
  have kA : ra ≤ 448 + (zz + 2) ∧ kd ra = (7, 4) := ⟨by omega, by rw [hra]; exact p1⟩
  have kB : rb ≤ 448 + (zz + 2) ∧ kd rb = (7, 6) := ⟨by omega, by rw [hrb]; exact p2⟩
  intro r
  induction r with
  | zero =>
    intro p f2 M m hpp hf I R hm
    obtain ⟨f3, rfl⟩ : ∃ f3, f2 = f3 + 1 := ⟨f2 - 1, by omega⟩
    have g60 := I.2.2.2.1.2.n.2
    have hpe : p = s.1 2 := by omega
    subst hpe
    exact pk_le (s.1 2) (s.1 2) (fun _ => z_p301 I e hz hra hrb R m hm (H M I) 5 1 4000 rfl (by decide) (by decide)) (fun _ => by omega)
  | succ r ih =>
    intro p f2 M m hpp hf I R hm
    obtain ⟨f3, rfl⟩ : ∃ f3, f2 = f3 + 1 := ⟨f2 - 1, by omega⟩
    have w0 := I.2.2.2.1.2
    have g60 := w0.n.2
    have hps : p < s.1 2 := by omega
    obtain ⟨q0, q1, q2, q3, q4, q5, q6, q7, q8, q9⟩ := w0.2.2.2.2.2.2.1 p hps
    obtain ⟨x1, x2, x3, x4⟩ := e.1 p hps
    have L := w0.2.2.2.2.2.2.2.1
    refine pk_le (s.1 2) p (fun _ => by omega) (fun _ => ⟨al, k1 (zz := zz + 2), z_part I p hps 3 (by decide) ⟨al, z_part I p hps 8 (by decide) ⟨al, z_part I p hps 7 (by decide) ⟨al, z_valueA I e hb p hps (fun v hv1 hv2 => ?_)⟩⟩⟩⟩)
    have e3 : pT s p 3 = nI (s.1 (92 + 8 * p + 3)) := rfl
    have e7 : pT s p 7 = cp (s.1 (92 + 8 * p + 7)) := rfl
    have e8 : pT s p 8 = (if s.1 (92 + 8 * p + 3) = 0 then nI (s.2.2 p) else -5) := rfl
    have e4 : pT s p 4 = nI (s.1 (92 + 8 * p + 4)) := rfl
    have e5 : pT s p 5 = nI (s.1 (92 + 8 * p + 5)) := rfl
    have e6 : pT s p 6 = hp (s.1 (92 + 8 * p + 6)) := rfl
    have e1 : pT s p 1 = nI (s.1 (92 + 8 * p + 1)) := rfl
    refine m_rI (zz := zz + 2) ra 7 4 (s.1 (92 + 8 * p + 3)) kA e3 (by omega) (by decide) (m_wI (zz := zz + 2) ra 7 4 (s.1 (92 + 8 * p + 3)) kA e3 (by omega) (by decide) ?_)
    obtain ⟨M4, hM4⟩ : ∃ M4, M4 = sI M ra (s.1 (92 + 8 * p + 3)) (gI M ra (s.1 (92 + 8 * p + 3)) + 1) := ⟨_, rfl⟩
    rw [← hM4]
    have I4 : CI M4 b s Hs k z f q tl tx := by rw [hM4]; exact I.fr (frR_hi _ _ _ (by omega))
    -- what stands behind all checks
    have CC : ∀ y80 : Int64, y80 = (if (pT s p 8) < 0 then (0 : Int64) else ((1 : Int64) <<< (Int32.toInt64 (pT s p 8) &&& 63))) → (∀ y81, y81 = lN m ||| y80 → (∀ x82 : Int32, x82 = (if (pT s p 7) ≤ 0 then (0 : Int32) else (pT s p 7)) → ((rb ≤ 448 + (zz + 2) ∧ (kd rb).1 = 7 ∧ vp_in x82 (kd rb).2) ∧ (∀ x83, x83 = gI M4 rb (Int32.toNatClampNeg x82) → ((rb ≤ 448 + (zz + 2) ∧ (kd rb).1 = 7 ∧ vp_in x82 (kd rb).2) ∧ (∀ M84, M84 = sI M4 rb (Int32.toNatClampNeg x82) (x83 + (1 : Int32)) → (∀ x85, x85 = nI p + (1 : Int32) → w_L_parts_L24 (448 + zz) K f3 (448 + (zz + 2)) M84 1 ra rb y81 (nI (sm (fun q => s.1 (92 + 8 * q + 4)) p) + pT s p 4) (nI (s.1 2)) x85))))))) := by
      have c7 : (if (pT s p 7) ≤ 0 then (0 : Int32) else (pT s p 7)) = nI (s.1 (92 + 8 * p + 7)) := by
        rw [e7]
        by_cases y : s.1 (92 + 8 * p + 7) = 0
        · rw [if_pos ((cp_npos (by omega)).mpr y), y]; rfl
        · rw [if_neg (fun a => y ((cp_npos (by omega)).mp a))]; exact if_neg y
      have nxt : ∀ (m' : Nat) (M84 : Mem), MK s m' (p + 1) → M84 = sI M4 rb (s.1 (92 + 8 * p + 7)) (gI M4 rb (s.1 (92 + 8 * p + 7)) + 1) → w_L_parts_L24 (448 + zz) K f3 (448 + (zz + 2)) M84 1 ra rb (lN m') (nI (sm (fun q => s.1 (92 + 8 * q + 4)) p) + pT s p 4) (nI (s.1 2)) (nI p + 1) := by
        intro m' M84 hm' hM
        rw [e4, nI_add, nI_1]
        refine ih (p + 1) f3 M84 m' (by omega) (by omega) ?_ ?_ hm'
        · rw [hM]; exact I4.fr (frR_hi _ _ _ (by omega))
        · refine ⟨fun e he => ?_, fun e he => ?_⟩
          · rw [hM, gI_ne (Or.inl (by omega)), hM4]
            by_cases y : e = s.1 (92 + 8 * p + 3)
            · rw [y, gI_eq, R.1 _ (by omega), nI_1, cnt, if_pos rfl]
            · rw [gI_ne (Or.inr y), R.1 e he, cnt, if_neg (fun a => y a.symm), Nat.add_zero]
          · have r4 : gI M4 rb e = gI M rb e := by rw [hM4]; exact gI_ne (Or.inl (by omega))
            rw [hM]
            by_cases y : e = s.1 (92 + 8 * p + 7)
            · rw [y, gI_eq, ← y, r4, R.2 e he, nI_1, cnt, if_pos y.symm]
            · rw [gI_ne (Or.inr y), r4, R.2 e he, cnt, if_neg (fun a => y a.symm), Nat.add_zero]
      intro y80 h80 y81 h81 x82 h82
      rw [c7] at h82
      refine m_rI (zz := zz + 2) rb 7 6 (s.1 (92 + 8 * p + 7)) kB h82 (by omega) (by decide) (m_wI (zz := zz + 2) rb 7 6 (s.1 (92 + 8 * p + 7)) kB h82 (by omega) (by decide) (m_eq ?_))
      by_cases s0 : s.1 (92 + 8 * p + 3) = 0
      · have pl := (L.2.2 p hps s0).1
        have l60 := L.1
        rw [e8, if_pos s0, if_neg (nI_pos (by omega)), (mk_shl _ (by omega)).1] at h80
        rw [h81, h80, mk_or]
        exact nxt _ _ (mk_y hm s0) rfl
      · rw [e8, if_neg s0, if_pos (by decide)] at h80
        rw [h81, h80, Int64.or_zero]
        exact nxt _ _ (mk_n hm s0) rfl
    have g1 : (if pT s p 8 < 0 then (0 : Int32) else (1 : Int32)) = (if pT s p 3 = 0 then (1 : Int32) else (0 : Int32)) := by
      rw [e8, e3]
      refine ite_not ?_
      by_cases s0 : s.1 (92 + 8 * p + 3) = 0
      · have pl := (L.2.2 p hps s0).1
        have l60 := L.1
        rw [if_pos s0, s0]
        exact ⟨fun a => absurd a (nI_pos (by omega)), fun a => absurd rfl a⟩
      · rw [if_neg s0]
        exact ⟨fun _ => nI_ne0 (by omega) (by omega), fun _ => by decide⟩
    have g2 : (if pT s p 7 ≤ 0 then (0 : Int32) else (1 : Int32)) = (if pT s p 3 = (3 : Int32) then (1 : Int32) else (0 : Int32)) := by
      rw [e7, e3]
      refine ite_not ?_
      rw [cp_npos (by omega)]
      refine ⟨fun a y => ?_, fun a => ?_⟩
      · exact x1 ((nI_eq (b := 3) (by omega) (by decide)).mp y) a
      · exact q9 (fun y => a (by rw [y]; rfl))
    have g3 : (if pT s p 6 < 0 then (0 : Int32) else (1 : Int32)) = (if pT s p 4 ≤ 0 then (0 : Int32) else (1 : Int32)) := by
      rw [e6, e4]
      refine ite_iff ?_
      rw [hp_neg (by omega)]
      refine ⟨fun a => ?_, fun a => ?_⟩
      · rw [x2.mp a]; decide
      · have := (nI_leI (b := 0) (by omega) (by decide)).mp a
        exact x2.mpr (by omega)
    have g4 : ¬ (2 : Int32) < pT s p 5 := by
      rw [e5]
      intro y
      have := (nI_ltI (a := 2) (by decide) (by omega)).mp y; omega
    have g5 : pT s p 5 ≤ pT s p 4 := by
      rw [e5, e4]
      exact nI_le x3 (by omega)
    have g6 : (if Op.cmpValue (FP.dcmp v v) CmpOp.l = 0 then (0 : Int32) else (1 : Int32)) = (if pT s p 4 = 0 then (1 : Int32) else (0 : Int32)) := by
      rw [e4]
      refine ite_not ?_
      rw [hv1]
      exact ⟨fun a => nI_ne0 (by omega) (by omega), fun a y => a (by rw [y]; rfl)⟩
    refine ⟨al, z_part I4 p hps 4 (by decide) (m_eq (m_eq (m_eq (cP g1 (m_eq (m_eq (cP g2 ?_)))))))⟩
    refine ⟨al, z_part I4 p hps 6 (by decide) (m_eq ⟨al, z_part I4 p hps 4 (by decide) (m_eq (cP g3 ?_))⟩)⟩
    refine ⟨al, z_part I4 p hps 5 (by decide) (cF g4 ⟨al, z_part I4 p hps 5 (by decide) ⟨al, z_part I4 p hps 4 (by decide) (cT g5 (m_eq ?_))⟩⟩)⟩
    refine ⟨al, z_part I4 p hps 4 (by decide) (m_eq (cP g6 ⟨al, z_part I4 p hps 1 (by decide) ?_⟩))⟩
    rw [e1]
    by_cases l0 : s.1 (92 + 8 * p + 1) = 0
    · refine cP (by rw [l0]; rfl) ⟨al, z_part I4 p hps 4 (by decide) ?_⟩
      by_cases t0 : s.1 (92 + 8 * p + 4) = 0
      · exact cT (by rw [e4, t0]; decide) CC
      · refine cF (fun a => ?_) (cT (hv2 l0 t0) CC)
        rw [e4] at a
        have := (nI_leI (b := 0) (by omega) (by decide)).mp a; omega
    · exact cN (nI_ne0 (by omega) (by omega)) CC
theorem z_parts {K : Int32 → Mem → Prop} (I : CI M b s Hs k z f q tl tx) (e : WEs s) (hb : b ≤ 20480) (hz : zz % 2 = 0) (H : ∀ M', CI M' b s Hs k z f q tl tx → K 1 M') : w_L_parts (448 + zz) M 1 K := by
  obtain ⟨p1, p2, p3, p4⟩ := al_p zz hz
  have al := al_ok zz hz
  refine ⟨⟨p1, ?_⟩, m_eq (m_eq ⟨⟨p2, ?_⟩, m_eq (m_eq ⟨al, k1 (zz := zz + 2), ?_⟩)⟩)⟩
  · unfold Al
    refine ⟨Nat.le_refl _, by show 448 + zz + 1 ≤ 448 + zz + 2; omega, ?_⟩
    rw [p3]
    show SL (448 + zz) + 4 ≤ SL (448 + zz) + 10
    omega
  · unfold Al
    refine ⟨by omega, by show 448 + zz + 1 + 1 ≤ 448 + zz + 2; omega, ?_⟩
    show SL (448 + zz + 2) ≤ SL (448 + zz) + 10
    omega
  · obtain ⟨M3, hM3⟩ : ∃ M3, M3 = zr (zr M (448 + zz + 1)) (448 + zz + 1 + 1) := ⟨_, rfl⟩
    rw [← hM3]
    have F : FrR M M3 := fun r hr => by
      rw [hM3]
      exact (zr_same (M := M) (r := 448 + zz + 1) (a := r) (by omega)).trans (zr_same (by omega))
    have I3 := I.fr F
    refine z_count (zz := zz + 2) I3 2 (by decide) ?_
    refine z_p24 e hb hz rfl rfl H (s.1 2) 0 4000 M3 0 (by omega) (by have := I.2.2.2.1.2.n.2; omega) I3 ⟨fun e he => ?_, fun e he => ?_⟩ (mk_0 s)
    · rw [hM3, gI_zr (by omega)]
      exact gI_z0
    · rw [hM3]
      exact gI_z0
theorem z_sound {K : Int32 → Mem → Prop} (I : CI M b s Hs k z f q tl tx) (e : WEs s) (hb : b ≤ 20480) (hz : zz % 2 = 0) (H : ∀ M', CI M' b s Hs k z f q tl tx → K 1 M') : w_L_sound (448 + zz) M 1 K := by
  obtain ⟨p1, p2, p3, p4⟩ := al_p zz hz
  have al := al_ok zz hz
  refine ⟨⟨by show 448 + zz - (448 + zz) + 2 ≤ 2; omega, by show SL (448 + zz) - SL (448 + zz) + 10 ≤ 10; omega⟩, ⟨by show 448 + zz - (448 + zz) + 2 ≤ 448 + zz + 2 - (448 + zz); omega, by show SL (448 + zz) - SL (448 + zz) + 10 ≤ SL (448 + zz + 2) - SL (448 + zz); omega⟩, z_parts I e hb hz (fun M2 I2 => cF (by decide) ⟨al, z_heads (zz := zz + 2) I2 e hb (cF (by decide) ⟨al, k1 (zz := zz + 2), z_pressureBits3 (zz := zz + 2) I2 (cP ((lg_cmp_eq _ _).mpr rfl) ⟨rfl, Nat.le_of_eq p4, rfl, H M2 I2⟩)⟩)⟩)⟩
