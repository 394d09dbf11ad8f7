/-! THE PURE PART, 34: the class reads parts -/
variable {M M' A : Mem} {b b' c h p k k' tl tl' : Nat} {s s' z z' : S3} {Hs : Nat → S3} {f f' : Bool} {q tx tx' : Nat → Nat} {N N' P : Nat → Nat} {D D' : Nat → UInt64}
def chA (K : Int32 → Mem → Prop) (nxt : Int32 → Mem → Prop) (M : Mem) (a1 : Int32) : Prop := ∀ x4, x4 = a1 + (1 : Int32) → w_X4_behindLeak 457 M 447 x4 (fun x6 M5 => ((x6 = x4 → K x6 M5) ∧ (¬ x6 = x4 → w_X4_signAt 457 M5 447 x6 (fun x8 M7 => ((x8 = (47 : Int32) → (∀ x9, x9 = x6 + (1 : Int32) → w_X4_behindVolume 457 M7 447 x9 (fun x11 M10 => ((¬ x11 = x9 → w_X4_signAt 457 M10 447 x11 (fun x13 M12 => ((¬ x13 = (-1 : Int32) → w_X4_signAt 457 M12 447 x11 (fun x15 M14 => ((x15 = (59 : Int32) → nxt x11 M14) ∧ (¬ x15 = (59 : Int32) → K x11 M14)))) ∧ (x13 = (-1 : Int32) → K (-1 : Int32) M12)))) ∧ (x11 = x9 → K x11 M10))))) ∧ (¬ x8 = (47 : Int32) → K x6 M7))))))
theorem sl_le (i : Nat) : slT tl tx i ≤ i + 6 ∧ i + 1 ≤ slT tl tx i := by
  obtain ⟨j, h1, h2, -⟩ := bl_spec (tl := tl) (tx := tx) (i + 1)
  have e1 : slT tl tx i = i + 1 + j := h1
  omega
theorem nd_le (i : Nat) : ndT tl tx i ≤ i + 10 ∧ slT tl tx i + 1 ≤ ndT tl tx i := by
  obtain ⟨j, h1, h2, -⟩ := bv_spec (tl := tl) (tx := tx) (slT tl tx i + 1)
  have e1 : ndT tl tx i = slT tl tx i + 1 + j := h1
  have := sl_le (tl := tl) (tx := tx) i
  omega
theorem c_slT {K : Int32 → Mem → Prop} (T : TX M tl tx) (i : Nat) (hi : i ≤ 100) (H : K (nI (slT tl tx i)) M) : w_X4_behindLeak 457 M 447 (nI (i + 1)) K := c_bl T (i + 1) (by omega) H
theorem c_ndT {K : Int32 → Mem → Prop} (T : TX M tl tx) (i : Nat) (hi : i ≤ 100) (H : K (nI (ndT tl tx i)) M) : w_X4_behindVolume 457 M 447 (nI (slT tl tx i + 1)) K := c_bv T (slT tl tx i + 1) (by have := sl_le (tl := tl) (tx := tx) i; omega) H
theorem c_chA {K nxt : Int32 → Mem → Prop} (T : TX M tl tx) (i : Nat) (hi : i ≤ 60) (hvp : isC tl tx i 118 ∨ isC tl tx i 112) (HF : ¬ okP tl tx i → K (nI (ftT tl tx i)) M) (HG : okP tl tx i → ndT tl tx i = tl → K (-1) M) (HE : okP tl tx i → ndT tl tx i < tl → ¬ isC tl tx (ndT tl tx i) 59 → K (nI (ndT tl tx i)) M) (HN : okP tl tx i → isC tl tx (ndT tl tx i) 59 → nxt (nI (ndT tl tx i)) M) : chA K nxt M (nI i) := by
  have l1 := sl_le (tl := tl) (tx := tx) i
  have l2 := nd_le (tl := tl) (tx := tx) i
  refine m_eq ?_
  rw [nI_1]
  refine c_slT T i (by omega) ?_
  unfold ftT at HF
  rw [if_pos hvp] at HF
  by_cases e1 : slT tl tx i = i + 1
  · refine cT (by rw [e1]) ?_
    rw [if_neg (fun y => y.1 e1)] at HF
    exact HF (fun o => o.2.1 e1)
  · refine cF (fun y => e1 ((nI_eq (by omega) (by omega)).mp y)) (c_sgnC T (slT tl tx i) 47 (by omega) (by decide) (fun y => cT rfl (m_eq ?_)) (fun y x hx => cF hx ?_))
    · rw [if_pos ⟨e1, y⟩] at HF
      rw [nI_1]
      refine c_ndT T i (by omega) ?_
      by_cases e2 : ndT tl tx i = slT tl tx i + 1
      · exact cP (by rw [e2]) (HF (fun o => o.2.2.2 e2))
      · have o : okP tl tx i := ⟨hvp, e1, y, e2⟩
        have hle := (ok_all o).2.2.2.1
        refine cN (fun y => e2 ((nI_eq (by omega) (by omega)).mp y)) ?_
        by_cases e3 : ndT tl tx i < tl
        · have b := (T.2.2.2 (ndT tl tx i) (by have := T.2.1; omega)).1
          refine c_signY T _ e3 (cN (fun y => nI_pos (n := tx (ndT tl tx i)) (by omega) (by rw [y]; decide)) (c_sgnC T (ndT tl tx i) 59 (by omega) (by decide) (fun y => cT rfl (HN o y)) (fun y x hx => cF hx (HE o e3 y))))
        · exact c_signN T _ (by omega) (by omega) (cP rfl (HG o (by omega)))
    · rw [if_neg (fun z => y z.2)] at HF
      exact HF (fun o => y o.2.2.1)
theorem c_firstFault {K : Int32 → Mem → Prop} (T : TX M tl tx) (m : Nat) (hm : m ≤ 12) (hc : ∀ i, i < m → cnP tl tx i) (hn : ¬ cnP tl tx m) (HF : ¬ okP tl tx (posT tl tx m) → K (nI (ftT tl tx (posT tl tx m))) M) (HG : okP tl tx (posT tl tx m) → ndT tl tx (posT tl tx m) = tl → K (-1) M) (HE : okP tl tx (posT tl tx m) → ndT tl tx (posT tl tx m) < tl → K (nI (ndT tl tx (posT tl tx m))) M) : w_X4_firstFault 457 M 447 K := by
  have t60 := T.2.1
  refine lpU (fun f' i (_ : Unit) => w_X4_firstFault_L4 457 K f' M 447 (nI (posT tl tx i)) (nI i)) (fun _ _ => True) m ?_ ?_ 4000 0 () (by omega) (by omega) trivial
  · intro f' _ _
    have pl := pos_le (tl := tl) (tx := tx) m hc
    have ch : (isC tl tx (posT tl tx m) 118 ∨ isC tl tx (posT tl tx m) 112) → chA K (fun x11 M14 => ∀ x16, x16 = x11 + (1 : Int32) → (∀ x17, x17 = nI m + (1 : Int32) → w_X4_firstFault_L4 457 K f' M14 447 x16 x17)) M (nI (posT tl tx m)) := fun hvp => c_chA T _ (by omega) hvp HF HG (fun o l _ => HE o l) (fun o y => absurd ⟨o, y⟩ hn)
    refine cF (fun y => absurd ((nI_leI (a := 60) (by decide) (by omega)).mp y) (by omega)) ⟨k447, c_sgnC T _ 118 (by omega) (by decide) (fun y => cT rfl (ch (Or.inl y))) (fun y x hx => cF hx (c_sgnC T _ 112 (by omega) (by decide) (fun y => cT rfl (ch (Or.inr y))) (fun y' x hx => cF hx ?_)))⟩
    have nvp : ¬ (isC tl tx (posT tl tx m) 118 ∨ isC tl tx (posT tl tx m) 112) := fun z => z.elim y y'
    have HF := HF (fun o => nvp o.1)
    unfold ftT at HF
    rw [if_neg nvp] at HF
    exact HF
  · intro f' i _ hi _ ih
    have pl := pos_le (tl := tl) (tx := tx) i (fun u hu => hc u (by omega))
    obtain ⟨o, y0⟩ := hc i hi
    have ch : chA K (fun x11 M14 => ∀ x16, x16 = x11 + (1 : Int32) → (∀ x17, x17 = nI i + (1 : Int32) → w_X4_firstFault_L4 457 K f' M14 447 x16 x17)) M (nI (posT tl tx i)) := by
      refine c_chA T _ (by omega) o.1 (fun n => absurd o n) (fun _ l => absurd y0.1 (by omega)) (fun _ _ n => absurd y0 n) (fun _ _ => m_eq (m_eq ?_))
      rw [nI_1, nI_1]
      exact ih () trivial
    refine cF (fun y => absurd ((nI_leI (a := 60) (by decide) (by omega)).mp y) (by omega)) ⟨k447, c_sgnC T _ 118 (by omega) (by decide) (fun y => cT rfl ch) (fun y x hx => cF hx (c_sgnC T _ 112 (by omega) (by decide) (fun y => cT rfl ch) (fun y' x hx => absurd (o.1.elim y y') (fun z => z))))⟩
theorem cnt_skip (g : Nat → Nat) (e i : Nat) : ∀ n, (∀ u, u < n → g (i + u) ≠ e) → cnt g e (i + n) = cnt g e i := by
  intro n
  induction n with
  | zero => intro _; rfl
  | succ n ih =>
    intro h
    show cnt g e (i + n) + (if g (i + n) = e then 1 else 0) = _
    rw [ih (fun u hu => h u (by omega)), if_neg (h n (by omega))]; rfl
theorem cnt_part {i : Nat} (o : okP tl tx i) : cnt tx 59 (ndT tl tx i) = cnt tx 59 i := by
  obtain ⟨a1, ⟨j, h1, h2, h3, h4, -⟩, ⟨j', g1, g2, g3, g4, -⟩, -⟩ := ok_all o
  have e : ndT tl tx i = i + (1 + j + 1 + j') := by omega
  rw [e]
  refine cnt_skip tx 59 i _ (fun u hu => ?_)
  by_cases u0 : u = 0
  · rw [u0, Nat.add_zero]
    rcases o.1 with y | y
    · rw [y.2]; decide
    · rw [y.2]; decide
  · by_cases u1 : u < 1 + j
    · have := h4 (u - 1) (by omega)
      rw [show i + 1 + (u - 1) = i + u by omega] at this
      have := this.2.2
      omega
    · by_cases u2 : u = 1 + j
      · have := o.2.2.1.2
        rw [h1] at this
        rw [u2, show i + (1 + j) = i + 1 + j by omega, this]; decide
      · have := g4 (u - (1 + j + 1)) (by omega)
        rw [show slT tl tx i + 1 + (u - (1 + j + 1)) = i + u by omega] at this
        have := this.2.2
        omega
theorem cnt_pos : ∀ i, (∀ u, u < i → cnP tl tx u) → cnt tx 59 (posT tl tx i) = i := by
  intro i
  induction i with
  | zero => intro _; rfl
  | succ i ih =>
    intro h
    obtain ⟨o, y⟩ := h i (by omega)
    show cnt tx 59 (ndT tl tx (posT tl tx i)) + (if tx (ndT tl tx (posT tl tx i)) = 59 then 1 else 0) = _
    rw [cnt_part o, ih (fun u hu => h u (by omega)), if_pos y.2]
theorem c_partsTold {K : Int32 → Mem → Prop} (T : TX M tl tx) (m : Nat) (hc : ∀ i, i < m → cnP tl tx i) (o : okP tl tx (posT tl tx m)) (e : ndT tl tx (posT tl tx m) = tl) (H : K (nI (m + 1)) M) : w_X4_partsTold 457 M 447 K := by
  have t60 := T.2.1
  have t2 := T.2.2.1
  have ct : cnt tx 59 tl = m := by
    have := cnt_part o
    rw [e, cnt_pos m hc] at this
    exact this
  refine lpU (fun f' i (_ : Unit) => w_X4_partsTold_L4 457 K f' M 447 (nI (1 + cnt tx 59 i)) (nI i)) (fun _ _ => True) tl ?_ ?_ 4000 0 () (by omega) (by omega) trivial
  · intro f' _ _
    refine ⟨k447, ?_⟩
    rw [t2, ct, Nat.add_comm 1 m]
    exact cT (Int32.le_refl _) H
  · intro f' i _ hi _ ih
    refine ⟨k447, ?_⟩
    rw [t2]
    have ih := ih () trivial
    have ec : cnt tx 59 (i + 1) = cnt tx 59 i + (if tx i = 59 then 1 else 0) := rfl
    rw [ec] at ih
    refine cF (nI_ge hi (by omega)) (c_sgnC T i 59 (by omega) (by decide) (fun y => cP rfl (m_eq (m_eq ?_))) (fun y x hx => cN hx (m_eq ?_)))
    · rw [if_pos y.2] at ih
      rw [nI_1, nI_1]
      exact ih
    · rw [if_neg (fun z => y ⟨hi, z⟩)] at ih
      rw [nI_1]; exact ih
/-- the states behind parts that are added -/
def adS (tl : Nat) (tx : Nat → Nat) (s : S3) : Nat → S3
  | 0 => s
  | i + 1 => (adN (adS tl tx s i).1 (ppT tl tx (posT tl tx i)) (lvT tl tx (posT tl tx i)) (vvT tl tx (posT tl tx i)), (adS tl tx s i).2.1, adP (adS tl tx s i).1 (adS tl tx s i).2.2)
theorem adS_wf (w : WFs s b) (n : Nat) (ho : ∀ i, i < n → okP tl tx (posT tl tx i)) (h60 : s.1 2 + n ≤ 60) : ∀ i, i ≤ n → WFs (adS tl tx s i) b ∧ (adS tl tx s i).1 2 = s.1 2 + i := by
  intro i
  induction i with
  | zero => intro _; exact ⟨w, rfl⟩
  | succ i ih =>
    intro hi
    obtain ⟨w1, e1⟩ := ih (by omega)
    obtain ⟨v1, v2, v3, v4⟩ := ok_val (ho i (by omega))
    have h11 : (adS tl tx s i).1 11 < 60 := by have := WF.le11 w1; omega
    refine ⟨wf_add w1 (by omega) _ _ _ v1 v2 v3 v4, ?_⟩
    have := (ad_all (adS tl tx s i).1 (ppT tl tx (posT tl tx i)) (lvT tl tx (posT tl tx i)) (vvT tl tx (posT tl tx i)) (by omega) h11).1
    refine this.trans ?_
    omega
theorem TX.fr (T : TX M tl tx) (F : ∀ r, 447 ≤ r → r ≤ 448 → Same M M' r) : TX M' tl tx := by
  obtain ⟨t0, t1, t2, t3⟩ := T
  exact ⟨by rw [(F 447 (by decide) (by decide) 0).2.2.2]; exact t0, t1, by rw [(F 447 (by decide) (by decide) 1).1]; exact t2, fun j hj => ⟨(t3 j hj).1, by rw [(F 448 (by decide) (by decide) j).1]; exact (t3 j hj).2⟩⟩
theorem c_addParts {K : Mem → Prop} (I : CI M b s Hs k z f q tl tx) (n : Nat) (hn : n ≤ 60) (ho : ∀ i, i < n → okP tl tx (posT tl tx i)) (h60 : s.1 2 + n ≤ 60) (H : ∀ M', CI M' b (adS tl tx s n) Hs k z f q tl tx → FrC M M' → K M') : w_X4_addPartsTo 457 M 447 2 (nI n) K := by
  refine lpU (fun f' i M' => w_X4_addPartsTo_L5 457 K f' M' 447 2 (nI n) (nI (posT tl tx i)) (nI i)) (fun i M' => CI M' b (adS tl tx s i) Hs k z f q tl tx ∧ FrC M M') n ?_ ?_ 4000 0 M (by omega) (by omega) ⟨I, fun _ _ => Same.rf _ _⟩
  · intro f' M' ⟨J, F⟩
    exact cT (Int32.le_refl _) (H M' J F)
  · intro f' i M' hi ⟨J, F⟩ ih
    have T := J.txx
    have t60 := T.2.1
    have o := ho i hi
    obtain ⟨w1, e1⟩ := adS_wf I.2.2.2.1.2 n ho h60 i (by omega)
    obtain ⟨a1, ⟨j, h1, h2, h3, h4, -⟩, ⟨j', g1, g2, g3, g4, -⟩, a4, -⟩ := ok_all o
    obtain ⟨v1, v2, v3, v4⟩ := ok_val o
    have nx : ∀ M2, CR M2 2 (adN (adS tl tx s i).1 (ppT tl tx (posT tl tx i)) (lvT tl tx (posT tl tx i)) (vvT tl tx (posT tl tx i))) (adS tl tx s i).2.1 (adP (adS tl tx s i).1 (adS tl tx s i).2.2) → OnC 2 M' M2 → w_X4_addPartsTo_L5 457 K f' M2 447 2 (nI n) (nI (ndT tl tx (posT tl tx i) + 1)) (nI (i + 1)) := by
      intro M2 c2 o2
      exact ih M2 ⟨J.act (s' := adS tl tx s (i + 1)) o2 c2 (adS_wf I.2.2.2.1.2 n ho h60 (i + 1) (by omega)).1 (Nat.le_refl b), F.trans (o2.fc car2)⟩
    have lv : lvT tl tx (posT tl tx i) = vlT tx (posT tl tx i + 1) j := by unfold lvT; rw [h1, Nat.add_sub_cancel_left]
    have vv : vvT tl tx (posT tl tx i) = vlT tx (slT tl tx (posT tl tx i) + 1) j' := by unfold vvT; rw [g1, Nat.add_sub_cancel_left]
    refine cF (nI_ge hi (by omega)) (m_eq ⟨k447, ?_⟩)
    rw [nI_1 (posT tl tx i)]
    refine c_slT T (posT tl tx i) (by omega) ?_
    rw [nI_1 (slT tl tx (posT tl tx i))]
    refine c_ndT T (posT tl tx i) (by omega) ?_
    have both : ∀ pp : Nat, pp = ppT tl tx (posT tl tx i) → w_X4_wholeIn 457 M' 447 (nI (posT tl tx i + 1)) (nI (slT tl tx (posT tl tx i))) (fun x10 M9 => w_X4_wholeIn 457 M9 447 (nI (slT tl tx (posT tl tx i) + 1)) (nI (ndT tl tx (posT tl tx i))) (fun x12 M11 => ((2 ≤ 457 ∧ kd 2 = (0, 0)) ∧ w_X0_addPart 457 M11 2 (nI pp) x10 x12 (fun x15 M14 => (∀ x16, x16 = nI (ndT tl tx (posT tl tx i)) + (1 : Int32) → (∀ x17, x17 = nI i + (1 : Int32) → w_X4_addPartsTo_L5 457 K f' M14 447 2 (nI n) x16 x17)))))) := by
      intro pp hpp
      have w1' := c_whole (K := fun x10 M9 => w_X4_wholeIn 457 M9 447 (nI (slT tl tx (posT tl tx i) + 1)) (nI (ndT tl tx (posT tl tx i))) (fun x12 M11 => ((2 ≤ 457 ∧ kd 2 = (0, 0)) ∧ w_X0_addPart 457 M11 2 (nI pp) x10 x12 (fun x15 M14 => (∀ x16, x16 = nI (ndT tl tx (posT tl tx i)) + (1 : Int32) → (∀ x17, x17 = nI i + (1 : Int32) → w_X4_addPartsTo_L5 457 K f' M14 447 2 (nI n) x16 x17)))))) T (posT tl tx i + 1) j h3 h4 (by omega)
      rw [← h1] at w1'
      refine w1' ?_
      have w2' := c_whole (K := fun x12 M11 => ((2 ≤ 457 ∧ kd 2 = (0, 0)) ∧ w_X0_addPart 457 M11 2 (nI pp) (nI (vlT tx (posT tl tx i + 1) j)) x12 (fun x15 M14 => (∀ x16, x16 = nI (ndT tl tx (posT tl tx i)) + (1 : Int32) → (∀ x17, x17 = nI i + (1 : Int32) → w_X4_addPartsTo_L5 457 K f' M14 447 2 (nI n) x16 x17))))) T (slT tl tx (posT tl tx i) + 1) j' (by omega) g4 (by omega)
      rw [← g1] at w2'
      refine w2' ⟨kc0 car2, ?_⟩
      rw [← lv, ← vv, hpp]
      refine c_addPart J.2.2.2.1.1 w1 (by omega) _ _ _ v1 (fun M2 c2 o2 => m_eq (m_eq ?_))
      rw [nI_1, nI_1]
      exact nx M2 c2 o2
    refine c_sgnC T (posT tl tx i) 112 (by omega) (by decide) (fun y => cP rfl (both 1 ?_)) (fun y x hx => cN hx (both 0 ?_))
    · unfold ppT; rw [if_pos y]
    · unfold ppT; rw [if_neg y]
