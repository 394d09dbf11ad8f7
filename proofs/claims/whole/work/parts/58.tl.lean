/-! THE PURE PART, 36: readParts -/
variable {M M' A : Mem} {b b' c h p k k' tl tl' : Nat} {s s' z z' : S3} {Hs : Nat → S3} {f f' : Bool} {q tx tx' : Nat → Nat} {N N' P : Nat → Nat} {D D' : Nat → UInt64}
theorem r_recO {K : Mem → Prop} (R : RF M s Hs k z f tl tx) (hk : k ≤ 4) (H : ∀ M', RF M' s (psT Hs k s) (psK k) z f tl tx → OnR M M' → K M') : w_X6_record 457 M 449 K := by
  obtain ⟨r, h, ⟨f1, f2⟩, ⟨t1, t2⟩⟩ := R
  refine q_record r h hk (fun M' r' h' o => H M' ⟨r', ?_, ⟨?_, fun e => ⟨fun j hj => ?_, fun j hj => ?_⟩⟩, ⟨?_, fun j hj => ?_⟩⟩ o)
  · rw [← prj_psT]; exact h'
  · rw [o.1 449 7 (by decide) (by decide)]; exact f1
  · rw [o.1 452 j (by decide) (fun y => absurd y (by decide))]; exact (f2 e).1 j hj
  · rw [o.2.1 455 j (by decide)]; exact (f2 e).2 j hj
  · rw [o.1 449 8 (by decide) (by decide)]; exact t1
  · rw [o.1 456 j (by decide) (fun y => absurd y (by decide))]; exact t2 j hj
theorem RF.op (R : RF M s Hs k z f tl tx) (o : OnP M M') : RF M' s Hs k z f tl tx := by
  have e2 : ∀ r k, gD M' r k = gD M r k := fun r k => congrFun (congrFun (congrArg Prod.fst o.2) r) k
  have e3 : ∀ r k, gL M' r k = gL M r k := fun r k => congrFun (congrFun (congrArg (fun x => x.2.1) o.2) r) k
  refine R.text (fun r h1 h2 k => ⟨o.1 r k (by omega) (fun y => by omega), e2 r k, e3 r k, o.gR r k⟩) (fun k => o.gR 449 k) (o.1 449 6 (by decide) (fun _ => by decide)) (o.1 449 7 (by decide) (fun _ => by decide)) ⟨?_, fun j hj => ?_⟩
  · rw [o.1 449 8 (by decide) (fun _ => by decide)]; exact R.2.2.2.1
  · rw [o.1 456 j (by decide) (fun y => absurd y (by decide))]; exact R.2.2.2.2 j hj
theorem OnP.fr (o : OnP M M') : FrR M M' := fun r hr k => ⟨o.1 r k (by omega) (fun y => by omega), congrFun (congrFun (congrArg Prod.fst o.2) r) k, congrFun (congrFun (congrArg (fun x => x.2.1) o.2) r) k, o.gR r k⟩
theorem adS_D (tl : Nat) (tx : Nat → Nat) (s : S3) : ∀ i, (adS tl tx s i).2.1 = s.2.1 := by
  intro i
  induction i with
  | zero => rfl
  | succ i ih => exact ih
def rwP (tl : Nat) (tx : Nat → Nat) (M : Mem) (i : Nat) : Prop := ∀ u, u < i → gI M 457 (3 * u + 0) = nI (ppT tl tx (posT tl tx u)) ∧ gI M 457 (3 * u + 1) = nI (lvT tl tx (posT tl tx u)) ∧ gI M 457 (3 * u + 2) = nI (vvT tl tx (posT tl tx u))
theorem rwP_s {i : Nat} (r : rwP tl tx M i) (g : RP tl tx M M' (posT tl tx i) i) : rwP tl tx M' (i + 1) := by
  obtain ⟨g1, g2, g3, g4, g5, g6, g7⟩ := g
  intro u hu
  by_cases e : u = i
  · rw [e]; exact ⟨g5, g6, g7⟩
  · rw [g4 _ (by omega), g4 _ (by omega), g4 _ (by omega)]
    exact r u (by omega)
/-- the reference reads the text: behind it, its end or its fault -/
theorem r_parse {K : Int32 → Mem → Prop} (T : TR M tl tx) (g12 : gR M 449 12 = 457) (h60 : tl ≤ 60) (h65 : ∀ j, j < 60 → tx j < 65536) (e10 : gI M 449 10 = nI 0) (e11 : gI M 449 11 = nI 0) (m : Nat) (hm : m ≤ 12) (hc : ∀ i, i < m → cnP tl tx i) (hn : ¬ cnP tl tx m) (HF : ¬ okP tl tx (posT tl tx m) → ∀ M', OnP M M' → K ((-100 : Int32) - nI (ftT tl tx (posT tl tx m))) M') (HE : okP tl tx (posT tl tx m) → ndT tl tx (posT tl tx m) < tl → ∀ M', OnP M M' → K ((-100 : Int32) - nI (ndT tl tx (posT tl tx m))) M') (HG : okP tl tx (posT tl tx m) → ndT tl tx (posT tl tx m) = tl → ∀ M', OnP M M' → gI M' 449 11 = nI (m + 1) → rwP tl tx M' (m + 1) → ∀ f', w_X6_readParts_L12 457 K (f' + 1) M' 449 0) : w_X6_readParts_L12 457 K 4000 M 449 1 := by
  refine lpU (fun f' i M' => w_X6_readParts_L12 457 K (f' + 1) M' 449 1) (fun i M' => OnP M M' ∧ gI M' 449 10 = nI (posT tl tx i) ∧ gI M' 449 11 = nI i ∧ rwP tl tx M' i) m ?_ ?_ 3999 0 M (by omega) (by omega) ⟨OnP.rf M, e10, e11, fun u hu => by omega⟩
  · intro f' M' ⟨o, p10, p11, r⟩
    have pl := pos_le (tl := tl) (tx := tx) m hc
    have T' := T.op o
    have g12' : gR M' 449 12 = 457 := (o.gR 449 12).trans g12
    refine cF (by decide) ⟨k449, r_readsPart T' g12' h60 h65 (posT tl tx m) m (by omega) hm p10 p11 (fun n G oG eG => cP rfl ?_) (fun ok G g y => cN (by decide) ?_) (fun ok G g y => cP rfl ?_)⟩
    · rw [eG]; exact HF n G (o.trans oG)
    · have z : ndT tl tx (posT tl tx m) = tl := y.elim (fun z => z) (fun z => absurd ⟨ok, z⟩ hn)
      obtain ⟨u0, u1, u2⟩ := T'.op g.1
      rw [u1, g.2.1, z]
      refine cT (Int32.le_refl _) (m_eq ?_)
      have o2 : OnP G (sI G 449 10 (nI tl + 0)) := (on10_s G _).pp
      refine HG ok z _ ((o.trans g.1).trans o2) ?_ ?_ f'
      · rw [gI_ne (Or.inr (by decide))]; exact g.2.2.1
      · intro u hu
        rw [gI_ne (Or.inl (by decide)), gI_ne (Or.inl (by decide)), gI_ne (Or.inl (by decide))]
        exact rwP_s r g u hu
    · rw [g.2.1]
      have le := (ok_all ok).2.2.2.1
      exact HE ok (by have : ndT tl tx (posT tl tx m) ≠ tl := fun w => y (Or.inl w); omega) G (o.trans g.1)
  · intro f' i M' hi ⟨o, p10, p11, r⟩ ih
    have pl := pos_le (tl := tl) (tx := tx) i (fun u hu => hc u (by omega))
    obtain ⟨ok, y0⟩ := hc i hi
    have T' := T.op o
    have g12' : gR M' 449 12 = 457 := (o.gR 449 12).trans g12
    refine cF (by decide) ⟨k449, r_readsPart T' g12' h60 h65 (posT tl tx i) i (by omega) (by omega) p10 p11 (fun n => absurd ok n) (fun ok G g y => cN (by decide) ?_) (fun ok G g y => absurd (Or.inr y0) y)⟩
    obtain ⟨u0, u1, u2⟩ := T'.op g.1
    rw [u1, g.2.1]
    refine cF (nI_ge y0.1 (by omega)) (m_eq ?_)
    rw [nI_1]
    have o2 : OnP G (sI G 449 10 (nI (ndT tl tx (posT tl tx i) + 1))) := (on10_s G _).pp
    refine ih _ ⟨(o.trans g.1).trans o2, gI_eq, ?_, fun u hu => ?_⟩
    · rw [gI_ne (Or.inr (by decide))]; exact g.2.2.1
    · rw [gI_ne (Or.inl (by decide)), gI_ne (Or.inl (by decide)), gI_ne (Or.inl (by decide))]
      exact rwP_s r g u hu
theorem r_adds {K : Int32 → Mem → Prop} (R : RF M s Hs k z f tl tx) (w : WFs s b) (n : Nat) (hn : n ≤ 13) (ho : ∀ i, i < n → okP tl tx (posT tl tx i)) (h60 : s.1 2 + n ≤ 60) (e11 : gI M 449 11 = nI n) (g12 : gR M 449 12 = 457) (r : rwP tl tx M n) (H : ∀ M', RF M' (adS tl tx s n) Hs k z f tl tx → FrR M M' → K (nI n) M') : w_X6_readParts_L94 457 K 4000 M 449 0 := by
  refine lpU (fun f' i M' => w_X6_readParts_L94 457 K f' M' 449 (nI i)) (fun i M' => Q M M' (adS tl tx s i).1 s.2.1) n ?_ ?_ 4000 0 M (by omega) (by omega) R.qq
  · intro f' M' q
    refine ⟨k449, ?_⟩
    rw [q.2.1 449 11 (by decide), e11]
    refine cT (Int32.le_refl _) (H M' (R.act (s' := adS tl tx s n) q.2 ?_) q.2.fr)
    rw [adS_D]; exact q.1
  · intro f' i M' hi q ih
    obtain ⟨w1, e1⟩ := adS_wf w n ho h60 i (by omega)
    have h11 : (adS tl tx s i).1 11 < 60 := by have := WF.le11 w1; omega
    obtain ⟨r0, r1, r2⟩ := r i hi
    have g12' : gR M' 449 12 = 457 := (q.2.gR 449 12).trans g12
    refine ⟨k449, ?_⟩
    rw [q.2.1 449 11 (by decide), e11]
    refine cF (nI_ge hi (by omega)) (m_rR g12' (m_rI 457 7 42 (3 * i) k457 (pk_mul 3 i) (by omega) (by decide) (m_rR g12' (m_rI 457 7 42 (3 * i + 1) k457 ?_ (by omega) (by decide) (m_rR g12' (m_rI 457 7 42 (3 * i + 2) k457 ?_ (by omega) (by decide) ?_))))))
    · rw [show (3 : Int32) * nI i = nI (3 * i) from pk_mul 3 i]; exact nI_1 _
    · rw [show (3 : Int32) * nI i = nI (3 * i) from pk_mul 3 i]; exact nI_add _ 2
    · rw [q.2.1 457 _ (by decide), q.2.1 457 _ (by decide), q.2.1 457 _ (by decide), show gI M 457 (3 * i) = _ from r0, r1, r2]
      refine q_adds q _ _ _ (by omega) h11 (fun M2 q2 => m_eq ?_)
      rw [nI_1]
      exact ih M2 q2
theorem y_readParts {K : Int32 → Mem → Prop} (V : INV M b) (H : ∀ v M1, An (w_X6_readParts 457 M1 449) v b → K v M1) : w_X5_readParts 457 M 1 K := by
  obtain ⟨s, Hs, k, z, f, q, tl, tx, I, R⟩ := id V
  have w0 := I.2.2.2.1.2
  have cr0 := I.2.2.2.1.1
  have g60 := w0.n.2
  have i1 := I.1.1
  have i4 := I.1.2.2.2.1
  have T := I.txx
  have h60 := T.2.1
  have h65 : ∀ j, j < 60 → tx j < 65536 := fun j hj => (T.2.2.2 j hj).1
  obtain ⟨m, hm, hc, hn⟩ := cn_last (tl := tl) (tx := tx) h60
  have pl := pos_le (tl := tl) (tx := tx) m hc
  have l1 := sl_le (tl := tl) (tx := tx) (posT tl tx m)
  have l2 := nd_le (tl := tl) (tx := tx) (posT tl tx m)
  have start : ∀ (X : Mem) (K : Int32 → Mem → Prop), RF X s Hs k z f tl tx → (∀ X', OnP X X' → gI X' 449 10 = nI 0 → gI X' 449 11 = nI 0 → w_X6_readParts_L12 457 K 4000 X' 449 1) → w_X6_readParts 457 X 449 K := by
    intro X K RX h
    refine ⟨k449, m_eq (m_eq (h _ ((on10_s X _).pp.trans (onP_9 _ _)) ?_ gI_eq))⟩
    rw [gI_ne (Or.inr (by decide)), gI_eq]; rfl
  have ftb : ftT tl tx (posT tl tx m) ≤ 80 := by
    unfold ftT
    split
    · split <;> omega
    · omega
  refine ⟨k1, m_rR i4 ⟨k447, c_firstFault T m hm hc hn (fun no => ?_) (fun ok e => ?_) (fun ok e => ?_)⟩⟩
  · refine cF (fun y => nI_pos (n := ftT tl tx (posT tl tx m)) (by omega) (by rw [y]; decide)) (H _ _ (fun K h => start M K R (fun X oX x10 x11 => ?_)))
    have RX := R.op oX
    refine r_parse RX.trr RX.1.1.2.2.2.2.2.2.2 h60 h65 x10 x11 m hm hc hn (fun _ M' o' => ?_) (fun ok => absurd ok no) (fun ok => absurd ok no)
    exact h M' (inv_fin I (RX.op o') (oX.trans o').fr)
  · have ho : ∀ i, i < m + 1 → okP tl tx (posT tl tx i) := fun i hi => by
      by_cases e : i = m
      · rw [e]; exact ok
      · exact (hc i (by omega)).1
    refine cT rfl (m_rR i4 ⟨k447, c_partsTold T m hc ok e (m_rR i1 ⟨kc0 car2, ?_⟩)⟩)
    rw [cr0.2.1.2.2.1, show (60 : Int32) - nI (s.1 2) = nI (60 - s.1 2) from pk_sub (a := 60) g60]
    by_cases hf : s.1 2 + (m + 1) ≤ 60
    · refine cT (nI_le (by omega) (by omega)) (c_remember I (fun M1 q1 I1 F1 => m_rR I1.1.2.2.2.1 (m_rR I1.1.1 ⟨k447, c_addParts I1 (m + 1) (by omega) ho hf (fun M2 I2 F2 => H _ _ (fun K h => start M2 K ((R.fr F1).fr F2) (fun X oX x10 x11 => ?_)))⟩)))
      have RX := ((R.fr F1).fr F2).op oX
      refine r_parse RX.trr RX.1.1.2.2.2.2.2.2.2 h60 h65 x10 x11 m hm hc hn (fun no => absurd ok no) (fun _ l => by omega) (fun _ _ M' o' e11 rw' f' => ?_)
      have R' := RX.op o'
      refine cT rfl ⟨k449, q_r0 R'.qq (q_rI R'.qq 2 rfl (by decide) ?_)⟩
      rw [e11, nI_add]
      refine cT (nI_le (b := 60) (by omega) (by decide)) (r_recO R' I.2.2.2.2.1.1 (fun M3 R3 o3 => ?_))
      have g12 : gR M3 449 12 = 457 := R3.1.1.2.2.2.2.2.2.2
      refine r_adds R3 w0 (m + 1) (by omega) ho hf ((o3.1 449 11 (by decide) (fun _ => by decide)).trans e11) g12 (fun u hu => ?_) (fun M4 R4 F4 => ?_)
      · rw [o3.1 457 _ (by decide) (fun y => absurd y (by decide)), o3.1 457 _ (by decide) (fun y => absurd y (by decide)), o3.1 457 _ (by decide) (fun y => absurd y (by decide))]
        exact rw' u hu
      · exact h M4 (inv_fin I2 R4 (((oX.trans o').fr.trans o3.fr).trans F4))
    · refine cF (nI_ge (by omega) (by omega)) (H _ _ (fun K h => start M K R (fun X oX x10 x11 => ?_)))
      have RX := R.op oX
      refine r_parse RX.trr RX.1.1.2.2.2.2.2.2.2 h60 h65 x10 x11 m hm hc hn (fun no => absurd ok no) (fun _ l => by omega) (fun _ _ M' o' e11 rw' f' => ?_)
      have R' := RX.op o'
      refine cT rfl ⟨k449, q_r0 R'.qq (q_rI R'.qq 2 rfl (by decide) ?_)⟩
      rw [e11, nI_add]
      exact cF (nI_ge (a := 60) (by omega) (by omega)) (h M' (inv_fin I R' (oX.trans o').fr))
  · refine cF (fun y => nI_pos (n := ndT tl tx (posT tl tx m)) (by omega) (by rw [y]; decide)) (H _ _ (fun K h => start M K R (fun X oX x10 x11 => ?_)))
    have RX := R.op oX
    refine r_parse RX.trr RX.1.1.2.2.2.2.2.2.2 h60 h65 x10 x11 m hm hc hn (fun no => absurd ok no) (fun _ _ M' o' => ?_) (fun _ z => by omega)
    exact h M' (inv_fin I (RX.op o') (oX.trans o').fr)
