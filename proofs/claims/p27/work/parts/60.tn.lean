/-! THE PURE PART, 38: both constructors -/
variable {M M' A : Mem} {b b' c h p k r0 ra i v : Nat}
def N1 : Nat → Nat := fun x => if x = 3 then 20 else 0
def D1 : Nat → UInt64 := fun x => if x = 0 then 4647503709213818880 else if x = 1 then 4626322717216342016 else if x = 2 then 4629137466983448576 else FP.dconst0
def s0 : S3 := (bgN N1 4, bgD D1 4, fun _ => 0)
theorem s0_wf : WFs s0 0 := by
  refine wf_begin (N := N1) (D := D1) ⟨by decide, by decide⟩ ⟨?_, ?_, ?_, ?_⟩ 4 (by decide) (by decide)
  · unfold PZ; decide
  · decide
  · decide
  · decide
theorem c0_cr (C : Car c) (x : C0 A M c) : CRs M c s0 := by
  obtain ⟨⟨-, ⟨g0, g1, g2⟩, f5, ⟨⟨p0, p1, p2, p3⟩, ⟨u0, u1, u2, u3⟩, ⟨v0, v1, v2, v3⟩⟩⟩, g3, hd, g4, pt, f6, f7, f8, f9⟩ := x
  have n0 : ∀ x, x ≠ 0 → x ≠ 3 → bgN N1 4 x = 0 := fun x a b => bgN_z a b
  refine ⟨⟨C, ⟨g0, g1, g2, g3, g4⟩, fun h hh => ⟨(hd h hh).1, (hd h hh).2.1⟩, fun p hp => ⟨(pt p hp).1, (pt p hp).2.1⟩, p0, p1, u0, u1, v0, v1⟩, ⟨f5, f6, f7, f8, f9⟩, fun i hi => ?_, fun h hh => ?_, fun h hh => ?_, fun p hp => ?_, fun p h1 h2 => ?_⟩
  · rcases (show i = 0 ∨ i = 1 ∨ i = 2 by omega) with rfl | rfl | rfl
    · exact ⟨p2, p3⟩
    · exact ⟨u2, u3⟩
    · exact ⟨v2, v3⟩
  · obtain ⟨-, -, x, -⟩ := hd h hh
    unfold HI
    rw [show s0.1 = bgN N1 4 from rfl, n0 _ (by omega) (by omega), n0 _ (by omega) (by omega), n0 _ (by omega) (by omega), n0 _ (by omega) (by omega), n0 _ (by omega) (by omega), n0 _ (by omega) (by omega), n0 _ (by omega) (by omega), n0 _ (by omega) (by omega)]
    exact x
  · have hh : h < 4 := hh
    obtain ⟨-, -, -, x1, x2⟩ := hd h (by omega)
    unfold HD
    rw [show s0.1 = bgN N1 4 from rfl, show s0.2.1 = bgD D1 4 from rfl, n0 (12 + 10 * h + 3) (by omega) (by omega)]
    refine ⟨?_, ?_, fun z => absurd rfl z⟩
    · rw [x1]; exact (bgD_1 hh (i := 0) (by decide)).symm
    · rw [x2, show 4 + 12 * h = 3 + 12 * h + 1 by omega]; exact (bgD_1 hh (by decide)).symm
  · have hp : p < 0 := hp
    omega
  · obtain ⟨-, -, y4, y10, y1⟩ := pt p h2
    exact ⟨y4, y10, Or.inl y1⟩
def q0 (j : Nat) : Nat := 77 + 74 * j
theorem q0_car (j : Nat) (hj : j < 5) : Car (q0 j) := by
  unfold Car q0
  omega
theorem x5_sl : ∀ i, i < 5 → (kd (76 + 74 * i + 1) = (0, 0) ∧ SL (76 + 74 * i + 1) ≤ SL 1 + 5238 ∧ SL (76 + 74 * i + 1) - SL 1 + 852 ≤ 5238) := by decide +kernel
theorem x5_al (i : Nat) (hi : i < 5) : (kd (76 + 74 * i + 1) = (0, 0) ∧ Al rmX5_init 1 (76 + 74 * i)) ∧ ((76 + 74 * i + 1) - 1 + 73 ≤ 447 ∧ SL (76 + 74 * i + 1) - SL 1 + 852 ≤ 5238) ∧ ((76 + 74 * i + 1) - 1 + 73 ≤ 76 + 74 * i + 1 + 73 - 1 ∧ SL (76 + 74 * i + 1) - SL 1 + 852 ≤ SL (76 + 74 * i + 1 + 73) - SL 1) := by
  obtain ⟨h1, h2, h3⟩ := x5_sl i hi
  have C : Car (76 + 74 * i + 1) := by unfold Car; omega
  have e := SL_car C
  have m := SL_le (show 1 ≤ 76 + 74 * i + 1 by omega)
  have h2' : SL (76 + 74 * i + 1) ≤ SL 1 + rmX5_init.slots := h2
  exact ⟨⟨h1, by omega, by show 76 + 74 * i + 1 ≤ 1 + 447; omega, h2'⟩, ⟨by omega, h3⟩, by omega, by omega⟩
/-- the object of the class as it is at first -/
def CI0 (M : Mem) : Prop := CI M 0 s0 (fun _ => s0) 0 s0 false q0 0 (fun _ => 0)
def JX (M : Mem) (i : Nat) : Prop := gR M 1 0 = 2 ∧ gR M 1 1 = 76 ∧ CRs M 2 s0 ∧ ∀ j, j < i → gR M 76 j = q0 j ∧ CRs M (q0 j) s0
theorem cr0_fr (C : Car c) (F : ∀ r, c ≤ r → r < c + 74 → Same M M' r) (x : CRs M c s0) : CRs M' c s0 := CRs.fr F s0_wf x
theorem zr_same {r a : Nat} (h : a ≠ r) : Same M (zr M r) a := fun k => ⟨gI_zr h, gD_zr h, gL_zr h, gR_zr h⟩
theorem sR_same {r j v a : Nat} (h : a ≠ r) : Same M (sR M r j v) a := fun k => ⟨rfl, rfl, rfl, gR_ne (Or.inl h)⟩
theorem sI_same {r j a : Nat} {v : Int32} (h : a ≠ r) : Same M (sI M r j v) a := fun k => ⟨gI_ne (Or.inl h), rfl, rfl, rfl⟩
theorem k76s : kd 76 = (12, 4) := by decide
theorem k447s : kd 447 = (4, 0) := by decide
theorem k448s : kd 448 = (9, 60) := by decide
theorem x5_endk (k : Nat) (hk : k = 372) : (kd (k + 1) = (0, 0) ∧ Al rmX5_init 1 k) ∧ ((k + 1) - 1 + 73 ≤ 447 ∧ SL (k + 1) - SL 1 + 852 ≤ 5238) ∧ ((k + 1) - 1 + 73 ≤ k + 1 + 73 - 1 ∧ SL (k + 1) - SL 1 + 852 ≤ SL (k + 1 + 73) - SL 1) ∧ (kd (k + 1 + 73 + 1) = (4, 0) ∧ Al rmX5_init 1 (k + 1 + 73)) ∧ ((k + 1 + 73 + 1) - 1 + 1 ≤ 447 ∧ SL (k + 1 + 73 + 1) - SL 1 + 60 ≤ 5238) ∧ ((k + 1 + 73 + 1) - 1 + 1 ≤ k + 1 + 73 + 1 + 1 - 1 ∧ SL (k + 1 + 73 + 1) - SL 1 + 60 ≤ SL (k + 1 + 73 + 1 + 1) - SL 1) ∧ (kd (k + 1 + 73 + 1 + 1) = (9, 60) ∧ Al rmX4_init (k + 1 + 73 + 1) (k + 1 + 73 + 1)) ∧ SL (k + 1 + 73 + 1 + 1) ≤ SL (k + 1 + 73 + 1) + 60 ∧ k + 1 + 73 + 1 + 1 = 1 + 447 ∧ SL (1 + 447) ≤ SL 1 + 5238 := by
  subst hk
  unfold Al
  decide +kernel
theorem i_X5E {K : Mem → Prop} (H : ∀ M', CI0 M' → K M') (f k : Nat) (hk : k = 372) (M : Mem) (J : JX M 4) : w_X5_init_L25 1 K (f + 1) k M 1 (nI 4) := by
  obtain ⟨j1, j2, j3, j4⟩ := J
  obtain ⟨a1, a2, a3, a4, a5, a6, a7, a8, a9, a10⟩ := x5_endk k hk
  have C : Car (k + 1) := by unfold Car; omega
  refine ⟨⟨by omega, by decide⟩, m_rR j2 ⟨⟨by omega, by decide, by decide⟩, ?_⟩⟩
  rw [k76s]
  refine cT (Int32.le_refl _) ⟨a1, m_eq (m_eq ⟨a2, a3, Nat.succ_ne_zero _, ?_⟩)⟩
  refine i_X0 (c := k + 1) (A := zr M (k + 1)) C (fun M17 x => ?_)
  refine ⟨⟨by omega, by decide⟩, m_eq ⟨a4, m_eq (m_eq ⟨a5, a6, Nat.succ_ne_zero _, Nat.succ_ne_zero _, a7, m_eq ⟨⟨by omega, a4.1⟩, m_eq (m_eq ⟨rfl, a8, ⟨by omega, by decide⟩, m_eq (m_eq (m_eq ⟨a9, a10, H _ ?_⟩))⟩)⟩⟩)⟩⟩
  subst hk
  have x : C0 (zr M 373) M17 373 := x
  have EQ := x.1.1
  have cr := c0_cr car373 x
  obtain ⟨F, hF⟩ : ∃ F, F = sI (sI (sR (sI (sR (zr (zr (sR M17 1 2 373) 447) 448) 447 0 448) 447 1 0) 1 3 447) 1 4 0) 1 5 0 := ⟨_, rfl⟩
  have goal : CI0 F := by
    have sm : ∀ r, r ≠ 1 → r ≠ 447 → r ≠ 448 → Same M17 F r := by
      intro r h1 h2 h3
      rw [hF]
      exact (sR_same h1).trans ((zr_same h2).trans ((zr_same h3).trans ((sR_same h2).trans ((sI_same h2).trans ((sR_same h1).trans ((sI_same h1).trans (sI_same h1)))))))
    have sA : ∀ r, r < 373 → Same M M17 r := fun r hr => (zr_same (by omega)).trans (EQ r hr)
    have sF : ∀ r, r < 373 → r ≠ 1 → Same M F r := fun r hr h1 => (sA r hr).trans (sm r h1 (by omega) (by omega))
    have c2 : CRs F 2 s0 := cr0_fr car2 (fun r g1 g2 => sF r (by omega) (by omega)) j3
    have cq : ∀ j, j < 4 → CRs F (q0 j) s0 := fun j hj => cr0_fr (q0_car j (by omega)) (fun r g1 g2 => sF r (by unfold q0 at g2; omega) (by unfold q0 at g1; omega)) (j4 j hj).2
    have c3 : CRs F 373 s0 := cr0_fr car373 (fun r g1 g2 => sm r (by omega) (by omega) (by omega)) cr
    refine ⟨⟨?_, ?_, ?_, ?_, ?_⟩, fun c C => ?_, ⟨fun i hi => ⟨?_, q0_car i (by omega), by unfold q0; omega, by unfold q0; omega⟩, fun i j _ _ e => by unfold q0 at e; omega⟩, ⟨c2, s0_wf⟩, ⟨by decide, ?_, fun i hi => by omega⟩, ⟨?_, fun e => by cases e⟩, ⟨by decide, ?_, fun j hj => ⟨show 0 < 65536 by decide, ?_⟩⟩⟩
    · have : gR F 1 0 = gR M17 1 0 := by rw [hF]; rfl
      rw [this, (sA 1 (by decide) 0).2.2.2]; exact j1
    · have : gR F 1 1 = gR M17 1 1 := by rw [hF]; rfl
      rw [this, (sA 1 (by decide) 1).2.2.2]; exact j2
    · rw [hF]; rfl
    · rw [hF]; rfl
    · rw [hF]; rfl
    · rcases C with e | e | e | e | e | e <;> subst e
      · exact c2.1
      · exact (cq 0 (by decide)).1
      · exact (cq 1 (by decide)).1
      · exact (cq 2 (by decide)).1
      · exact (cq 3 (by decide)).1
      · exact c3.1
    · rw [(sF 76 (by decide) (by decide) i).2.2.2]; exact (j4 i hi).1
    · rw [hF]; rfl
    · rw [hF]; rfl
    · rw [hF]; rfl
    · rw [hF]; rfl
  rw [hF] at goal
  exact goal
theorem i_X5L {K : Mem → Prop} (H : ∀ M', CI0 M' → K M') : ∀ (f i : Nat) (M : Mem), i ≤ 4 → 4 - i < f → JX M i → w_X5_init_L25 1 K f (76 + 74 * i) M 1 (nI i) := by
  refine lpU (fun f i M => w_X5_init_L25 1 K f (76 + 74 * i) M 1 (nI i)) (fun i M => JX M i) 4 ?_ ?_
  · intro f M J
    exact i_X5E H f _ rfl M J
  · intro f i M hi ⟨j1, j2, j3, j4⟩ ih
    obtain ⟨a1, a2, a3⟩ := x5_al i (by omega)
    have C : Car (76 + 74 * i + 1) := by unfold Car; omega
    refine ⟨⟨by omega, by decide⟩, m_rR j2 ⟨⟨by omega, by decide, by decide⟩, ?_⟩⟩
    rw [k76s]
    refine cF (nI_ge hi (by decide)) (m_rR j2 ⟨a1, m_eq (m_eq ⟨a2, a3, by omega, ?_⟩)⟩)
    refine i_X0 (c := 76 + 74 * i + 1) (A := zr M (76 + 74 * i + 1)) C (fun M2 x => ?_)
    have EQ := x.1.1
    have cr := c0_cr C x
    refine ⟨⟨by omega, by rw [k76s]; decide, by rw [k76s]; exact vp_in_nI hi (by decide), by omega, by rw [a1.1, k76s]; decide⟩, m_eq (m_eq ?_)⟩
    rw [nI_clamp (by omega), nI_1]
    have sA : ∀ r, r < 76 + 74 * i + 1 → r ≠ 76 → Same M (sR M2 76 i (76 + 74 * i + 1)) r := fun r hr h6 => (zr_same (by omega)).trans ((EQ r hr).trans (sR_same h6))
    have g76 : ∀ j, j ≠ i → gR (sR M2 76 i (76 + 74 * i + 1)) 76 j = gR M 76 j := fun j hj => (gR_ne (Or.inr hj)).trans (((zr_same (M := M) (r := 76 + 74 * i + 1) (a := 76) (by omega)).trans (EQ 76 (by omega))) j).2.2.2
    refine ih _ ⟨?_, ?_, cr0_fr car2 (fun r g1 g2 => sA r (by omega) (by omega)) j3, fun j hj => ?_⟩
    · rw [(sA 1 (by omega) (by decide) 0).2.2.2]; exact j1
    · rw [(sA 1 (by omega) (by decide) 1).2.2.2]; exact j2
    · by_cases e : j = i
      · subst e
        have eq : q0 j = 76 + 74 * j + 1 := by unfold q0; omega
        rw [eq]
        refine ⟨gR_eq, cr0_fr C (fun r g1 g2 => sR_same (by omega)) cr⟩
      · obtain ⟨y1, y2⟩ := j4 j (by omega)
        exact ⟨(g76 j e).trans y1, cr0_fr (q0_car j (by omega)) (fun r g1 g2 => sA r (by unfold q0 at g2; omega) (by unfold q0 at g1; omega)) y2⟩
theorem x5_b : (kd (1 + 1) = (0, 0) ∧ Al rmX5_init 1 1) ∧ (1 + 1 - 1 + 73 ≤ 447 ∧ SL (1 + 1) - SL 1 + 852 ≤ 5238) ∧ (1 + 1 - 1 + 73 ≤ 1 + 1 + 73 - 1 ∧ SL (1 + 1) - SL 1 + 852 ≤ SL (1 + 1 + 73) - SL 1) ∧ Al rmX5_init 1 75 := by
  unfold Al
  decide +kernel
theorem i_X5 {K : Mem → Prop} (H : ∀ M', CI0 M' → K M') : w_X5_init 1 A 1 K := by
  obtain ⟨a1, a2, a3, a4⟩ := x5_b
  refine ⟨by decide, a1, m_eq (m_eq ⟨a2, a3, by decide, ?_⟩)⟩
  refine i_X0 (c := 2) (A := zr A 2) car2 (fun M5 x => ?_)
  have cr := c0_cr car2 x
  refine ⟨⟨by decide, by decide⟩, m_eq ⟨⟨k76s, a4⟩, m_eq ⟨⟨by decide, by decide⟩, m_eq ?_⟩⟩⟩
  refine i_X5L H 4000 0 _ (by decide) (by decide) ⟨?_, ?_, ?_, fun j hj => by omega⟩
  · show gR (sR (zr (sR M5 1 0 2) 76) 1 1 76) 1 0 = 2
    rw [gR_ne (Or.inr (by decide)), gR_zr (by decide), gR_eq]
  · exact gR_eq
  · exact cr0_fr car2 (fun r g1 g2 => (sR_same (by omega)).trans ((zr_same (by omega)).trans (sR_same (by omega)))) cr

