/-! THE PURE PART, 1: memories, numbers, the reference's cells -/
theorem gR_sI (M : Mem) (r k a j : Nat) (v : Int32) : gR (sI M r k v) a j = gR M a j := rfl
theorem gR_sD (M : Mem) (r k a j : Nat) (v : UInt64) : gR (sD M r k v) a j = gR M a j := rfl
theorem gR_sL (M : Mem) (r k a j : Nat) (v : Int64) : gR (sL M r k v) a j = gR M a j := rfl
theorem gD_sI (M : Mem) (r k a j : Nat) (v : Int32) : gD (sI M r k v) a j = gD M a j := rfl
theorem gD_sL (M : Mem) (r k a j : Nat) (v : Int64) : gD (sL M r k v) a j = gD M a j := rfl
theorem gD_sR (M : Mem) (r k a j : Nat) (v : Nat) : gD (sR M r k v) a j = gD M a j := rfl
theorem gI_sD (M : Mem) (r k a j : Nat) (v : UInt64) : gI (sD M r k v) a j = gI M a j := rfl
theorem gI_sL (M : Mem) (r k a j : Nat) (v : Int64) : gI (sL M r k v) a j = gI M a j := rfl
theorem gI_sR (M : Mem) (r k a j : Nat) (v : Nat) : gI (sR M r k v) a j = gI M a j := rfl
theorem gL_sI (M : Mem) (r k a j : Nat) (v : Int32) : gL (sI M r k v) a j = gL M a j := rfl
theorem gL_sD (M : Mem) (r k a j : Nat) (v : UInt64) : gL (sD M r k v) a j = gL M a j := rfl
theorem gL_sR (M : Mem) (r k a j : Nat) (v : Nat) : gL (sR M r k v) a j = gL M a j := rfl
theorem gI_sI (M : Mem) (r k a j : Nat) (v : Int32) : gI (sI M r k v) a j = if a = r ∧ j = k then v else gI M a j := rfl
theorem gD_sD (M : Mem) (r k a j : Nat) (v : UInt64) : gD (sD M r k v) a j = if a = r ∧ j = k then v else gD M a j := rfl
theorem gL_sL (M : Mem) (r k a j : Nat) (v : Int64) : gL (sL M r k v) a j = if a = r ∧ j = k then v else gL M a j := rfl
theorem gR_sR (M : Mem) (r k a j : Nat) (v : Nat) : gR (sR M r k v) a j = if a = r ∧ j = k then v else gR M a j := rfl
/-- a function changed at a place -/
def up {α : Type} (f : Nat → α) (j : Nat) (v : α) : Nat → α := fun i => if i = j then v else f i
theorem up_eq {α : Type} (f : Nat → α) (j : Nat) (v : α) : up f j v j = v := if_pos rfl
theorem up_ne {α : Type} {f : Nat → α} {j i : Nat} {v : α} (h : i ≠ j) : up f j v i = f i := if_neg h
/-- the reference's object and rows, where they are -/
def FX6 (M : Mem) : Prop := gR M 449 0 = 450 ∧ gR M 449 1 = 451 ∧ gR M 449 2 = 452 ∧ gR M 449 3 = 453 ∧ gR M 449 4 = 454 ∧ gR M 449 5 = 455 ∧ gR M 449 9 = 456 ∧ gR M 449 12 = 457
theorem k449 : 449 ≤ 457 ∧ kd 449 = (6, 0) := by decide
/-- a row of ints of the reference holds numbers; a row of doubles -/
def RI (M : Mem) (r o L : Nat) (f : Nat → Nat) : Prop := ∀ j, j < L → gI M r (o + j) = nI (f j)
def RD (M : Mem) (r o L : Nat) (f : Nat → UInt64) : Prop := ∀ j, j < L → gD M r (o + j) = f j
/-- the present state of the reference: its numbers and doubles -/
def Rf (M : Mem) (N : Nat → Nat) (D : Nat → UInt64) : Prop := FX6 M ∧ (∀ j, j < 632 → gI M 450 j = nI (N j)) ∧ ∀ j, j < 159 → gD M 453 j = D j
/-- only the reference's present rows have changed -/
def On (M M2 : Mem) : Prop := (∀ r k, r ≠ 450 → gI M2 r k = gI M r k) ∧ (∀ r k, r ≠ 453 → gD M2 r k = gD M r k) ∧ M2.2.2 = M.2.2
theorem On.rf (M : Mem) : On M M := ⟨fun _ _ _ => rfl, fun _ _ _ => rfl, rfl⟩
theorem On.trans {A B C : Mem} (h : On A B) (g : On B C) : On A C := ⟨fun r k q => (g.1 r k q).trans (h.1 r k q), fun r k q => (g.2.1 r k q).trans (h.2.1 r k q), g.2.2.trans h.2.2⟩
theorem On.gR {A B : Mem} (h : On A B) (r k : Nat) : gR B r k = gR A r k := congrFun (congrFun (congrArg Prod.snd h.2.2) r) k
theorem On.gL {A B : Mem} (h : On A B) (r k : Nat) : gL B r k = gL A r k := congrFun (congrFun (congrArg Prod.fst h.2.2) r) k
theorem On.fx {A B : Mem} (h : On A B) (F : FX6 A) : FX6 B := by
  unfold FX6 at F ⊢
  simp only [h.gR]
  exact F
theorem On.sI (M : Mem) (k : Nat) (v : Int32) : On M (sI M 450 k v) := ⟨fun r j q => by rw [gI_sI, if_neg (fun z => q z.1)], fun _ _ _ => rfl, rfl⟩
theorem On.sD (M : Mem) (k : Nat) (v : UInt64) : On M (sD M 453 k v) := ⟨fun _ _ _ => rfl, fun r j q => by rw [gD_sD, if_neg (fun z => q z.1)], rfl⟩
theorem Rf.sI {M : Mem} {N : Nat → Nat} {D : Nat → UInt64} (h : Rf M N D) (k v : Nat) : Rf (sI M 450 k (nI v)) (up N k v) D := by
  refine ⟨(On.sI M k _).fx h.1, fun j hj => ?_, fun j hj => h.2.2 j hj⟩
  rw [gI_sI]
  by_cases e : j = k
  · rw [if_pos ⟨rfl, e⟩, e, up_eq]
  · rw [if_neg (fun z => e z.2), up_ne e]; exact h.2.1 j hj
theorem Rf.sD {M : Mem} {N : Nat → Nat} {D : Nat → UInt64} (h : Rf M N D) (k : Nat) (v : UInt64) : Rf (sD M 453 k v) N (up D k v) := by
  refine ⟨(On.sD M k _).fx h.1, fun j hj => h.2.1 j hj, fun j hj => ?_⟩
  rw [gD_sD]
  by_cases e : j = k
  · rw [if_pos ⟨rfl, e⟩, e, up_eq]
  · rw [if_neg (fun z => e z.2), up_ne e]; exact h.2.2 j hj
theorem ix2 {a b j : Nat} {x : Int32} (h : x = nI b) (hj : a + b = j) : nI a + x = nI j := by rw [h, nI_add, hj]
theorem ixM (a b : Nat) : nI a * nI b = nI (a * b) := pk_mul a b
/-- reading and writing the row of ints, of doubles -/
theorem rdI {M : Mem} {P : Int32 → Prop} {i : Int32} (F : FX6 M) (j : Nat) (hi : i = nI j) (hj : j < 632) (h : P (gI M 450 j)) : ∀ r, r = gR M 449 0 → ((r ≤ 457 ∧ (kd r).1 = 7 ∧ vp_in i (kd r).2) ∧ (∀ x, x = gI M r (Int32.toNatClampNeg i) → P x)) := by
  intro r hr
  rw [F.1] at hr
  subst hr
  subst hi
  refine ⟨⟨by decide, by decide, vp_in_nI hj (by decide)⟩, fun x hx => ?_⟩
  rw [nI_clamp (by omega)] at hx
  rw [hx]; exact h
theorem rdD {M : Mem} {P : UInt64 → Prop} {i : Int32} (F : FX6 M) (j : Nat) (hi : i = nI j) (hj : j < 159) (h : P (gD M 453 j)) : ∀ r, r = gR M 449 3 → ((r ≤ 457 ∧ (kd r).1 = 8 ∧ vp_in i (kd r).2) ∧ (∀ x, x = gD M r (Int32.toNatClampNeg i) → P x)) := by
  intro r hr
  rw [F.2.2.2.1] at hr
  subst hr
  subst hi
  refine ⟨⟨by decide, by decide, vp_in_nI hj (by decide)⟩, fun x hx => ?_⟩
  rw [nI_clamp (by omega)] at hx
  rw [hx]; exact h
theorem wrI {M : Mem} {P : Mem → Prop} {i v : Int32} (F : FX6 M) (j : Nat) (hi : i = nI j) (hj : j < 632) (h : P (sI M 450 j v)) : ∀ r, r = gR M 449 0 → ((r ≤ 457 ∧ (kd r).1 = 7 ∧ vp_in i (kd r).2) ∧ (∀ M2, M2 = sI M r (Int32.toNatClampNeg i) v → P M2)) := by
  intro r hr
  rw [F.1] at hr
  subst hr
  subst hi
  refine ⟨⟨by decide, by decide, vp_in_nI hj (by decide)⟩, fun x hx => ?_⟩
  rw [nI_clamp (by omega)] at hx
  rw [hx]; exact h
/-- reading, then writing at the same place of the same row -/
theorem inI {M : Mem} {P : Mem → Prop} {g : Int32 → Int32} {i : Int32} (F : FX6 M) (j : Nat) (hi : i = nI j) (hj : j < 632) (h : P (sI M 450 j (g (gI M 450 j)))) : ∀ r, r = gR M 449 0 → ((r ≤ 457 ∧ (kd r).1 = 7 ∧ vp_in i (kd r).2) ∧ (∀ x, x = gI M r (Int32.toNatClampNeg i) → ((r ≤ 457 ∧ (kd r).1 = 7 ∧ vp_in i (kd r).2) ∧ (∀ M2, M2 = sI M r (Int32.toNatClampNeg i) (g x) → P M2)))) := by
  intro r hr
  rw [F.1] at hr
  subst hr
  subst hi
  refine ⟨⟨by decide, by decide, vp_in_nI hj (by decide)⟩, fun x hx => ⟨⟨by decide, by decide, vp_in_nI hj (by decide)⟩, fun M2 hM => ?_⟩⟩
  rw [nI_clamp (by omega)] at hx hM
  rw [hM, hx]; exact h
theorem s_inT {n : Nat} {M : Mem} {a b c : Int32} {K : Int32 → Mem → Prop} (h1 : ¬ a < b) (h2 : ¬ c < a) (h : K 1 M) : w_X6_in n M a b c K := ⟨fun z => absurd z h1, fun _ => ⟨fun z => absurd z h2, fun _ => h⟩⟩
theorem s_inF {n : Nat} {M : Mem} {a b c : Int32} {K : Int32 → Mem → Prop} (h1 : a < b ∨ c < a) (h : K 0 M) : w_X6_in n M a b c K := ⟨fun _ => h, fun z => ⟨fun _ => h, fun z2 => absurd h1 (fun q => q.elim z z2)⟩⟩
theorem s_ofHead {M : Mem} {K : Int32 → Mem → Prop} (F : FX6 M) {h k : Nat} (hh : h < 8) (hk : k < 10) (H : K (gI M 450 (12 + 10 * h + k)) M) : w_X6_ofHead 457 M 449 (nI h) (nI k) K :=
  ⟨k449, rdI F (12 + 10 * h + k) (by show nI 12 + nI 10 * nI h + nI k = _; rw [ixM, nI_add, nI_add]) (by omega) H⟩
theorem s_ofPart {M : Mem} {K : Int32 → Mem → Prop} (F : FX6 M) {p k : Nat} (hp : p < 60) (hk : k < 8) (H : K (gI M 450 (92 + 8 * p + k)) M) : w_X6_ofPart 457 M 449 (nI p) (nI k) K :=
  ⟨k449, rdI F (92 + 8 * p + k) (by show nI 92 + nI 8 * nI p + nI k = _; rw [ixM, nI_add, nI_add]) (by omega) H⟩
theorem s_more {M : Mem} {K : Mem → Prop} (F : FX6 M) {h k : Nat} (hh : h < 8) (hk : k < 10) (H : K (sI M 450 (12 + 10 * h + k) (gI M 450 (12 + 10 * h + k) + 1))) : w_X6_more 457 M 449 (nI h) (nI k) K :=
  ⟨k449, inI (g := fun x => x + 1) F (12 + 10 * h + k) (by show nI 12 + nI 10 * nI h + nI k = _; rw [ixM, nI_add, nI_add]) (by omega) H⟩
theorem s_put {M : Mem} {K : Mem → Prop} (F : FX6 M) {p k : Nat} {v : Int32} (hp : p < 60) (hk : k < 8) (H : K (sI M 450 (92 + 8 * p + k) v)) : w_X6_put 457 M 449 (nI p) (nI k) v K :=
  ⟨k449, wrI F (92 + 8 * p + k) (by show nI 92 + nI 8 * nI p + nI k = _; rw [ixM, nI_add, nI_add]) (by omega) H⟩
theorem s_partOn {M : Mem} {K : Int32 → Mem → Prop} (F : FX6 M) {h : Nat} (hh : h < 8) (H : K (gI M 450 (12 + 10 * h + 3) - 1) M) : w_X6_partOn 457 M 449 (nI h) K := ⟨k449, s_ofHead F (k := 3) hh (by decide) H⟩
theorem s_gain {M : Mem} {K : UInt64 → Mem → Prop} (F : FX6 M) {h : Nat} (hh : h < 8) (H : K (gD M 453 (3 + 12 * h)) M) : w_X6_gain 457 M 449 (nI h) K :=
  ⟨k449, rdD F (3 + 12 * h) (by show nI 3 + nI 12 * nI h + nI 0 = _; rw [ixM, nI_add, nI_add]; rfl) (by omega) H⟩
theorem s_factor {M : Mem} {K : UInt64 → Mem → Prop} (F : FX6 M) {h : Nat} (hh : h < 8) (H : K (gD M 453 (4 + 12 * h)) M) : w_X6_factor 457 M 449 (nI h) K :=
  ⟨k449, rdD F (4 + 12 * h) (by show nI 3 + nI 12 * nI h + nI 1 = _; rw [ixM, nI_add, nI_add]; congr 1; omega) (by omega) H⟩
theorem s_traced {M : Mem} {K : UInt64 → Mem → Prop} (F : FX6 M) {h k : Nat} (hh : h < 8) (hk : k < 10) (H : K (gD M 453 (5 + 12 * h + k)) M) : w_X6_traced 457 M 449 (nI h) (nI k) K :=
  ⟨k449, rdD F (5 + 12 * h + k) (by show nI 3 + nI 12 * nI h + nI 2 + nI k = _; rw [ixM, nI_add, nI_add, nI_add]; congr 1; omega) (by omega) H⟩
