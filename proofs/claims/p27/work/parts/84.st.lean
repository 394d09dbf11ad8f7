/-! from the entry: what the tables say (KK), the cells that are none yet (Rep), then the law -/
theorem bv_any {s : State} {b : Nat} (hts : ∀ w ∈ lw_tbl, w.before #[Value.ref b] s = true) : ∀ w ∈ lwG, ∀ a : Array Value, w.before a s = true := fun w hw a => word_at (s := s) (U := s) (args := #[Value.ref b]) (State.WarmedH.refl s) (lawGood w hw) (hts w (List.mem_filter.mp hw).1)
theorem tin_X0 : Cond.instantiable RX0 10 ∈ lw_tbl := (tb1 _ (List.mem_of_getElem? (i := 20) (by decide +kernel)))
theorem tin_X1 : Cond.instantiable RX1 14 ∈ lw_tbl := (tb1 _ (List.mem_of_getElem? (i := 63) (by decide +kernel)))
theorem tin_X2 : Cond.instantiable RX2 11 ∈ lw_tbl := (tb1 _ (List.mem_of_getElem? (i := 143) (by decide +kernel)))
theorem tin_X3 : Cond.instantiable RX3 4 ∈ lw_tbl := (tb1 _ (List.mem_of_getElem? (i := 26) (by decide +kernel)))
theorem tin_X4 : Cond.instantiable RX4 2 ∈ lw_tbl := (tb2 _ (List.mem_of_getElem? (i := 8) (by decide +kernel)))
theorem tin_X5 : Cond.instantiable RX5 6 ∈ lw_tbl := (tb1 _ (List.mem_of_getElem? (i := 12) (by decide +kernel)))
theorem tar_int : Cond.arrayClass .int ∈ lw_tbl := (tb3 _ (List.mem_of_getElem? (i := 144) (by decide +kernel)))
theorem tar_char : Cond.arrayClass .char ∈ lw_tbl := (tb2 _ (List.mem_of_getElem? (i := 21) (by decide +kernel)))
theorem tao_X0 : Cond.arrayOver (.object RX0) ∈ lw_tbl := (tb2 _ (List.mem_of_getElem? (i := 6) (by decide +kernel)))
theorem tao_X1 : Cond.arrayOver (.object RX1) ∈ lw_tbl := (tb1 _ (List.mem_of_getElem? (i := 62) (by decide +kernel)))
theorem tao_X2 : Cond.arrayOver (.object RX2) ∈ lw_tbl := (tb1 _ (List.mem_of_getElem? (i := 142) (by decide +kernel)))
theorem tne_1 : Cond.methodLinkNest RX3 19 yX5_numberOf RX5 ∈ lw_tbl := (tb1 _ (List.mem_of_getElem? (i := 34) (by decide +kernel)))
theorem tne_2 : Cond.methodLinkNest RX0 200 yX5_decayed RX5 ∈ lw_tbl := (tb2 _ (List.mem_of_getElem? (i := 88) (by decide +kernel)))
theorem tsr_120 : Cond.stringRef RX5 120 "step" ∈ lw_tbl := (tb2 _ (List.mem_of_getElem? (i := 147) (by decide +kernel)))
theorem tsr_126 : Cond.stringRef RX5 126 "turn" ∈ lw_tbl := (tb3 _ (List.mem_of_getElem? (i := 19) (by decide +kernel)))
theorem tsr_131 : Cond.stringRef RX5 131 "stop" ∈ lw_tbl := (tb3 _ (List.mem_of_getElem? (i := 20) (by decide +kernel)))
theorem tsr_136 : Cond.stringRef RX5 136 "clear" ∈ lw_tbl := (tb3 _ (List.mem_of_getElem? (i := 30) (by decide +kernel)))
theorem tls_c : Cond.laysStatic "java/lang/String" "COMPACT_STRINGS" "Z" ∈ lw_tbl := (tb2 _ (List.mem_of_getElem? (i := 161) (by decide +kernel)))
theorem tls_f : Cond.laysStatic "jdk/internal/util/Preconditions" "SIOOBE_FORMATTER" "Ljava/util/function/BiFunction;" ∈ lw_tbl := (tb2 _ (List.mem_of_getElem? (i := 177) (by decide +kernel)))
theorem tini_s : Cond.initialized "java/lang/String" ∈ lw_tbl := (tb1 _ (List.mem_of_getElem? (i := 7) (by decide +kernel)))
theorem tini_p : Cond.initialized "jdk/internal/util/Preconditions" ∈ lw_tbl := (tb1 _ (List.mem_of_getElem? (i := 9) (by decide +kernel)))
def sK (i : Nat) : Nat := if i = 0 then 120 else if i = 1 then 126 else if i = 2 then 131 else 136
theorem i4 {P : Nat → Prop} (h0 : P 0) (h1 : P 1) (h2 : P 2) (h3 : P 3) : ∀ i, i < 4 → P i := fun i hi => by
  rcases (show i = 0 ∨ i = 1 ∨ i = 2 ∨ i = 3 by omega) with rfl | rfl | rfl | rfl <;> assumption
set_option maxHeartbeats 2000000 in
set_option maxRecDepth 20000 in
theorem KS_start {s : State} {b : Nat} (hts : ∀ w ∈ lw_tbl, w.before #[Value.ref b] s = true) (hgv : (Jvm.Cond.and given_1 narrow_1).before #[Value.ref b] s = true) {A : Nat → Prop} (hA : ∀ a : Nat, a < s.heap.size → ¬ A a) :
    ∃ adK adV : Nat → Nat, vk_S 4 lenS bytS adK adV A s s.heap ∧ (vk_R RX5 120 "step" (adK 0) s ∧ vk_R RX5 126 "turn" (adK 1) s ∧ vk_R RX5 131 "stop" (adK 2) s ∧ vk_R RX5 136 "clear" (adK 3) s) ∧ va_Z "java/lang/String" "COMPACT_STRINGS" "Z" (.int 1) A s s.heap ∧ va_Zq "jdk/internal/util/Preconditions" "SIOOBE_FORMATTER" "Ljava/util/function/BiFunction;" A s s.heap := by
  have hs := flat_of_before _ hgv
  obtain ⟨adK, adV, h1, h2⟩ := vk_Sof (args := #[Value.ref b]) (s := s) (N := 4) (tm := fun i => Term.string RX5 (sK i)) (len := lenS) (byt := bytS) (A := A)
    (i4 (by decide) (by decide) (by decide) (by decide))
    (i4 (hs _ (by decide +kernel)) (hs _ (by decide +kernel)) (hs _ (by decide +kernel)) (hs _ (by decide +kernel)))
    (i4 (hs _ (by decide +kernel)) (hs _ (by decide +kernel)) (hs _ (by decide +kernel)) (hs _ (by decide +kernel)))
    (i4 (hs _ (by decide +kernel)) (hs _ (by decide +kernel)) (hs _ (by decide +kernel)) (hs _ (by decide +kernel)))
    (i4 (hs _ (by decide +kernel)) (hs _ (by decide +kernel)) (hs _ (by decide +kernel)) (hs _ (by decide +kernel)))
    (i4 (i4 (hs _ (by decide +kernel)) (hs _ (by decide +kernel)) (hs _ (by decide +kernel)) (hs _ (by decide +kernel))) (i4 (hs _ (by decide +kernel)) (hs _ (by decide +kernel)) (hs _ (by decide +kernel)) (hs _ (by decide +kernel))) (i4 (hs _ (by decide +kernel)) (hs _ (by decide +kernel)) (hs _ (by decide +kernel)) (hs _ (by decide +kernel)))
      (fun j hj => by
        rcases (show j = 0 ∨ j = 1 ∨ j = 2 ∨ j = 3 ∨ j = 4 by have : lenS.getD 3 0 = 5 := rfl; omega) with rfl | rfl | rfl | rfl | rfl
        · exact hs _ (by decide +kernel)
        · exact hs _ (by decide +kernel)
        · exact hs _ (by decide +kernel)
        · exact hs _ (by decide +kernel)
        · exact hs _ (by decide +kernel)))
    (fun i j hi hj hij => by
      have key : ∀ i j : Nat, i < j → j < 4 → (Cond.not (Cond.eq (Term.string RX5 (sK i)) (Term.string RX5 (sK j)))).before #[Value.ref b] s = true := by
        intro i j h h4
        rcases (show (i = 0 ∧ j = 1) ∨ (i = 0 ∧ j = 2) ∨ (i = 0 ∧ j = 3) ∨ (i = 1 ∧ j = 2) ∨ (i = 1 ∧ j = 3) ∨ (i = 2 ∧ j = 3) by omega) with ⟨rfl, rfl⟩ | ⟨rfl, rfl⟩ | ⟨rfl, rfl⟩ | ⟨rfl, rfl⟩ | ⟨rfl, rfl⟩ | ⟨rfl, rfl⟩
        · exact hs _ (by decide +kernel)
        · exact hs _ (by decide +kernel)
        · exact hs _ (by decide +kernel)
        · exact hs _ (by decide +kernel)
        · exact hs _ (by decide +kernel)
        · exact hs _ (by decide +kernel)
      rcases Nat.lt_or_gt_of_ne hij with h | h
      · exact Or.inl (key i j h hj)
      · exact Or.inr (key j i h hi)) hA
  have ev : ∀ (i : Nat), i < 4 → (Term.string RX5 (sK i)).eval #[] s none [] s = some (.ref (adK i)) := fun i hi => by
    rw [← h2 i hi]
    exact Term.string_eval_of_vm (args := #[]) rfl
  have rf : ∀ {k : Nat} {tx : String}, Cond.stringRef RX5 k tx ∈ lw_tbl → (Cond.stringRef RX5 k tx).before #[] s = true := fun h => by
    have h3 := hts _ h
    first
      | exact va_tabs rfl rfl h3
      | (simp only [Cond.before, Cond.holds, Cond.value] at h3 ⊢; exact h3)
  refine ⟨adK, adV, h1, ⟨⟨rf tsr_120, ev 0 (by decide)⟩, ⟨rf tsr_126, ev 1 (by decide)⟩, ⟨rf tsr_131, ev 2 (by decide)⟩, ⟨rf tsr_136, ev 3 (by decide)⟩⟩, ?_, ?_⟩
  · exact va_Zof (hts _ tls_c) (hts _ tini_s) (va_eqt (hs _ (by decide +kernel))) hA
  · exact va_Zqof (hts _ tls_f) (hts _ tini_p) (hs _ (by decide +kernel)) hA
theorem arr_prim {s : State} {b : Nat} (hts : ∀ w ∈ lw_tbl, w.before #[Value.ref b] s = true) {ty : FieldType} (h : Cond.arrayClass ty ∈ lw_tbl) : ∃ cA : ClassId, ArrOfT s cA ty ∧ s.vm.findClass ("[" ++ ty.toString) = some cA := by
  obtain ⟨cA, kA, comp, h1, h2, h3⟩ := Cond.arrayClass_spec (args := #[Value.ref b]) (first := s) (s := s) (o := none) (idx := []) (hts _ h)
  exact ⟨cA, fun n z => ⟨(fun k h => by cases h), kA, h2, comp, h3⟩, h1⟩
theorem arr_obj {s : State} {b : Nat} (hts : ∀ w ∈ lw_tbl, w.before #[Value.ref b] s = true) {C : String} (h : Cond.arrayOver (.object C) ∈ lw_tbl) : (∃ cA : ClassId, ArrOfT s cA (.object C) ∧ va_RA s cA (.object C)) ∧ va_AO C s := by
  obtain ⟨comp, cA, kA, hcomp, hidx, hkA, hkindA, hnameA⟩ := Cond.arrayOver_spec (hts _ h)
  exact ⟨⟨cA, fun n z => ⟨(fun k h => by cases h), kA, hkA, comp, hkindA⟩, kA, comp, hkA, hkindA, hcomp, hnameA⟩, va_AO.of (hts _ h)⟩
set_option maxHeartbeats 2000000 in
theorem KK_start {s : State} {b L : Nat} {xs : Nat → Int32} (hL : L < 2 ^ 31) (hX : va_X b L xs s s.heap) (hbl : b < s.heap.size) (hts : ∀ w ∈ lw_tbl, w.before #[Value.ref b] s = true) (hgv : (Jvm.Cond.and given_1 narrow_1).before #[Value.ref b] s = true) : ∃ E : Gl, s.heap.size = E.2.2.1 + 1 ∧ E.2.2.2.1 = s.heap ∧ xB E = b ∧ KK E s := by
  obtain ⟨c0, j0, k0⟩ := u_known (C := RX0) (T := TX0) (N := 10) (n := 10) hts inX0 (hts _ tin_X0)
  obtain ⟨c1, j1, k1⟩ := u_known (C := RX1) (T := TX1) (N := 14) (n := 14) hts inX1 (hts _ tin_X1)
  obtain ⟨c2, j2, k2⟩ := u_known (C := RX2) (T := TX2) (N := 11) (n := 11) hts inX2 (hts _ tin_X2)
  obtain ⟨c3, j3, k3⟩ := u_known (C := RX3) (T := TX3) (N := 4) (n := 4) hts inX3 (hts _ tin_X3)
  obtain ⟨c4, j4, k4⟩ := u_known (C := RX4) (T := TX4) (N := 2) (n := 2) hts inX4 (hts _ tin_X4)
  obtain ⟨c5, j5, k5⟩ := u_known (C := RX5) (T := TX5) (N := 6) (n := 6) hts inX5 (hts _ tin_X5)
  obtain ⟨a7, f7, g7⟩ := arr_prim hts tar_int
  obtain ⟨a9, f9, g9⟩ := arr_prim hts tar_char
  obtain ⟨⟨a10, f10, g10⟩, o1⟩ := arr_obj hts tao_X1
  obtain ⟨⟨a11, f11, g11⟩, o2⟩ := arr_obj hts tao_X2
  obtain ⟨⟨a12, f12, g12⟩, o0⟩ := arr_obj hts tao_X0
  obtain ⟨adK, adV, s1, s2, s3, s4⟩ := KS_start hts hgv (A := fun q => s.heap.size - 1 < q) (fun a h => by omega)
  let dC : Nat → ClassId := fun k => if k = 0 then c0 else if k = 1 then c1 else if k = 2 then c2 else if k = 3 then c3 else if k = 4 then c4 else c5
  let dI : Nat → Nat → Nat := fun k => if k = 0 then j0 else if k = 1 then j1 else if k = 2 then j2 else if k = 3 then j3 else if k = 4 then j4 else j5
  let aC : Nat → ClassId := fun k => if k = 7 then a7 else if k = 8 then a7 else if k = 9 then a9 else if k = 10 then a10 else if k = 11 then a11 else a12
  refine ⟨((dC, dI), aC, s.heap.size - 1, s.heap, adK, adV, b, L, xs), by show s.heap.size = s.heap.size - 1 + 1; omega, rfl, rfl, ⟨fun k q hq => ?_, fun k q hq => ?_⟩, bv_any hts, va_Nw.of rfl (hts _ tne_1), va_Nw.of rfl (hts _ tne_2), o0, o1, o2, s1, s2, s3, s4, hX, (by show b ≤ s.heap.size - 1; omega), (by show s.heap.size = s.heap.size - 1 + 1; omega), hL⟩
  · match k, hq with
    | 0, hq => cases hq; exact k0
    | 1, hq => cases hq; exact k1
    | 2, hq => cases hq; exact k2
    | 3, hq => cases hq; exact k3
    | 4, hq => cases hq; exact k4
    | 5, hq => cases hq; exact k5
    | 6, hq => cases hq; exact k5
    | k + 7, hq => simp [vwCl] at hq
  · match k, hq with
    | 0, hq => cases hq; exact ⟨f7, g7⟩
    | 1, hq => cases hq; exact ⟨f7, g7⟩
    | 2, hq => cases hq; exact ⟨f9, g9⟩
    | 3, hq => cases hq; exact ⟨f10, g10⟩
    | 4, hq => cases hq; exact ⟨f11, g11⟩
    | 5, hq => cases hq; exact ⟨f12, g12⟩
    | k + 6, hq => simp [arrTys] at hq

