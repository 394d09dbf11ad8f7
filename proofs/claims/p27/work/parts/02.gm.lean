/-! THE LAYER: one memory of numbers (M), one numbering of cells (1..457), one judgement G; every instruction has a row g_..; what a method needs stands in a predicate w_.. (printed by a program), and its contract says: from w_.., any post. -/
abbrev Mem : Type := (Nat → Nat → Int32) × (Nat → Nat → UInt64) × (Nat → Nat → Int64) × (Nat → Nat → Nat)
def gI (M : Mem) (r k : Nat) : Int32 := M.1 r k
def gD (M : Mem) (r k : Nat) : UInt64 := M.2.1 r k
def gL (M : Mem) (r k : Nat) : Int64 := M.2.2.1 r k
def gR (M : Mem) (r k : Nat) : Nat := M.2.2.2 r k
def sI (M : Mem) (r k : Nat) (v : Int32) : Mem := (fun a j => if a = r ∧ j = k then v else M.1 a j, M.2.1, M.2.2.1, M.2.2.2)
def sD (M : Mem) (r k : Nat) (v : UInt64) : Mem := (M.1, fun a j => if a = r ∧ j = k then v else M.2.1 a j, M.2.2.1, M.2.2.2)
def sL (M : Mem) (r k : Nat) (v : Int64) : Mem := (M.1, M.2.1, fun a j => if a = r ∧ j = k then v else M.2.2.1 a j, M.2.2.2)
def sR (M : Mem) (r k : Nat) (v : Nat) : Mem := (M.1, M.2.1, M.2.2.1, fun a j => if a = r ∧ j = k then v else M.2.2.2 a j)
def zr (M : Mem) (r : Nat) : Mem := (fun a j => if a = r then 0 else M.1 a j, fun a j => if a = r then 0 else M.2.1 a j, fun a j => if a = r then 0 else M.2.2.1 a j, fun a j => if a = r then 0 else M.2.2.2 a j)
abbrev AV : Type := Value ⊕ Nat
abbrev iV (x : Int32) : AV := .inl (.int x)
abbrev lV (x : Int64) : AV := .inl (.long x)
abbrev dV (x : UInt64) : AV := .inl (.double x)
abbrev fV (x : UInt32) : AV := .inl (.float x)
abbrev rV (r : Nat) : AV := .inr r
def rf (b r : Nat) : Value := if r = 0 then .null else .ref (b + r)
def toV (b : Nat) : AV → Value
  | .inl v => v
  | .inr r => rf b r
def catA : AV → Nat
  | .inl v => v.category
  | .inr _ => 1
theorem rf_or (b r : Nat) : (r = 0 ∧ rf b r = .null) ∨ (r ≠ 0 ∧ rf b r = .ref (b + r)) := by
  by_cases h : r = 0
  · exact Or.inl ⟨h, if_pos h⟩
  · exact Or.inr ⟨h, if_neg h⟩
theorem rf_pos {b r : Nat} (h : r ≠ 0) : rf b r = .ref (b + r) := if_neg h
theorem rf_cat (b r : Nat) : (rf b r).category = 1 := by
  rcases rf_or b r with ⟨-, h⟩ | ⟨-, h⟩ <;> rw [h] <;> rfl
theorem toV_cat (b : Nat) (a : AV) : (toV b a).category = catA a := by
  cases a with
  | inl v => rfl
  | inr r => exact rf_cat b r
/-- what kind of cell a number is, and how long an array: 0 to 6 the objects of vwCl, 7 int[], 8 double[], 9 char[], 10 Head[], 11 Part[], 12 Carousel[], 99 none -/
def kCar (j : Nat) : Nat × Nat := if j = 0 then (0, 0) else if j ≤ 3 then (3, 0) else if j = 4 then (10, 8) else if j ≤ 12 then (1, 0) else if j = 13 then (11, 60) else (2, 0)
def kd (r : Nat) : Nat × Nat :=
  if r = 0 then (99, 0) else if r = 1 then (5, 0) else if r ≤ 75 then kCar (r - 2) else if r = 76 then (12, 4) else if r ≤ 446 then kCar ((r - 77) % 74)
  else if r = 447 then (4, 0) else if r = 448 then (9, 60) else if r % 2 = 1 then (7, 4) else (7, 6)
def fC (ci : Nat) : String := match ci with | 0 => RX0 | 1 => RX1 | 2 => RX2 | 3 => RX3 | 4 => RX4 | 5 => RX5 | _ => RX5
def fT (ci : Nat) : u_T := match ci with | 0 => TX0 | 1 => TX1 | 2 => TX2 | 3 => TX3 | 4 => TX4 | 5 => TX5 | _ => TX5
def fN (ci : Nat) : Nat := match ci with | 0 => 10 | 1 => 14 | 2 => 11 | 3 => 4 | 4 => 2 | 5 => 6 | _ => 6
def tyF (ci : Nat) : Nat → FieldType := match ci with | 0 => tyX0 | 1 => tyX1 | 2 => tyX2 | 3 => tyX3 | 4 => tyX4 | 5 => tyX5 | _ => tyX5
theorem cl_at {ci : Nat} (h : ci < 7) : vwCl[ci]? = some (fC ci, fT ci, fN ci) := by
  match ci, h with
  | 0, _ => rfl
  | 1, _ => rfl
  | 2, _ => rfl
  | 3, _ => rfl
  | 4, _ => rfl
  | 5, _ => rfl
  | 6, _ => rfl
theorem cl_ty {ci : Nat} (h : ci < 7) : ∀ k, k < fN ci → parseFieldDescriptor (fT ci k).2.2.1 = some (tyF ci k) := by
  match ci, h with
  | 0, _ => exact tyX0_ok
  | 1, _ => exact tyX1_ok
  | 2, _ => exact tyX2_ok
  | 3, _ => exact tyX3_ok
  | 4, _ => exact tyX4_ok
  | 5, _ => exact tyX5_ok
  | 6, _ => exact tyX5_ok
theorem cl_nm {ci : Nat} (h : ci < 7) : ∀ a, a < fN ci → ∀ b, b < fN ci → a ≠ b → (fT ci a).2.1 ≠ (fT ci b).2.1 := by
  match ci, h with
  | 0, _ => exact nmX0
  | 1, _ => exact nmX1
  | 2, _ => exact nmX2
  | 3, _ => exact nmX3
  | 4, _ => exact nmX4
  | 5, _ => exact nmX5
  | 6, _ => exact nmX5
theorem cl_in {ci : Nat} (h : ci < 7) : ∀ w ∈ u_ws (fC ci) (fT ci) (fN ci), w ∈ lwG := by
  match ci, h with
  | 0, _ => exact inlX0
  | 1, _ => exact inlX1
  | 2, _ => exact inlX2
  | 3, _ => exact inlX3
  | 4, _ => exact inlX4
  | 5, _ => exact inlX5
  | 6, _ => exact inlX5
/-- the class tables, where the array classes are, the place below the cells, the heap at the law's entry, where the four texts are -/
abbrev Gl : Type := va_G × (Nat → ClassId) × Nat × Heap × (Nat → Nat) × (Nat → Nat) × Nat × Nat × (Nat → Int32)
def fv (b : Nat) (M : Mem) (ty : FieldType) (r k : Nat) : Value := match ty with
  | .double => .double (gD M r k)
  | .long => .long (gL M r k)
  | .object _ => rf b (gR M r k)
  | .array _ => rf b (gR M r k)
  | _ => .int (gI M r k)
def av (b : Nat) (M : Mem) (k r j : Nat) : Value := if k = 8 then .double (gD M r j) else if k ≤ 9 then .int (gI M r j) else rf b (gR M r j)
def cellAt (E : Gl) (M : Mem) (r : Nat) (H : Heap) : Prop :=
  if (kd r).1 < 7 then t_OB (E.2.2.1 + r) (E.1.1 (kd r).1) (fN (kd r).1) (E.1.2 (kd r).1) H (fun j => fv E.2.2.1 M (tyF (kd r).1 j) r j)
  else H[E.2.2.1 + r]? = some (arrV (E.2.1 (kd r).1) (kd r).2 (fun j => av E.2.2.1 M (kd r).1 r j))
def Rep (E : Gl) (n : Nat) (M : Mem) (H : Heap) : Prop := H.size = E.2.2.1 + 1 + n ∧ (∀ q, q ≤ E.2.2.1 → H[q]? = E.2.2.2.1[q]?) ∧ ∀ r, 1 ≤ r → r ≤ n → cellAt E M r H
theorem lawGood : ∀ w ∈ lwG, (w.onTables && w.keeps) = true ∨ ∃ ty, w = .arrayClass ty := fun w h => good_of_word (List.mem_filter.mp h).2
abbrev arrTys (E : Gl) : List (ClassId × FieldType) := [(E.2.1 7, .int), (E.2.1 8, .int), (E.2.1 9, .char), (E.2.1 10, .object RX1), (E.2.1 11, .object RX2), (E.2.1 12, .object RX0)]
/-- the texts of the class: step, turn, stop, clear -/
def lenS : List Nat := [4, 4, 4, 5]
def bytS : List (List Int32) := [[115, 116, 101, 112], [116, 117, 114, 110], [115, 116, 111, 112], [99, 108, 101, 97, 114]]
/-- the cells that may change -/
def Ab (E : Gl) : Nat → Prop := fun q => E.2.2.1 < q
/-- the script: where it is, how long, what it holds -/
def xB (E : Gl) : Nat := E.2.2.2.2.2.2.1
def xL (E : Gl) : Nat := E.2.2.2.2.2.2.2.1
def xX (E : Gl) : Nat → Int32 := E.2.2.2.2.2.2.2.2
def SXE (E : Gl) (U : State) : Prop := va_X (xB E) (xL E) (xX E) U E.2.2.2.1 ∧ xB E ≤ E.2.2.1 ∧ E.2.2.2.1.size = E.2.2.1 + 1 ∧ xL E < 2 ^ 31
theorem SXE.moved {E : Gl} {s U : State} (hW : s.WarmedH U.vm) (h : SXE E s) : SXE E U := ⟨va_X.moved hW.alike h.1, h.2⟩
def KS (E : Gl) (U : State) : Prop := vk_S 4 lenS bytS E.2.2.2.2.1 E.2.2.2.2.2.1 (Ab E) U E.2.2.2.1 ∧ (vk_R RX5 120 "step" (E.2.2.2.2.1 0) U ∧ vk_R RX5 126 "turn" (E.2.2.2.2.1 1) U ∧ vk_R RX5 131 "stop" (E.2.2.2.2.1 2) U ∧ vk_R RX5 136 "clear" (E.2.2.2.2.1 3) U) ∧ va_Z "java/lang/String" "COMPACT_STRINGS" "Z" (.int 1) (Ab E) U E.2.2.2.1 ∧ va_Zq "jdk/internal/util/Preconditions" "SIOOBE_FORMATTER" "Ljava/util/function/BiFunction;" (Ab E) U E.2.2.2.1 ∧ SXE E U
theorem KS.moved {E : Gl} {s U : State} (hW : s.WarmedH U.vm) (h : KS E s) : KS E U := by
  obtain ⟨h1, ⟨h2, h3, h4, h5⟩, h6, h7, h8⟩ := h
  exact ⟨vk_S.moved hW.alike h1, ⟨vk_R.warm hW h2, vk_R.warm hW h3, vk_R.warm hW h4, vk_R.warm hW h5⟩, va_Z.moved hW.alike h6, va_Zq.moved hW.alike h7, SXE.moved hW h8⟩
def KK (E : Gl) (U : State) : Prop := va_K E.1 vwCl (arrTys E) U ∧ (∀ w ∈ lwG, ∀ a : Array Value, w.before a U = true) ∧ va_Nw (.methodLinkNest RX3 19 yX5_numberOf RX5) U ∧ va_Nw (.methodLinkNest RX0 200 yX5_decayed RX5) U ∧ va_AO RX0 U ∧ va_AO RX1 U ∧ va_AO RX2 U ∧ KS E U
theorem KK.moved {E : Gl} {s U : State} (hW : s.WarmedH U.vm) (h : KK E s) : KK E U := by
  obtain ⟨h1, h2, h3, h4, h5, h6, h7, h8⟩ := h
  exact ⟨va_K.moved hW.alike h1, fun w hw a => word_at (args := #[]) hW (lawGood w hw) (h2 w hw #[]), va_Nw.warmM hW h3, va_Nw.warmM hW h4, va_AO.moved hW.alike h5, va_AO.moved hW.alike h6, va_AO.moved hW.alike h7, KS.moved hW h8⟩
theorem KK.calls {E : Gl} {U : State} (g : JFrame) (mk : MethodId) (a : Array Value) (h : KK E U) : KK E (U.calling g mk a) := KK.moved (s := U) (U := U.calling g mk a) (State.WarmedH.refl U) h
def lvm (b : Nat) (lv : List (Nat × AV)) : List (Nat × Value) := lv.map fun q => (q.1, toV b q.2)
def keep1 (i : Nat) (lv : List (Nat × AV)) : List (Nat × AV) := lv.filter (fun q => !(q.1 == i) && !(q.1 + 1 == i && catA q.2 == 2))
def keep2 (i : Nat) (lv : List (Nat × AV)) : List (Nat × AV) := lv.filter (fun q => !(q.1 == i) && (!(q.1 == i + 1) && !(q.1 + 1 == i && catA q.2 == 2)))
theorem lvm_keep1 (b i : Nat) (lv : List (Nat × AV)) : (lvm b lv).filter (fun q => !(q.1 == i) && !(q.1 + 1 == i && q.2.category == 2)) = lvm b (keep1 i lv) := by
  unfold lvm keep1
  rw [List.filter_map]
  congr 1
  congr 1
  funext q
  show (!(q.1 == i) && !(q.1 + 1 == i && (toV b q.2).category == 2)) = _
  rw [toV_cat]
theorem lvm_keep2 (b i : Nat) (lv : List (Nat × AV)) : (lvm b lv).filter (fun q => !(q.1 == i) && (!(q.1 == i + 1) && !(q.1 + 1 == i && q.2.category == 2))) = lvm b (keep2 i lv) := by
  unfold lvm keep2
  rw [List.filter_map]
  congr 1
  congr 1
  funext q
  show (!(q.1 == i) && (!(q.1 == i + 1) && !(q.1 + 1 == i && (toV b q.2).category == 2))) = _
  rw [toV_cat]
theorem lvat {ls : Array Slot} {nL b j i : Nat} {lv : List (Nat × AV)} {a : AV} (h : lv_has ls nL (lvm b lv)) (hj : lv[j]? = some (i, a)) : ls[i]? = some (.val (toV b a)) :=
  lv_at h j (by unfold lvm; rw [List.getElem?_map, hj]; rfl)
section GR
variable {E : Gl} {p : Program} {l : Launch} {e : Env} {R : Room} {s : State} {m : MethodId} {args : Array Value} {below : List Frame} {meth : Method} {c : Code} {nL n : Nat} {M : Mem} {cells slots : Nat} {Q : State → Prop} {cc : ByteArray} {own : String} {pc : Nat} {lv lv' : List (Nat × AV)} {st : List AV}
def G (E : Gl) (p : Program) (l : Launch) (e : Env) (R : Room) (s : State) (m : MethodId) (args : Array Value) (below : List Frame) (meth : Method) (c : Code) (nL n : Nat) (M : Mem) (cells slots : Nat) (Q : State → Prop) (pc : Nat) (lv : List (Nat × AV)) (st : List AV) : Prop :=
  ∀ (H : Heap) (locs : List Loc) (ls : Array Slot) (d : Drawn), s.drawn.sameBut d lw_cs → Rep E n M H → (∀ q ∈ locs, Ab E q.base) → lv_has ls nL (lvm E.2.2.1 lv) → W p l e R (s.setDrawn d) m args below meth c H locs cells slots Q (F0 m pc ls (st.map (toV E.2.2.1)))
def CX (E : Gl) (p : Program) (s : State) (m : MethodId) (c : Code) (cc : ByteArray) (nL : Nat) (own : String) : Prop := p.tables.exec = Jvm.exec ∧ c.code = cc ∧ c.maxLocals = nL ∧ s.vm.findClass own = some m.cls ∧ KK E s
theorem CX.w (X : CX E p s m c cc nL own) {w : Cond} (h : w ∈ lwG) (a : Array Value) (d : Drawn) : w.before a (s.setDrawn d) = true := (Cond.before_setDrawn a s d w).trans (X.2.2.2.2.2.1 w h a)
theorem g_lvsub (ks : List Nat) (hl : ks.filterMap (fun k => lv[k]?) = lv') (kk : G E p l e R s m args below meth c nL n M cells slots Q pc lv' st) : G E p l e R s m args below meth c nL n M cells slots Q pc lv st := by
  intro H locs ls d hd hR hlo hls
  refine kk H locs ls d hd hR hlo (lv_sub hls ks ?_)
  subst hl
  unfold lv_pick lvm
  rw [List.map_filterMap]
  congr 1
  funext k
  rw [List.getElem?_map]
-- constants, locals
theorem g_iconst (X : CX E p s m c cc nL own) {k : Int} (v : Int32) (hd : decode cc pc = .ok (.iconst k, 1)) (hv : Int32.ofInt k = v) (kk : G E p l e R s m args below meth c nL n M cells slots Q (pc + 1) lv (iV v :: st)) : G E p l e R s m args below meth c nL n M cells slots Q pc lv st :=
  fun H locs ls d a1 a2 a3 a4 => lv_iconst X.1 X.2.1 hd hv (kk H locs ls d a1 a2 a3 a4)
theorem g_bipush (X : CX E p s m c cc nL own) {k : Int} (v : Int32) (hd : decode cc pc = .ok (.bipush k, 2)) (hv : (Int8.ofInt k).toInt32 = v) (kk : G E p l e R s m args below meth c nL n M cells slots Q (pc + 2) lv (iV v :: st)) : G E p l e R s m args below meth c nL n M cells slots Q pc lv st :=
  fun H locs ls d a1 a2 a3 a4 => lv_bipush X.1 X.2.1 hd hv (kk H locs ls d a1 a2 a3 a4)
theorem g_sipush (X : CX E p s m c cc nL own) {k : Int} (v : Int32) (hd : decode cc pc = .ok (.sipush k, 3)) (hv : (Int16.ofInt k).toInt32 = v) (kk : G E p l e R s m args below meth c nL n M cells slots Q (pc + 3) lv (iV v :: st)) : G E p l e R s m args below meth c nL n M cells slots Q pc lv st :=
  fun H locs ls d a1 a2 a3 a4 => lv_sipush X.1 X.2.1 hd hv (kk H locs ls d a1 a2 a3 a4)
theorem g_lconst (X : CX E p s m c cc nL own) {k : Fin 2} (v : Int64) (hd : decode cc pc = .ok (.lconst k, 1)) (hv : Int64.ofNat (k : Nat) = v) (kk : G E p l e R s m args below meth c nL n M cells slots Q (pc + 1) lv (lV v :: st)) : G E p l e R s m args below meth c nL n M cells slots Q pc lv st :=
  fun H locs ls d a1 a2 a3 a4 => lv_lconst X.1 X.2.1 hd hv (kk H locs ls d a1 a2 a3 a4)
theorem g_dconst0 (X : CX E p s m c cc nL own) (hd : decode cc pc = .ok (.dconst 0, 1)) (kk : G E p l e R s m args below meth c nL n M cells slots Q (pc + 1) lv (dV FP.dconst0 :: st)) : G E p l e R s m args below meth c nL n M cells slots Q pc lv st :=
  fun H locs ls d a1 a2 a3 a4 => lv_dconst0 X.1 X.2.1 hd (kk H locs ls d a1 a2 a3 a4)
theorem g_dconst1 (X : CX E p s m c cc nL own) (hd : decode cc pc = .ok (.dconst 1, 1)) (kk : G E p l e R s m args below meth c nL n M cells slots Q (pc + 1) lv (dV FP.dconst1 :: st)) : G E p l e R s m args below meth c nL n M cells slots Q pc lv st :=
  fun H locs ls d a1 a2 a3 a4 => lv_dconst1 X.1 X.2.1 hd (kk H locs ls d a1 a2 a3 a4)
theorem g_null (X : CX E p s m c cc nL own) (hd : decode cc pc = .ok (.aconst_null, 1)) (kk : G E p l e R s m args below meth c nL n M cells slots Q (pc + 1) lv (rV 0 :: st)) : G E p l e R s m args below meth c nL n M cells slots Q pc lv st :=
  fun H locs ls d a1 a2 a3 a4 => lv_null X.1 X.2.1 hd (kk H locs ls d a1 a2 a3 a4)
theorem g_ldc (X : CX E p s m c cc nL own) {k : Nat} (v : Int32) (hd : decode cc pc = .ok (.ldc k, 2)) (hw : Cond.constant own k v ∈ lwG) (kk : G E p l e R s m args below meth c nL n M cells slots Q (pc + 2) lv (iV v :: st)) : G E p l e R s m args below meth c nL n M cells slots Q pc lv st :=
  fun H locs ls d a1 a2 a3 a4 => lv_ldc X.1 X.2.1 X.2.2.2.1 (X.w hw args d) hd (kk H locs ls d a1 a2 a3 a4)
theorem g_ldcw (X : CX E p s m c cc nL own) {k : Nat} (v : Int32) (hd : decode cc pc = .ok (.ldc_w k, 3)) (hw : Cond.constant own k v ∈ lwG) (kk : G E p l e R s m args below meth c nL n M cells slots Q (pc + 3) lv (iV v :: st)) : G E p l e R s m args below meth c nL n M cells slots Q pc lv st :=
  fun H locs ls d a1 a2 a3 a4 => lv_ldcw X.1 X.2.1 X.2.2.2.1 (X.w hw args d) hd (kk H locs ls d a1 a2 a3 a4)
theorem g_ldcL (X : CX E p s m c cc nL own) {k : Nat} (v : Int64) (hd : decode cc pc = .ok (.ldc2_w k, 3)) (hw : Cond.constantLong own k v ∈ lwG) (kk : G E p l e R s m args below meth c nL n M cells slots Q (pc + 3) lv (lV v :: st)) : G E p l e R s m args below meth c nL n M cells slots Q pc lv st :=
  fun H locs ls d a1 a2 a3 a4 => lv_ldc2 X.1 X.2.1 X.2.2.2.1 (X.w hw args d) hd (kk H locs ls d a1 a2 a3 a4)
theorem g_ldcD (X : CX E p s m c cc nL own) {k : Nat} (v : UInt64) (hd : decode cc pc = .ok (.ldc2_w k, 3)) (hw : Cond.constantDouble own k v ∈ lwG) (kk : G E p l e R s m args below meth c nL n M cells slots Q (pc + 3) lv (dV v :: st)) : G E p l e R s m args below meth c nL n M cells slots Q pc lv st :=
  fun H locs ls d a1 a2 a3 a4 => lv_ldc2d X.1 X.2.1 X.2.2.2.1 (X.w hw args d) hd (kk H locs ls d a1 a2 a3 a4)
theorem g_iload_n (X : CX E p s m c cc nL own) {k : Fin 4} {x : Int32} (hd : decode cc pc = .ok (.iload_n k, 1)) (j : Nat) (hl : lv[j]? = some ((k : Nat), iV x)) (kk : G E p l e R s m args below meth c nL n M cells slots Q (pc + 1) lv (iV x :: st)) : G E p l e R s m args below meth c nL n M cells slots Q pc lv st :=
  fun H locs ls d a1 a2 a3 a4 => lv_iload_n X.1 X.2.1 hd rfl (lvat a4 hl) (kk H locs ls d a1 a2 a3 a4)
theorem g_iload (X : CX E p s m c cc nL own) {k : Nat} {x : Int32} (hd : decode cc pc = .ok (.iload k, 2)) (j : Nat) (hl : lv[j]? = some (k, iV x)) (kk : G E p l e R s m args below meth c nL n M cells slots Q (pc + 2) lv (iV x :: st)) : G E p l e R s m args below meth c nL n M cells slots Q pc lv st :=
  fun H locs ls d a1 a2 a3 a4 => lv_iload X.1 X.2.1 hd (lvat a4 hl) (kk H locs ls d a1 a2 a3 a4)
theorem g_lload_n (X : CX E p s m c cc nL own) {k : Fin 4} {x : Int64} (hd : decode cc pc = .ok (.lload_n k, 1)) (j : Nat) (hl : lv[j]? = some ((k : Nat), lV x)) (kk : G E p l e R s m args below meth c nL n M cells slots Q (pc + 1) lv (lV x :: st)) : G E p l e R s m args below meth c nL n M cells slots Q pc lv st :=
  fun H locs ls d a1 a2 a3 a4 => lv_lload_n X.1 X.2.1 hd rfl (lvat a4 hl) (kk H locs ls d a1 a2 a3 a4)
theorem g_lload (X : CX E p s m c cc nL own) {k : Nat} {x : Int64} (hd : decode cc pc = .ok (.lload k, 2)) (j : Nat) (hl : lv[j]? = some (k, lV x)) (kk : G E p l e R s m args below meth c nL n M cells slots Q (pc + 2) lv (lV x :: st)) : G E p l e R s m args below meth c nL n M cells slots Q pc lv st :=
  fun H locs ls d a1 a2 a3 a4 => lv_lload X.1 X.2.1 hd (lvat a4 hl) (kk H locs ls d a1 a2 a3 a4)
theorem g_dload_n (X : CX E p s m c cc nL own) {k : Fin 4} {x : UInt64} (hd : decode cc pc = .ok (.dload_n k, 1)) (j : Nat) (hl : lv[j]? = some ((k : Nat), dV x)) (kk : G E p l e R s m args below meth c nL n M cells slots Q (pc + 1) lv (dV x :: st)) : G E p l e R s m args below meth c nL n M cells slots Q pc lv st :=
  fun H locs ls d a1 a2 a3 a4 => lv_dload_n X.1 X.2.1 hd rfl (lvat a4 hl) (kk H locs ls d a1 a2 a3 a4)
theorem g_dload (X : CX E p s m c cc nL own) {k : Nat} {x : UInt64} (hd : decode cc pc = .ok (.dload k, 2)) (j : Nat) (hl : lv[j]? = some (k, dV x)) (kk : G E p l e R s m args below meth c nL n M cells slots Q (pc + 2) lv (dV x :: st)) : G E p l e R s m args below meth c nL n M cells slots Q pc lv st :=
  fun H locs ls d a1 a2 a3 a4 => lv_dload X.1 X.2.1 hd (lvat a4 hl) (kk H locs ls d a1 a2 a3 a4)
theorem g_fload_n (X : CX E p s m c cc nL own) {k : Fin 4} {x : UInt32} (hd : decode cc pc = .ok (.fload_n k, 1)) (j : Nat) (hl : lv[j]? = some ((k : Nat), fV x)) (kk : G E p l e R s m args below meth c nL n M cells slots Q (pc + 1) lv (fV x :: st)) : G E p l e R s m args below meth c nL n M cells slots Q pc lv st :=
  fun H locs ls d a1 a2 a3 a4 => lv_fload_n X.1 X.2.1 hd rfl (lvat a4 hl) (kk H locs ls d a1 a2 a3 a4)
theorem g_aload_n (X : CX E p s m c cc nL own) {k : Fin 4} {r : Nat} (hd : decode cc pc = .ok (.aload_n k, 1)) (j : Nat) (hl : lv[j]? = some ((k : Nat), rV r)) (kk : G E p l e R s m args below meth c nL n M cells slots Q (pc + 1) lv (rV r :: st)) : G E p l e R s m args below meth c nL n M cells slots Q pc lv st := by
  intro H locs ls d a1 a2 a3 a4
  have h1 := lvat a4 hl
  have h2 := kk H locs ls d a1 a2 a3 a4
  change ls[(k : Nat)]? = some (.val (rf E.2.2.1 r)) at h1
  change W _ _ _ _ _ _ _ _ _ _ _ _ _ _ _ (F0 m (pc + 1) ls (rf E.2.2.1 r :: st.map (toV E.2.2.1))) at h2
  rcases rf_or E.2.2.1 r with ⟨-, h⟩ | ⟨-, h⟩
  · rw [h] at h1 h2
    exact lv_aload_nN X.1 X.2.1 hd rfl h1 h2
  · rw [h] at h1 h2
    exact lv_aload_n X.1 X.2.1 hd rfl h1 h2
theorem g_aload (X : CX E p s m c cc nL own) {k : Nat} {r : Nat} (hd : decode cc pc = .ok (.aload k, 2)) (j : Nat) (hl : lv[j]? = some (k, rV r)) (kk : G E p l e R s m args below meth c nL n M cells slots Q (pc + 2) lv (rV r :: st)) : G E p l e R s m args below meth c nL n M cells slots Q pc lv st := by
  intro H locs ls d a1 a2 a3 a4
  have h1 := lvat a4 hl
  have h2 := kk H locs ls d a1 a2 a3 a4
  change ls[k]? = some (.val (rf E.2.2.1 r)) at h1
  change W _ _ _ _ _ _ _ _ _ _ _ _ _ _ _ (F0 m (pc + 2) ls (rf E.2.2.1 r :: st.map (toV E.2.2.1))) at h2
  rcases rf_or E.2.2.1 r with ⟨-, h⟩ | ⟨-, h⟩
  · rw [h] at h1 h2
    exact lv_aloadN X.1 X.2.1 hd h1 h2
  · rw [h] at h1 h2
    exact lv_aload X.1 X.2.1 hd h1 h2
theorem g_istore_n (X : CX E p s m c cc nL own) {k : Fin 4} {x : Int32} (hd : decode cc pc = .ok (.istore_n k, 1)) (hn : (k : Nat) < nL) (hl : ((k : Nat), iV x) :: keep1 (k : Nat) lv = lv') (kk : G E p l e R s m args below meth c nL n M cells slots Q (pc + 1) lv' st) : G E p l e R s m args below meth c nL n M cells slots Q pc lv (iV x :: st) :=
  fun H locs ls d a1 a2 a3 a4 => lv_istore_n X.1 X.2.1 hd rfl a4 hn (by rw [lvm_keep1]; subst hl; rfl) (fun ls' a4' => kk H locs ls' d a1 a2 a3 a4')
theorem g_istore (X : CX E p s m c cc nL own) {k : Nat} {x : Int32} (hd : decode cc pc = .ok (.istore k, 2)) (hn : k < nL) (hl : (k, iV x) :: keep1 k lv = lv') (kk : G E p l e R s m args below meth c nL n M cells slots Q (pc + 2) lv' st) : G E p l e R s m args below meth c nL n M cells slots Q pc lv (iV x :: st) :=
  fun H locs ls d a1 a2 a3 a4 => lv_istore X.1 X.2.1 hd a4 hn (by rw [lvm_keep1]; subst hl; rfl) (fun ls' a4' => kk H locs ls' d a1 a2 a3 a4')
theorem g_lstore_n (X : CX E p s m c cc nL own) {k : Fin 4} {x : Int64} (hd : decode cc pc = .ok (.lstore_n k, 1)) (hn : (k : Nat) + 1 < nL) (hl : ((k : Nat), lV x) :: keep2 (k : Nat) lv = lv') (kk : G E p l e R s m args below meth c nL n M cells slots Q (pc + 1) lv' st) : G E p l e R s m args below meth c nL n M cells slots Q pc lv (lV x :: st) :=
  fun H locs ls d a1 a2 a3 a4 => lv_lstore_n X.1 X.2.1 hd rfl a4 hn (by rw [lvm_keep2]; subst hl; rfl) (fun ls' a4' => kk H locs ls' d a1 a2 a3 a4')
theorem g_dstore_n (X : CX E p s m c cc nL own) {k : Fin 4} {x : UInt64} (hd : decode cc pc = .ok (.dstore_n k, 1)) (hn : (k : Nat) + 1 < nL) (hl : ((k : Nat), dV x) :: keep2 (k : Nat) lv = lv') (kk : G E p l e R s m args below meth c nL n M cells slots Q (pc + 1) lv' st) : G E p l e R s m args below meth c nL n M cells slots Q pc lv (dV x :: st) :=
  fun H locs ls d a1 a2 a3 a4 => lv_dstore_n X.1 X.2.1 hd rfl a4 hn (by rw [lvm_keep2]; subst hl; rfl) (fun ls' a4' => kk H locs ls' d a1 a2 a3 a4')
theorem g_dstore (X : CX E p s m c cc nL own) {k : Nat} {x : UInt64} (hd : decode cc pc = .ok (.dstore k, 2)) (hn : k + 1 < nL) (hl : (k, dV x) :: keep2 k lv = lv') (kk : G E p l e R s m args below meth c nL n M cells slots Q (pc + 2) lv' st) : G E p l e R s m args below meth c nL n M cells slots Q pc lv (dV x :: st) :=
  fun H locs ls d a1 a2 a3 a4 => lv_dstore X.1 X.2.1 hd a4 hn (by rw [lvm_keep2]; subst hl; rfl) (fun ls' a4' => kk H locs ls' d a1 a2 a3 a4')
theorem g_astore_n (X : CX E p s m c cc nL own) {k : Fin 4} {r : Nat} (hd : decode cc pc = .ok (.astore_n k, 1)) (hn : (k : Nat) < nL) (hl : ((k : Nat), rV r) :: keep1 (k : Nat) lv = lv') (kk : G E p l e R s m args below meth c nL n M cells slots Q (pc + 1) lv' st) : G E p l e R s m args below meth c nL n M cells slots Q pc lv (rV r :: st) := by
  intro H locs ls d a1 a2 a3 a4
  have h2 : ∀ ls' : Array Slot, lv_has ls' nL (((k : Nat), rf E.2.2.1 r) :: (lvm E.2.2.1 lv).filter (fun q => !(q.1 == (k : Nat)) && !(q.1 + 1 == (k : Nat) && q.2.category == 2))) → W p l e R (s.setDrawn d) m args below meth c H locs cells slots Q (F0 m (pc + 1) ls' (st.map (toV E.2.2.1))) := fun ls' h => kk H locs ls' d a1 a2 a3 (by rw [lvm_keep1] at h; subst hl; exact h)
  change W _ _ _ _ _ _ _ _ _ _ _ _ _ _ _ (F0 m pc ls (rf E.2.2.1 r :: st.map (toV E.2.2.1)))
  rcases rf_or E.2.2.1 r with ⟨-, h⟩ | ⟨-, h⟩
  · rw [h] at h2 ⊢
    exact lv_astore_nN X.1 X.2.1 hd rfl a4 hn rfl h2
  · rw [h] at h2 ⊢
    exact lv_astore_n X.1 X.2.1 hd rfl a4 hn rfl h2
theorem g_astore (X : CX E p s m c cc nL own) {k : Nat} {r : Nat} (hd : decode cc pc = .ok (.astore k, 2)) (hn : k < nL) (hl : (k, rV r) :: keep1 k lv = lv') (kk : G E p l e R s m args below meth c nL n M cells slots Q (pc + 2) lv' st) : G E p l e R s m args below meth c nL n M cells slots Q pc lv (rV r :: st) := by
  intro H locs ls d a1 a2 a3 a4
  have h2 : ∀ ls' : Array Slot, lv_has ls' nL ((k, rf E.2.2.1 r) :: (lvm E.2.2.1 lv).filter (fun q => !(q.1 == k) && !(q.1 + 1 == k && q.2.category == 2))) → W p l e R (s.setDrawn d) m args below meth c H locs cells slots Q (F0 m (pc + 2) ls' (st.map (toV E.2.2.1))) := fun ls' h => kk H locs ls' d a1 a2 a3 (by rw [lvm_keep1] at h; subst hl; exact h)
  change W _ _ _ _ _ _ _ _ _ _ _ _ _ _ _ (F0 m pc ls (rf E.2.2.1 r :: st.map (toV E.2.2.1)))
  rcases rf_or E.2.2.1 r with ⟨-, h⟩ | ⟨-, h⟩
  · rw [h] at h2 ⊢
    exact lv_astoreN X.1 X.2.1 hd a4 hn rfl h2
  · rw [h] at h2 ⊢
    exact lv_astore X.1 X.2.1 hd a4 hn rfl h2
theorem g_iinc (X : CX E p s m c cc nL own) {k : Nat} {z : Int} {x : Int32} (v : Int32) (hd : decode cc pc = .ok (.iinc k z, 3)) (j : Nat) (hj : lv[j]? = some (k, iV x)) (hv : x + Int32.ofInt z = v) (hn : k < nL) (hl : (k, iV v) :: keep1 k lv = lv') (kk : G E p l e R s m args below meth c nL n M cells slots Q (pc + 3) lv' st) : G E p l e R s m args below meth c nL n M cells slots Q pc lv st :=
  fun H locs ls d a1 a2 a3 a4 => lv_iinc (k := j) (lv := lvm E.2.2.1 lv) X.1 X.2.1 hd a4 (by unfold lvm; rw [List.getElem?_map, hj]; rfl) hv hn (by rw [lvm_keep1]; subst hl; rfl) (fun ls' a4' => kk H locs ls' d a1 a2 a3 a4')
end GR
