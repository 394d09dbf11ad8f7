/-! calls, ends, new cells -/
abbrev PI (E : Gl) (n : Nat) (K : Int32 → Mem → Prop) : Array Value → State → Outcome → State → Prop := va_Qi K (fun M2 t => Rep E n M2 t.heap) (Ab E)
abbrev PL (E : Gl) (n : Nat) (K : Int64 → Mem → Prop) : Array Value → State → Outcome → State → Prop := va_Ql K (fun M2 t => Rep E n M2 t.heap) (Ab E)
abbrev PD (E : Gl) (n : Nat) (K : UInt64 → Mem → Prop) : Array Value → State → Outcome → State → Prop := va_Qd K (fun M2 t => Rep E n M2 t.heap) (Ab E)
abbrev PV (E : Gl) (n : Nat) (K : Mem → Prop) : Array Value → State → Outcome → State → Prop := va_Qv K (fun M2 t => Rep E n M2 t.heap) (Ab E)
abbrev PR (E : Gl) (n : Nat) (K : Nat → Mem → Prop) : Array Value → State → Outcome → State → Prop := va_Qq (fun ro M2 => ∃ r, ro = (if r = 0 then none else some (E.2.2.1 + r)) ∧ K r M2) (fun M2 t => Rep E n M2 t.heap) (Ab E)
abbrev CT (E : Gl) (l : Launch) (y : MethodName) (cc : ByteArray) (maxL : Nat) (ret : Option FieldType) (rm : Room) (n : Nat) (M : Mem) (av : List AV) (Qc : Array Value → State → Outcome → State → Prop) : Prop := MetD lw_cs l y [Cond.code y cc maxL ret] rm (va_Pc (av.map (toV E.2.2.1)) (fun U => Rep E n M U.heap ∧ KK E U)) Qc rm.cells rm.slots (Ab E)
/-- the locals at a method's entry -/
def lvE : Nat → List AV → List (Nat × AV)
  | _, [] => []
  | i, a :: l => (i, a) :: lvE (if catA a = 2 then i + 2 else i + 1) l
theorem lvE_args (b : Nat) : ∀ (i : Nat) (l : List AV), lv_args i (l.map (toV b)) = lvm b (lvE i l)
  | _, [] => rfl
  | i, a :: l => by
    show (i, toV b a) :: lv_args (if (toV b a).category = 2 then i + 2 else i + 1) (l.map (toV b)) = (i, toV b a) :: lvm b (lvE (if catA a = 2 then i + 2 else i + 1) l)
    rw [toV_cat, lvE_args b _ l]
def szA : List AV → Nat
  | [] => 0
  | a :: l => catA a + szA l
theorem szA_sl (b : Nat) : ∀ l : List AV, (lg_sl (l.map (toV b))).length = szA l
  | [] => rfl
  | a :: l => by
    have ih := szA_sl b l
    rw [List.map_cons]
    unfold szA
    rw [← ih, ← toV_cat b a]
    cases h : toV b a <;> simp [lg_sl, Value.category] <;> omega
section GC
variable {E : Gl} {p : Program} {l : Launch} {e : Env} {R : Room} {s : State} {m : MethodId} {args : Array Value} {below : List Frame} {meth : Method} {c : Code} {nL n n2 : Nat} {M M2 : Mem} {cells slots : Nat} {Q : State → Prop} {cc : ByteArray} {own : String} {pc : Nat} {lv lv' : List (Nat × AV)} {st : List AV}
set_option maxHeartbeats 200000 in
/-- a method's contract, out of the walk of its body -/
theorem g_met {y : MethodName} {maxL : Nat} {ret : Option FieldType} {rm : Room} {av : List AV} {Qc : Array Value → State → Outcome → State → Prop} (l : Launch) (hy : plainName y.cls = true) (hlen : szA av ≤ maxL)
    (body : ∀ (p : Program) (e : Env) (s : State) (m : MethodId) (args : Array Value) (below : List Frame) (meth : Method) (c : Code), CX E p s m c cc maxL y.cls → meth.sig.returnType = ret → meth.locks = false → meth.name = y.name → s.heap.size = E.2.2.1 + 1 + n → (∀ q, q ≤ E.2.2.1 → s.heap[q]? = E.2.2.2.1[q]?) → G E p l e rm s m args below meth c maxL n M 0 0 (MQD lw_cs below Qc args s rm.cells rm.slots (Ab E)) 0 (lvE 0 av) []) :
    CT E l y cc maxL ret rm n M av Qc := by
  refine MetD.ofW (cc := cc) (maxL := maxL) (ret := ret) (ws' := []) hy rfl ?_
  intro p e s m args below meth c s₁ B hml hv hd0
  obtain ⟨rfl, hR, hK⟩ := hv
  have hl := lv_entry (av.map (toV E.2.2.1)) (n := maxL) (by rw [szA_sl]; exact hlen)
  rw [lg_entry_eq]
  rw [lvE_args] at hl
  exact body p e s m _ below meth c ⟨B.exec, B.bytes, hml, findClass_of_methodNamed B.named, hK⟩ B.returns B.notSynchronized (name_of_methodNamed B.named B.method).1 hR.1 hR.2.1 s.heap [] _ _ hd0 hR (fun q h => absurd h List.not_mem_nil) hl
set_option maxHeartbeats 200000 in
/-- the frame of a whole method -/
theorem g_frame {H : Heap} (h1 : s.heap.size = E.2.2.1 + 1 + n) (h2 : ∀ q, q ≤ E.2.2.1 → s.heap[q]? = E.2.2.2.1[q]?) (hn : n ≤ n2) (hR : Rep E n2 M H) {t : State} (ht : t.heap = H) : va_F (Ab E) s t := by
  refine ⟨by rw [ht, h1, hR.1]; omega, fun q hq hA => ?_⟩
  have hq2 : q ≤ E.2.2.1 := Nat.not_lt.mp hA
  rw [ht, hR.2.1 q hq2, h2 q hq2]
set_option maxHeartbeats 200000 in
theorem g_iret {K : Int32 → Mem → Prop} {v : Int32} (X : CX E p s m c cc nL own) (hr : meth.sig.returnType = some .int) (hlk : meth.locks = false) (h1 : s.heap.size = E.2.2.1 + 1 + n) (h2 : ∀ q, q ≤ E.2.2.1 → s.heap[q]? = E.2.2.2.1[q]?) (hn : n ≤ n2) (hd : decode cc pc = .ok (.ireturn, 1)) (hw : K v M) : G E p l e R s m args below meth c nL n2 M cells slots (MQD lw_cs below (PI E n2 K) args s cells slots (Ab E)) pc lv [iV v] := by
  intro H locs ls d a1 a2 a3 a4
  refine W.endD a1 (W.iret (Qc := PI E n2 K) X.1 X.2.1 hr (fun t ht hW => ⟨⟨v, M, rfl, hw, ?_⟩, ?_⟩) a3 hd hlk)
  · show Rep E n2 M t.heap
    rw [ht]; exact a2
  · exact g_frame (s := s) h1 h2 hn a2 ht
set_option maxHeartbeats 200000 in
theorem g_zret {K : Int32 → Mem → Prop} {v : Int32} {ty : FieldType} (X : CX E p s m c cc nL own) (hr : meth.sig.returnType = some ty) (hlk : meth.locks = false) (h1 : s.heap.size = E.2.2.1 + 1 + n) (h2 : ∀ q, q ≤ E.2.2.1 → s.heap[q]? = E.2.2.2.1[q]?) (hn : n ≤ n2) (hd : decode cc pc = .ok (.ireturn, 1)) (hw : narrow ty (.int v) = .int v ∧ K v M) : G E p l e R s m args below meth c nL n2 M cells slots (MQD lw_cs below (PI E n2 K) args s cells slots (Ab E)) pc lv [iV v] := by
  intro H locs ls d a1 a2 a3 a4
  refine W.endD a1 (W.zret (Qc := PI E n2 K) X.1 X.2.1 hr hw.1 (fun t ht hW => ⟨⟨v, M, rfl, hw.2, ?_⟩, ?_⟩) a3 hd hlk)
  · show Rep E n2 M t.heap
    rw [ht]; exact a2
  · exact g_frame (s := s) h1 h2 hn a2 ht
set_option maxHeartbeats 200000 in
theorem g_lret {K : Int64 → Mem → Prop} {v : Int64} (X : CX E p s m c cc nL own) (hr : meth.sig.returnType = some .long) (hlk : meth.locks = false) (h1 : s.heap.size = E.2.2.1 + 1 + n) (h2 : ∀ q, q ≤ E.2.2.1 → s.heap[q]? = E.2.2.2.1[q]?) (hn : n ≤ n2) (hd : decode cc pc = .ok (.lreturn, 1)) (hw : K v M) : G E p l e R s m args below meth c nL n2 M cells slots (MQD lw_cs below (PL E n2 K) args s cells slots (Ab E)) pc lv [lV v] := by
  intro H locs ls d a1 a2 a3 a4
  refine W.endD a1 (W.lret (Qc := PL E n2 K) X.1 X.2.1 hr (fun t ht hW => ⟨⟨v, M, rfl, hw, ?_⟩, ?_⟩) a3 hd hlk)
  · show Rep E n2 M t.heap
    rw [ht]; exact a2
  · exact g_frame (s := s) h1 h2 hn a2 ht
set_option maxHeartbeats 200000 in
theorem g_dret {K : UInt64 → Mem → Prop} {v : UInt64} (X : CX E p s m c cc nL own) (hr : meth.sig.returnType = some .double) (hlk : meth.locks = false) (h1 : s.heap.size = E.2.2.1 + 1 + n) (h2 : ∀ q, q ≤ E.2.2.1 → s.heap[q]? = E.2.2.2.1[q]?) (hn : n ≤ n2) (hd : decode cc pc = .ok (.dreturn, 1)) (hw : K v M) : G E p l e R s m args below meth c nL n2 M cells slots (MQD lw_cs below (PD E n2 K) args s cells slots (Ab E)) pc lv [dV v] := by
  intro H locs ls d a1 a2 a3 a4
  refine W.endD a1 (W.dret (Qc := PD E n2 K) X.1 X.2.1 hr (fun t ht hW => ⟨⟨v, M, rfl, hw, ?_⟩, ?_⟩) a3 hd hlk)
  · show Rep E n2 M t.heap
    rw [ht]; exact a2
  · exact g_frame (s := s) h1 h2 hn a2 ht
set_option maxHeartbeats 200000 in
theorem g_vret {K : Mem → Prop} (X : CX E p s m c cc nL own) (hr : meth.sig.returnType = none) (hlk : meth.locks = false) (h1 : s.heap.size = E.2.2.1 + 1 + n) (h2 : ∀ q, q ≤ E.2.2.1 → s.heap[q]? = E.2.2.2.1[q]?) (hn : n ≤ n2) (hd : decode cc pc = .ok (.return_, 1)) (hw : K M) : G E p l e R s m args below meth c nL n2 M cells slots (MQD lw_cs below (PV E n2 K) args s cells slots (Ab E)) pc lv [] := by
  intro H locs ls d a1 a2 a3 a4
  refine W.endD a1 (W.vret (Qc := PV E n2 K) X.1 X.2.1 hr (fun t ht hW => ⟨⟨M, rfl, hw, ?_⟩, ?_⟩) a3 hd hlk)
  · show Rep E n2 M t.heap
    rw [ht]; exact a2
  · exact g_frame (s := s) h1 h2 hn a2 ht
set_option maxHeartbeats 200000 in
theorem g_aret {K : Nat → Mem → Prop} {r : Nat} {rt : FieldType} (X : CX E p s m c cc nL own) (hr : meth.sig.returnType = some rt) (hrt : (∃ n, rt = .object n) ∨ ∃ t, rt = .array t) (hlk : meth.locks = false) (h1 : s.heap.size = E.2.2.1 + 1 + n) (h2 : ∀ q, q ≤ E.2.2.1 → s.heap[q]? = E.2.2.2.1[q]?) (hn : n ≤ n2) (hd : decode cc pc = .ok (.areturn, 1)) (hw : K r M) : G E p l e R s m args below meth c nL n2 M cells slots (MQD lw_cs below (PR E n2 K) args s cells slots (Ab E)) pc lv [rV r] := by
  intro H locs ls d a1 a2 a3 a4
  refine W.endD a1 (W.aret (Qc := PR E n2 K) X.1 X.2.1 hr hrt ?_ (fun t ht hW => ⟨⟨_, M, congrArg (fun v => Outcome.returned (some v)) (rf_va E.2.2.1 r), ⟨r, rfl, hw⟩, ?_⟩, ?_⟩) a3 hd hlk)
  · show rf E.2.2.1 r = .null ∨ ∃ a, rf E.2.2.1 r = .ref a
    rcases rf_or E.2.2.1 r with ⟨-, h⟩ | ⟨-, h⟩
    · exact Or.inl h
    · exact Or.inr ⟨_, h⟩
  · show Rep E n2 M t.heap
    rw [ht]; exact a2
  · exact g_frame (s := s) h1 h2 hn a2 ht
/-- what the tables say of a call -/
def CW (own : String) (ix : Nat) (y : MethodName) (cc : ByteArray) (maxL : Nat) (ret : Option FieldType) (na : Nat) : Prop :=
  (y.cls ≠ "java/lang/invoke/MethodHandle" ∧ y.cls ≠ "java/lang/invoke/VarHandle") ∧ (parseMethodDescriptor y.desc).map (fun d => d.parameters.length) = some na ∧ Cond.code y cc maxL ret ∈ lwG ∧ Cond.initialized y.cls ∈ lwG ∧ Cond.methodLink own ix y ∈ lwG
def RmOk (rm R : Room) (maxL : Nat) : Prop := rm.frames + 1 ≤ R.frames ∧ 8 + (maxL + 11) + rm.locals ≤ R.locals
set_option maxHeartbeats 200000 in
theorem cb_of {y : MethodName} {bytes : ByteArray} {maxL na ix : Nat} {ret : Option FieldType} {rm : Room} (X : CX E p s m c cc nL own) (d : Drawn) (h : CW own ix y bytes maxL ret na) (hR : RmOk rm R maxL) : CallB R (s.setDrawn d) args own ix y bytes maxL ret [Cond.code y bytes maxL ret] rm rm.cells rm.slots na := by
  obtain ⟨h1, h2, h3, h4, h5⟩ := h
  refine ⟨rfl, rfl, hR.1, hR.2, fun w hw a' U hW => ?_, List.mem_singleton.mpr rfl, X.w h3 args d, X.w h4 args d, h1, fun sig hs => ?_, X.w h5 args d⟩
  · rw [List.mem_singleton.mp hw]
    exact word_at (s := s.setDrawn d) (args := args) hW (lawGood _ h3) (X.w h3 args d)
  · rw [hs] at h2
    exact (Option.some.inj h2).symm
set_option maxHeartbeats 200000 in
theorem blindP {av : List Value} {K : Prop} : FrameBlind (va_Pc av (fun U => Rep E n M U.heap ∧ KK E U)) := fun a U g mk q => ⟨q.1, q.2.1, KK.calls g mk a q.2.2⟩
set_option maxHeartbeats 200000 in
theorem preP {H : Heap} {av : List AV} (X : CX E p s m c cc nL own) (d : Drawn) (a2 : Rep E n M H) : ∀ U : State, U.heap = H → (s.setDrawn d).WarmedH U.vm → va_Pc (av.map (toV E.2.2.1)) (fun U => Rep E n M U.heap ∧ KK E U) (av.map (toV E.2.2.1)).toArray U := fun U hU hW => ⟨rfl, by rw [hU]; exact a2, KK.moved (s := s.setDrawn d) hW (X.dr d).2.2.2.2⟩
theorem cats : ∀ l : List AV, ((l.map (toV E.2.2.1)).map fun v => v.category).sum = szA l
  | [] => rfl
  | a :: l => by
    rw [List.map_cons, List.map_cons, List.sum_cons, cats l, toV_cat]
    rfl
set_option maxHeartbeats 200000 in
theorem recvP {H : Heap} {r ci : Nat} (X : CX E p s m c cc nL own) (d : Drawn) (a2 : Rep E n M H) (hci : ci < 7) (hn : r ≤ n) (hk : kd r = (ci, 0)) : r ≠ 0 ∧ ∃ cellB : Cell, H[E.2.2.1 + r]? = some cellB ∧ cellB.vm.isStatics = false ∧ (s.setDrawn d).vm.findClass (fC ci) = some cellB.cls := by
  have h0 : r ≠ 0 := kd0 (by omega) hk
  have hc := a2.2.2 r (by omega) hn
  unfold cellAt at hc
  rw [hk] at hc
  rw [if_pos hci] at hc
  obtain ⟨cell, q1, q2, q3, q4⟩ := hc
  exact ⟨h0, cell, q1, by rw [q3]; rfl, by rw [q2]; exact (X.2.2.2.2.1.1 ci _ (cl_at hci)).2.1⟩
set_option maxHeartbeats 200000 in
/-- the call of a method of an object, run -/
theorem g_runV {y : MethodName} {bytes : ByteArray} {maxL na ix ci r : Nat} {ret : Option FieldType} {rm : Room} {As rest : List AV} {Qc : Array Value → State → Outcome → State → Prop} {H : Heap} {locs : List Loc} {ls : Array Slot} {d : Drawn} (X : CX E p s m c cc nL own) (hy : CW own ix y bytes maxL ret na) (hi : Cond.instanceMethod y ∈ lwG ∧ Cond.selects (fC ci) y y ∈ lwG ∧ ci < 7) (hR : RmOk rm R maxL) (hd : decode cc pc = .ok (.invokevirtual ix, 3)) (hM : CT E l y bytes maxL ret rm n M (rV r :: As) Qc) (hr : r ≤ n ∧ kd r = (ci, 0)) (hna : As.length = na) (hst : st = As.reverse ++ rV r :: rest) (h8 : szA rest ≤ 8) (hf : cells + rm.cells ≤ R.cells ∧ slots + rm.slots ≤ R.slots) (a2 : Rep E n M H) (a4 : ls.size = nL) :
    va_RunD lw_cs p l e R (s.setDrawn d) m args below meth c H locs cells slots rm.cells rm.slots (F0 m pc ls (st.map (toV E.2.2.1))) (rest.map (toV E.2.2.1)) (Qc ((rV r :: As).map (toV E.2.2.1)).toArray) (Ab E) := by
  obtain ⟨h0, hcell⟩ := recvP X d a2 hi.2.2 hr.1 hr.2
  have e1 : ((rV r :: As).map (toV E.2.2.1)) = Value.ref (E.2.2.1 + r) :: As.map (toV E.2.2.1) := by
    show rf E.2.2.1 r :: _ = _
    rw [rf_pos h0]
  rw [e1]
  refine va_runV_D (C := fC ci) (b := E.2.2.1 + r) (As := As.map (toV E.2.2.1)) (Ts := lwG) ⟨X.1, X.2.1, X.2.2.1, X.2.2.2.1, fun w h => X.w h args d⟩ hM ⟨cb_of X d hy hR, X.w hi.1 args d, X.w hi.2.1 args d⟩ ⟨blindP (K := True), hcell, fun U hU hW => ?_⟩ rfl (by rw [List.length_map]; exact hna) a4 ?_ ?_ hd hf
  · rw [← e1]; exact preP X d a2 U hU hW
  · show st.map (toV E.2.2.1) = _
    rw [hst, List.map_append, List.map_reverse, List.map_cons]
    show _ ++ rf E.2.2.1 r :: _ = _
    rw [rf_pos h0]
  · show 2 * 0 + _ ≤ 8
    rw [cats]; omega
set_option maxHeartbeats 200000 in
theorem g_runI {y : MethodName} {bytes : ByteArray} {maxL na ix r : Nat} {rm : Room} {As rest : List AV} {Qc : Array Value → State → Outcome → State → Prop} {H : Heap} {locs : List Loc} {ls : Array Slot} {d : Drawn} (X : CX E p s m c cc nL own) (hy : CW own ix y bytes maxL none na) (hi : y.name = "<init>" ∧ Cond.instanceMethod y ∈ lwG) (hR : RmOk rm R maxL) (hd : decode cc pc = .ok (.invokespecial ix, 3)) (hM : CT E l y bytes maxL none rm n M (rV r :: As) Qc) (h0 : r ≠ 0) (hna : As.length = na) (hst : st = As.reverse ++ rV r :: rest) (h8 : szA rest ≤ 8) (hf : cells + rm.cells ≤ R.cells ∧ slots + rm.slots ≤ R.slots) (a2 : Rep E n M H) (a4 : ls.size = nL) :
    va_RunD lw_cs p l e R (s.setDrawn d) m args below meth c H locs cells slots rm.cells rm.slots (F0 m pc ls (st.map (toV E.2.2.1))) (rest.map (toV E.2.2.1)) (Qc ((rV r :: As).map (toV E.2.2.1)).toArray) (Ab E) := by
  have e1 : ((rV r :: As).map (toV E.2.2.1)) = Value.ref (E.2.2.1 + r) :: As.map (toV E.2.2.1) := by
    show rf E.2.2.1 r :: _ = _
    rw [rf_pos h0]
  rw [e1]
  refine va_runI_D (b := E.2.2.1 + r) (As := As.map (toV E.2.2.1)) (Ts := lwG) ⟨X.1, X.2.1, X.2.2.1, X.2.2.2.1, fun w h => X.w h args d⟩ hM ⟨cb_of X d hy hR, hi.1, X.w hi.2 args d⟩ ⟨blindP (K := True), fun U hU hW => ?_⟩ rfl (by rw [List.length_map]; exact hna) a4 ?_ ?_ hd hf
  · rw [← e1]; exact preP X d a2 U hU hW
  · show st.map (toV E.2.2.1) = _
    rw [hst, List.map_append, List.map_reverse, List.map_cons]
    show _ ++ rf E.2.2.1 r :: _ = _
    rw [rf_pos h0]
  · show 2 * 0 + _ ≤ 8
    rw [cats]; omega
set_option maxHeartbeats 200000 in
theorem g_runS {y : MethodName} {bytes : ByteArray} {maxL na ix : Nat} {ret : Option FieldType} {rm : Room} {As rest : List AV} {Qc : Array Value → State → Outcome → State → Prop} {H : Heap} {locs : List Loc} {ls : Array Slot} {d : Drawn} (X : CX E p s m c cc nL own) (hy : CW own ix y bytes maxL ret na) (hi : Cond.static y ∈ lwG) (hR : RmOk rm R maxL) (hd : decode cc pc = .ok (.invokestatic ix, 3)) (hM : CT E l y bytes maxL ret rm n M As Qc) (hna : As.length = na) (hst : st = As.reverse ++ rest) (h8 : szA rest ≤ 8) (hf : cells + rm.cells ≤ R.cells ∧ slots + rm.slots ≤ R.slots) (a2 : Rep E n M H) (a4 : ls.size = nL) :
    va_RunD lw_cs p l e R (s.setDrawn d) m args below meth c H locs cells slots rm.cells rm.slots (F0 m pc ls (st.map (toV E.2.2.1))) (rest.map (toV E.2.2.1)) (Qc (As.map (toV E.2.2.1)).toArray) (Ab E) := by
  refine va_runS_D (As := As.map (toV E.2.2.1)) (Ts := lwG) ⟨X.1, X.2.1, X.2.2.1, X.2.2.2.1, fun w h => X.w h args d⟩ hM ⟨cb_of X d hy hR, X.w hi args d⟩ ⟨blindP (K := True), preP X d a2⟩ rfl (by rw [List.length_map]; exact hna) a4 ?_ ?_ hd hf
  · show st.map (toV E.2.2.1) = _
    rw [hst, List.map_append, List.map_reverse]
  · show 2 * 0 + _ ≤ 8
    rw [cats]; omega
/-- what the tables say of a call of a private method of a nest mate -/
def CN (y : MethodName) (cc : ByteArray) (maxL : Nat) (ret : Option FieldType) (na : Nat) : Prop :=
  (y.cls ≠ "java/lang/invoke/MethodHandle" ∧ y.cls ≠ "java/lang/invoke/VarHandle") ∧ (parseMethodDescriptor y.desc).map (fun d => d.parameters.length) = some na ∧ Cond.code y cc maxL ret ∈ lwG ∧ Cond.initialized y.cls ∈ lwG ∧ Cond.static y ∈ lwG
set_option maxHeartbeats 200000 in
theorem g_runN {y : MethodName} {bytes : ByteArray} {maxL na ix : Nat} {host : String} {ret : Option FieldType} {rm : Room} {As rest : List AV} {Qc : Array Value → State → Outcome → State → Prop} {H : Heap} {locs : List Loc} {ls : Array Slot} {d : Drawn} (X : CX E p s m c cc nL own) (hy : CN y bytes maxL ret na) (hi : KK E s → va_Nw (.methodLinkNest own ix y host) s) (hR : RmOk rm R maxL) (hd : decode cc pc = .ok (.invokestatic ix, 3)) (hM : CT E l y bytes maxL ret rm n M As Qc) (hna : As.length = na) (hst : st = As.reverse ++ rest) (h8 : szA rest ≤ 8) (hf : cells + rm.cells ≤ R.cells ∧ slots + rm.slots ≤ R.slots) (a2 : Rep E n M H) (a4 : ls.size = nL) :
    va_RunD lw_cs p l e R (s.setDrawn d) m args below meth c H locs cells slots rm.cells rm.slots (F0 m pc ls (st.map (toV E.2.2.1))) (rest.map (toV E.2.2.1)) (Qc (As.map (toV E.2.2.1)).toArray) (Ab E) := by
  obtain ⟨h1, h2, h3, h4, h5⟩ := hy
  refine va_runSN_D (n := na) (host := host) (As := As.map (toV E.2.2.1)) (Ts := lwG) ⟨X.1, X.2.1, X.2.2.1, X.2.2.2.1, fun w h => X.w h args d⟩ hM ⟨⟨⟨rfl, rfl, hR.1, hR.2, fun w hw a' U hW => ?_, List.mem_singleton.mpr rfl⟩, X.w h3 args d, X.w h4 args d, h1, fun sig hs => ?_, va_Nw.use (U := s.setDrawn d) rfl (hi X.2.2.2.2)⟩, X.w h5 args d, trivial⟩ ⟨blindP (K := True), preP X d a2⟩ rfl (by rw [List.length_map]; exact hna) a4 ?_ ?_ hd hf
  · rw [List.mem_singleton.mp hw]
    exact word_at (s := s.setDrawn d) (args := args) hW (lawGood _ h3) (X.w h3 args d)
  · rw [hs] at h2
    exact (Option.some.inj h2).symm
  · show st.map (toV E.2.2.1) = _
    rw [hst, List.map_append, List.map_reverse]
  · show 2 * 0 + _ ≤ 8
    rw [cats]; omega
set_option maxHeartbeats 200000 in
/-- behind a call -/
theorem g_calli {K : Int32 → Mem → Prop} {a : Array Value} {rest : List AV} {mc ms : Nat} {pc' : Nat} (hp : pc' = pc + 3) (hr : ∀ (H : Heap) (locs : List Loc) (ls : Array Slot) (d : Drawn), Rep E n M H → ls.size = nL → va_RunD lw_cs p l e R (s.setDrawn d) m args below meth c H locs cells slots mc ms (F0 m pc ls (st.map (toV E.2.2.1))) (rest.map (toV E.2.2.1)) (PI E n2 K a) (Ab E)) (kk : ∀ (v : Int32) (M2 : Mem), K v M2 → G E p l e R s m args below meth c nL n2 M2 (cells + mc) (slots + ms) Q pc' lv (iV v :: rest)) : G E p l e R s m args below meth c nL n M cells slots Q pc lv st := by
  subst hp
  intro H locs ls d a1 a2 a3 a4
  refine va_calliD a1 (hr H locs ls d a2 a4.1) (A0 := Ab E) (H0 := H) ⟨Nat.le_refl _, fun _ _ _ => rfl, a3⟩ (fun q _ h => h) (fun q h => h) (fun v u t H1 locs1 ht hvm hw hB hz hk hS d' hd' => ?_)
  exact kk v u hw H1 locs1 ls d' hd' (by rw [← ht]; exact hB) hS.2.2 a4
set_option maxHeartbeats 200000 in
theorem g_calll {K : Int64 → Mem → Prop} {a : Array Value} {rest : List AV} {mc ms : Nat} {pc' : Nat} (hp : pc' = pc + 3) (hr : ∀ (H : Heap) (locs : List Loc) (ls : Array Slot) (d : Drawn), Rep E n M H → ls.size = nL → va_RunD lw_cs p l e R (s.setDrawn d) m args below meth c H locs cells slots mc ms (F0 m pc ls (st.map (toV E.2.2.1))) (rest.map (toV E.2.2.1)) (PL E n2 K a) (Ab E)) (kk : ∀ (v : Int64) (M2 : Mem), K v M2 → G E p l e R s m args below meth c nL n2 M2 (cells + mc) (slots + ms) Q pc' lv (lV v :: rest)) : G E p l e R s m args below meth c nL n M cells slots Q pc lv st := by
  subst hp
  intro H locs ls d a1 a2 a3 a4
  refine va_calllD a1 (hr H locs ls d a2 a4.1) (A0 := Ab E) (H0 := H) ⟨Nat.le_refl _, fun _ _ _ => rfl, a3⟩ (fun q _ h => h) (fun q h => h) (fun v u t H1 locs1 ht hvm hw hB hz hk hS d' hd' => ?_)
  exact kk v u hw H1 locs1 ls d' hd' (by rw [← ht]; exact hB) hS.2.2 a4
set_option maxHeartbeats 200000 in
theorem g_calld {K : UInt64 → Mem → Prop} {a : Array Value} {rest : List AV} {mc ms : Nat} {pc' : Nat} (hp : pc' = pc + 3) (hr : ∀ (H : Heap) (locs : List Loc) (ls : Array Slot) (d : Drawn), Rep E n M H → ls.size = nL → va_RunD lw_cs p l e R (s.setDrawn d) m args below meth c H locs cells slots mc ms (F0 m pc ls (st.map (toV E.2.2.1))) (rest.map (toV E.2.2.1)) (PD E n2 K a) (Ab E)) (kk : ∀ (v : UInt64) (M2 : Mem), K v M2 → G E p l e R s m args below meth c nL n2 M2 (cells + mc) (slots + ms) Q pc' lv (dV v :: rest)) : G E p l e R s m args below meth c nL n M cells slots Q pc lv st := by
  subst hp
  intro H locs ls d a1 a2 a3 a4
  refine va_calldD a1 (hr H locs ls d a2 a4.1) (A0 := Ab E) (H0 := H) ⟨Nat.le_refl _, fun _ _ _ => rfl, a3⟩ (fun q _ h => h) (fun q h => h) (fun v u t H1 locs1 ht hvm hw hB hz hk hS d' hd' => ?_)
  exact kk v u hw H1 locs1 ls d' hd' (by rw [← ht]; exact hB) hS.2.2 a4
set_option maxHeartbeats 200000 in
theorem g_callv {K : Mem → Prop} {a : Array Value} {rest : List AV} {mc ms : Nat} {pc' : Nat} (hp : pc' = pc + 3) (hr : ∀ (H : Heap) (locs : List Loc) (ls : Array Slot) (d : Drawn), Rep E n M H → ls.size = nL → va_RunD lw_cs p l e R (s.setDrawn d) m args below meth c H locs cells slots mc ms (F0 m pc ls (st.map (toV E.2.2.1))) (rest.map (toV E.2.2.1)) (PV E n2 K a) (Ab E)) (kk : ∀ (M2 : Mem), K M2 → G E p l e R s m args below meth c nL n2 M2 (cells + mc) (slots + ms) Q pc' lv rest) : G E p l e R s m args below meth c nL n M cells slots Q pc lv st := by
  subst hp
  intro H locs ls d a1 a2 a3 a4
  refine va_callvD a1 (hr H locs ls d a2 a4.1) (A0 := Ab E) (H0 := H) ⟨Nat.le_refl _, fun _ _ _ => rfl, a3⟩ (fun q _ h => h) (fun q h => h) (fun u t H1 locs1 ht hvm hw hB hz hk hS d' hd' => ?_)
  exact kk u hw H1 locs1 ls d' hd' (by rw [← ht]; exact hB) hS.2.2 a4
set_option maxHeartbeats 200000 in
theorem g_callr {K : Nat → Mem → Prop} {a : Array Value} {rest : List AV} {mc ms : Nat} {pc' : Nat} (hp : pc' = pc + 3) (hr : ∀ (H : Heap) (locs : List Loc) (ls : Array Slot) (d : Drawn), Rep E n M H → ls.size = nL → va_RunD lw_cs p l e R (s.setDrawn d) m args below meth c H locs cells slots mc ms (F0 m pc ls (st.map (toV E.2.2.1))) (rest.map (toV E.2.2.1)) (PR E n2 K a) (Ab E)) (kk : ∀ (v : Nat) (M2 : Mem), K v M2 → G E p l e R s m args below meth c nL n2 M2 (cells + mc) (slots + ms) Q pc' lv (rV v :: rest)) : G E p l e R s m args below meth c nL n M cells slots Q pc lv st := by
  subst hp
  intro H locs ls d a1 a2 a3 a4
  refine va_callqD a1 (hr H locs ls d a2 a4.1) (A0 := Ab E) (H0 := H) ⟨Nat.le_refl _, fun _ _ _ => rfl, a3⟩ (fun q _ h => h) (fun q h => h) (fun ro u t H1 locs1 ht hvm hw hB hz hk hS d' hd' => ?_)
  obtain ⟨v, rfl, hw⟩ := hw
  have h := kk v u hw H1 locs1 ls d' hd' (by rw [← ht]; exact hB) hS.2.2 a4
  rw [← rf_va]
  exact h
set_option maxHeartbeats 200000 in
theorem g_objInit {ix r : Nat} {P : Prop} (X : CX E p s m c cc nL own) (hl : Cond.methodLink own ix objectInit ∈ lwG) (hi : Cond.instanceMethod objectInit ∈ lwG ∧ Cond.code objectInit ⟨#[0xb1]⟩ 1 none ∈ lwG) (hd : decode cc pc = .ok (.invokespecial ix, 3)) (h8 : szA st ≤ 8) (hR : 1 ≤ R.frames ∧ 20 ≤ R.locals) (hw : r ≠ 0 ∧ P) (kk : P → G E p l e R s m args below meth c nL n M cells slots Q (pc + 3) lv st) : G E p l e R s m args below meth c nL n M cells slots Q pc lv (rV r :: st) := by
  intro H locs ls d a1 a2 a3 a4
  have Y := X.dr d
  have Z : 2 * (F0 m pc ls (.ref (E.2.2.1 + r) :: st.map (toV E.2.2.1))).monitorRoom + ((st.map (toV E.2.2.1)).map fun v => v.category).sum + 12 ≤ R.locals := by
    show 2 * 0 + _ + 12 ≤ _
    rw [cats]; omega
  have hs : ls.size = c.maxLocals := by rw [X.2.2.1]; exact a4.1
  change W _ _ _ _ _ _ _ _ _ _ _ _ _ _ _ (F0 m pc ls (rf E.2.2.1 r :: st.map (toV E.2.2.1)))
  rw [rf_pos hw.1]
  exact W.objInit (rest := st.map (toV E.2.2.1)) Y.1 Y.2.1 Y.2.2.2.1 (Y.w0 hl args) (Y.w0 hi.1 args) (Y.w0 hi.2 args) rfl hs rfl hd hR.1 Z (kk hw.2 H locs ls d a1 a2 a3 a4)
set_option maxHeartbeats 200000 in
theorem g_widen {k z : Nat} (h1 : cells ≤ k) (h2 : slots ≤ z) (kk : G E p l e R s m args below meth c nL n M k z Q pc lv st) : G E p l e R s m args below meth c nL n M cells slots Q pc lv st := fun H locs ls d a1 a2 a3 a4 => W.widen h1 h2 (kk H locs ls d a1 a2 a3 a4)
end GC
