/-! texts (the class's four constants) and what the JDK's methods over them read -/
abbrev sV (E : Gl) (i : Nat) : AV := .inl (.ref (E.2.2.2.2.1 i))
abbrev tV (E : Gl) (i : Nat) : AV := .inl (.ref (E.2.2.2.2.2.1 i))
abbrev uV (v : Value) : AV := .inl v
section GS
variable {E : Gl} {p : Program} {l : Launch} {e : Env} {R : Room} {s : State} {m : MethodId} {args : Array Value} {below : List Frame} {meth : Method} {c : Code} {nL n : Nat} {M : Mem} {cells slots : Nat} {Q : State → Prop} {cc : ByteArray} {own : String} {pc : Nat} {lv lv' : List (Nat × AV)} {st : List AV}
theorem g_ishr (X : CX E p s m c cc nL own) {x y : Int32} (hd : decode cc pc = .ok (.ishr, 1)) (kk : G E p l e R s m args below meth c nL n M cells slots Q (pc + 1) lv (iV (x >>> (y &&& 31)) :: st)) : G E p l e R s m args below meth c nL n M cells slots Q pc lv (iV y :: iV x :: st) :=
  fun H locs ls d a1 a2 a3 a4 => lv_ishr X.1 X.2.1 hd (kk H locs ls d a1 a2 a3 a4)
theorem g_aload_nS (X : CX E p s m c cc nL own) {k : Fin 4} {a : Nat} (hd : decode cc pc = .ok (.aload_n k, 1)) (j : Nat) (hl : lv[j]? = some ((k : Nat), .inl (.ref a))) (kk : G E p l e R s m args below meth c nL n M cells slots Q (pc + 1) lv (.inl (.ref a) :: st)) : G E p l e R s m args below meth c nL n M cells slots Q pc lv st :=
  fun H locs ls d a1 a2 a3 a4 => lv_aload_n X.1 X.2.1 hd rfl (lvat a4 hl) (kk H locs ls d a1 a2 a3 a4)
theorem g_ldcS {k i : Nat} {tx : String} (X : CX E p s m c cc nL own) (hd : decode cc pc = .ok (.ldc k, 2)) (hK : KK E s → vk_R own k tx (E.2.2.2.2.1 i) s) (kk : G E p l e R s m args below meth c nL n M cells slots Q (pc + 2) lv (sV E i :: st)) : G E p l e R s m args below meth c nL n M cells slots Q pc lv st := by
  intro H locs ls d a1 a2 a3 a4
  have h := vk_R.same (U := s.setDrawn d) rfl (hK X.2.2.2.2)
  have X := X.dr d
  exact va_ldcS X.1 X.2.1 X.2.2.2.1 h hd (kk H locs ls d a1 a2 a3 a4)
/-- what was there before stays -/
theorem g_vaS (h1 : s.heap.size = E.2.2.1 + 1 + n) (h2 : ∀ q, q ≤ E.2.2.1 → s.heap[q]? = E.2.2.2.1[q]?) {H : Heap} {locs : List Loc} {d : Drawn} (a2 : Rep E n M H) (a3 : ∀ q ∈ locs, Ab E q.base) : va_S (Ab E) (s.setDrawn d).heap H locs := by
  refine ⟨?_, fun q hq hA => ?_, a3⟩
  · show s.heap.size ≤ H.size
    rw [h1, a2.1]
    exact Nat.le_refl _
  · have hq2 : q ≤ E.2.2.1 := Nat.not_lt.mp hA
    exact (a2.2.1 q hq2).trans (h2 q hq2).symm
theorem g_kept (h2 : ∀ q, q ≤ E.2.2.1 → s.heap[q]? = E.2.2.2.1[q]?) (d : Drawn) : ∀ a : Nat, a < E.2.2.2.1.size → ¬ Ab E a → (s.setDrawn d).heap[a]? = E.2.2.2.1[a]? := fun a _ hA => h2 a (Nat.not_lt.mp hA)
set_option maxHeartbeats 200000 in
theorem g_getsC {ix : Nat} (X : CX E p s m c cc nL own) (h1 : s.heap.size = E.2.2.1 + 1 + n) (h2 : ∀ q, q ≤ E.2.2.1 → s.heap[q]? = E.2.2.2.1[q]?) (hl : Cond.fieldLink own ix "java/lang/String" "COMPACT_STRINGS" "Z" ∈ lwG) (hd : decode cc pc = .ok (.getstatic ix, 3)) (kk : G E p l e R s m args below meth c nL n M cells slots Q (pc + 3) lv (iV 1 :: st)) : G E p l e R s m args below meth c nL n M cells slots Q pc lv st := by
  intro H locs ls d a1 a2 a3 a4
  have X := X.dr d
  have hZ : va_Z "java/lang/String" "COMPACT_STRINGS" "Z" (.int 1) (Ab E) (s.setDrawn d) (s.setDrawn d).heap := X.2.2.2.2.2.2.2.2.2.2.2.2.2.1.kept (g_kept h2 d)
  exact va_gets X.1 X.2.1 hZ (g_vaS h1 h2 a2 a3) X.2.2.2.1 (X.w0 hl args) (fun _ h => h) hd (kk H locs ls d a1 a2 a3 a4)
set_option maxHeartbeats 200000 in
theorem g_getsF {P : Value → Prop} {ix : Nat} (X : CX E p s m c cc nL own) (h1 : s.heap.size = E.2.2.1 + 1 + n) (h2 : ∀ q, q ≤ E.2.2.1 → s.heap[q]? = E.2.2.2.1[q]?) (hl : Cond.fieldLink own ix "jdk/internal/util/Preconditions" "SIOOBE_FORMATTER" "Ljava/util/function/BiFunction;" ∈ lwG) (hd : decode cc pc = .ok (.getstatic ix, 3)) (hw : ∀ v : Value, v.category = 1 → P v) (kk : ∀ v : Value, v.category = 1 → P v → G E p l e R s m args below meth c nL n M cells slots Q (pc + 3) lv (uV v :: st)) : G E p l e R s m args below meth c nL n M cells slots Q pc lv st := by
  intro H locs ls d a1 a2 a3 a4
  have X := X.dr d
  rcases X.2.2.2.2.2.2.2.2.2.2.2.2.2.2.1.kept (g_kept h2 d) with hZ | ⟨t, hZ⟩
  · exact va_gets X.1 X.2.1 hZ (g_vaS h1 h2 a2 a3) X.2.2.2.1 (X.w0 hl args) (fun _ h => h) hd (kk _ rfl (hw _ rfl) H locs ls d a1 a2 a3 a4)
  · exact va_gets X.1 X.2.1 hZ (g_vaS h1 h2 a2 a3) X.2.2.2.1 (X.w0 hl args) (fun _ h => h) hd (kk _ rfl (hw _ rfl) H locs ls d a1 a2 a3 a4)
set_option maxHeartbeats 200000 in
theorem g_getSV {ix i : Nat} (X : CX E p s m c cc nL own) (h1 : s.heap.size = E.2.2.1 + 1 + n) (h2 : ∀ q, q ≤ E.2.2.1 → s.heap[q]? = E.2.2.2.1[q]?) (hl : Cond.fieldLink own ix "java/lang/String" "value" "[B" ∈ lwG) (hd : decode cc pc = .ok (.getfield ix, 3)) (hi : i < 4) (kk : G E p l e R s m args below meth c nL n M cells slots Q (pc + 3) lv (tV E i :: st)) : G E p l e R s m args below meth c nL n M cells slots Q pc lv (sV E i :: st) := by
  intro H locs ls d a1 a2 a3 a4
  have X := X.dr d
  have hE := ((X.2.2.2.2.2.2.2.2.2.2.2.1.1 i hi).2.2.1).kept (g_kept h2 d)
  exact vk_getf X.1 X.2.1 hE (g_vaS h1 h2 a2 a3) X.2.2.2.1 (X.w0 hl args) (fun _ h => h) hd (kk H locs ls d a1 a2 a3 a4)
set_option maxHeartbeats 200000 in
theorem g_getSC {ix i : Nat} (X : CX E p s m c cc nL own) (h1 : s.heap.size = E.2.2.1 + 1 + n) (h2 : ∀ q, q ≤ E.2.2.1 → s.heap[q]? = E.2.2.2.1[q]?) (hl : Cond.fieldLink own ix "java/lang/String" "coder" "B" ∈ lwG) (hd : decode cc pc = .ok (.getfield ix, 3)) (hi : i < 4) (kk : G E p l e R s m args below meth c nL n M cells slots Q (pc + 3) lv (iV 0 :: st)) : G E p l e R s m args below meth c nL n M cells slots Q pc lv (sV E i :: st) := by
  intro H locs ls d a1 a2 a3 a4
  have X := X.dr d
  have hE := ((X.2.2.2.2.2.2.2.2.2.2.2.1.1 i hi).2.1).kept (g_kept h2 d)
  exact vk_getf X.1 X.2.1 hE (g_vaS h1 h2 a2 a3) X.2.2.2.1 (X.w0 hl args) (fun _ h => h) hd (kk H locs ls d a1 a2 a3 a4)
set_option maxHeartbeats 200000 in
theorem g_alenT {i : Nat} (X : CX E p s m c cc nL own) (h1 : s.heap.size = E.2.2.1 + 1 + n) (h2 : ∀ q, q ≤ E.2.2.1 → s.heap[q]? = E.2.2.2.1[q]?) (hd : decode cc pc = .ok (.arraylength, 1)) (hi : i < 4) (kk : G E p l e R s m args below meth c nL n M cells slots Q (pc + 1) lv (iV (nI (lenS.getD i 0)) :: st)) : G E p l e R s m args below meth c nL n M cells slots Q pc lv (tV E i :: st) := by
  intro H locs ls d a1 a2 a3 a4
  have X := X.dr d
  have hE := ((X.2.2.2.2.2.2.2.2.2.2.2.1.1 i hi).2.2.2).kept (g_kept h2 d)
  exact va_tlen X.1 X.2.1 hE (g_vaS h1 h2 a2 a3) rfl hd (kk H locs ls d a1 a2 a3 a4)
set_option maxHeartbeats 200000 in
theorem g_baldT {P : Prop} {i : Nat} {x : Int32} (X : CX E p s m c cc nL own) (h1 : s.heap.size = E.2.2.1 + 1 + n) (h2 : ∀ q, q ≤ E.2.2.1 → s.heap[q]? = E.2.2.2.1[q]?) (hd : decode cc pc = .ok (.baload, 1)) (hi : i < 4) (hw : vp_in x (lenS.getD i 0) ∧ P) (kk : P → G E p l e R s m args below meth c nL n M cells slots Q (pc + 1) lv (iV ((bytS.getD i []).getD x.toNatClampNeg 0) :: st)) : G E p l e R s m args below meth c nL n M cells slots Q pc lv (iV x :: tV E i :: st) := by
  intro H locs ls d a1 a2 a3 a4
  have X := X.dr d
  have hE := ((X.2.2.2.2.2.2.2.2.2.2.2.1.1 i hi).2.2.2).kept (g_kept h2 d)
  exact va_tb X.1 X.2.1 hE (g_vaS h1 h2 a2 a3) hw.1 rfl hd (kk hw.2 H locs ls d a1 a2 a3 a4)
set_option maxHeartbeats 200000 in
theorem g_runT {y : MethodName} {bytes : ByteArray} {maxL na ix i : Nat} {ret : Option FieldType} {rm : Room} {As rest : List AV} {Qc : Array Value → State → Outcome → State → Prop} {H : Heap} {locs : List Loc} {ls : Array Slot} {d : Drawn} (X : CX E p s m c cc nL own) (hy : CW own ix y bytes maxL ret na) (hi : Cond.instanceMethod y ∈ lwG ∧ Cond.selects "java/lang/String" y y ∈ lwG) (hR : RmOk rm R maxL) (hd : decode cc pc = .ok (.invokevirtual ix, 3)) (hM : CT E l y bytes maxL ret rm n M (sV E i :: As) Qc) (hr : i < 4) (hna : As.length = na) (hst : st = As.reverse ++ sV E i :: rest) (h8 : szA rest ≤ 8) (hf : cells + rm.cells ≤ R.cells ∧ slots + rm.slots ≤ R.slots) (a2 : Rep E n M H) (a4 : ls.size = nL) :
    va_RunD lw_cs p l e R (s.setDrawn d) m args below meth c H locs cells slots rm.cells rm.slots (F0 m pc ls (st.map (toV E.2.2.1))) (rest.map (toV E.2.2.1)) (Qc ((sV E i :: As).map (toV E.2.2.1)).toArray) (Ab E) := by
  have X2 := X.dr d
  have hcell : ∃ cellB : Cell, H[E.2.2.2.2.1 i]? = some cellB ∧ cellB.vm.isStatics = false ∧ (s.setDrawn d).vm.findClass "java/lang/String" = some cellB.cls := by
    obtain ⟨cell, g1, g2, g3, -⟩ := ((X2.2.2.2.2.2.2.2.2.2.2.2.1.1 i hr).1).kept (H1 := H) (fun a _ hA => a2.2.1 a (Nat.not_lt.mp hA))
    exact ⟨cell, g1, g2, g3⟩
  refine va_runV_D (C := "java/lang/String") (b := E.2.2.2.2.1 i) (As := As.map (toV E.2.2.1)) (Ts := lwG) ⟨X.1, X.2.1, X.2.2.1, X.2.2.2.1, fun w h => X.w h args d⟩ hM ⟨cb_of X d hy hR, X.w hi.1 args d, X.w hi.2 args d⟩ ⟨blindP (K := True), hcell, fun U hU hW => ?_⟩ rfl (by rw [List.length_map]; exact hna) a4 ?_ ?_ hd hf
  · exact preP (av := sV E i :: As) X d a2 U hU hW
  · show st.map (toV E.2.2.1) = _
    rw [hst, List.map_append, List.map_reverse, List.map_cons]
    rfl
  · show 2 * 0 + _ ≤ 8
    rw [cats]; omega
end GS
