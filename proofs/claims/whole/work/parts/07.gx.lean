/-! names for values and memories; the JDK's natives over numbers -/
section GX
variable {E : Gl} {p : Program} {l : Launch} {e : Env} {R : Room} {s : State} {m : MethodId} {args : Array Value} {below : List Frame} {meth : Method} {c : Code} {nL n : Nat} {M : Mem} {cells slots : Nat} {Q : State → Prop} {cc : ByteArray} {own : String} {pc : Nat} {lv : List (Nat × AV)} {st : List AV}
theorem g_topI {v : Int32} (k : ∀ x, x = v → G E p l e R s m args below meth c nL n M cells slots Q pc lv (iV x :: st)) : G E p l e R s m args below meth c nL n M cells slots Q pc lv (iV v :: st) := k v rfl
theorem g_topJ {v : Int64} (k : ∀ x, x = v → G E p l e R s m args below meth c nL n M cells slots Q pc lv (lV x :: st)) : G E p l e R s m args below meth c nL n M cells slots Q pc lv (lV v :: st) := k v rfl
theorem g_topD {v : UInt64} (k : ∀ x, x = v → G E p l e R s m args below meth c nL n M cells slots Q pc lv (dV x :: st)) : G E p l e R s m args below meth c nL n M cells slots Q pc lv (dV v :: st) := k v rfl
theorem g_topF {v : UInt32} (k : ∀ x, x = v → G E p l e R s m args below meth c nL n M cells slots Q pc lv (fV x :: st)) : G E p l e R s m args below meth c nL n M cells slots Q pc lv (fV v :: st) := k v rfl
theorem g_topR {v : Nat} (k : ∀ x, x = v → G E p l e R s m args below meth c nL n M cells slots Q pc lv (rV x :: st)) : G E p l e R s m args below meth c nL n M cells slots Q pc lv (rV v :: st) := k v rfl
theorem g_topM (k : ∀ M2, M2 = M → G E p l e R s m args below meth c nL n M2 cells slots Q pc lv st) : G E p l e R s m args below meth c nL n M cells slots Q pc lv st := k M rfl
set_option maxHeartbeats 200000 in
theorem g_natL2D {P : Prop} {ix : Nat} {b : Int64} (X : CX E p s m c cc nL own) (h1 : Cond.methodLink own ix ⟨"java/lang/Double", "longBitsToDouble", "(J)D"⟩ ∈ lwG) (h2 : Cond.native ⟨"java/lang/Double", "longBitsToDouble", "(J)D"⟩ ∈ lwG) (h3 : Cond.static ⟨"java/lang/Double", "longBitsToDouble", "(J)D"⟩ ∈ lwG) (h4 : Cond.initialized "java/lang/Double" ∈ lwG) (hd : decode cc pc = .ok (.invokestatic ix, 3)) (h8 : szA st ≤ 8) (hR : 1 ≤ R.frames ∧ 24 ≤ R.locals) (hw : vn_snl2d b = false ∧ P) (kk : P → G E p l e R s m args below meth c nL n M cells slots Q (pc + 3) lv (dV b.toUInt64 :: st)) : G E p l e R s m args below meth c nL n M cells slots Q pc lv (lV b :: st) := by
  intro H locs ls d a1 a2 a3 a4
  have X := X.dr d
  have hml : c.maxLocals = ls.size := by rw [X.2.2.1]; exact a4.1.symm
  have hz : ((st.map (toV E.2.2.1)).map fun v => v.category).sum + 15 ≤ R.locals := by rw [cats]; omega
  exact vn_l2d X.1 X.2.1 hml X.2.2.2.1 (X.w0 h1 args) (X.w0 h2 args) (X.w0 h3 args) (X.w0 h4 args) hw.1 hR.1 hz hd (kk hw.2 H locs ls d a1 a2 a3 a4)
set_option maxHeartbeats 200000 in
theorem g_natD2L {ix : Nat} {b : UInt64} (X : CX E p s m c cc nL own) (h1 : Cond.methodLink own ix ⟨"java/lang/Double", "doubleToRawLongBits", "(D)J"⟩ ∈ lwG) (h2 : Cond.native ⟨"java/lang/Double", "doubleToRawLongBits", "(D)J"⟩ ∈ lwG) (h3 : Cond.static ⟨"java/lang/Double", "doubleToRawLongBits", "(D)J"⟩ ∈ lwG) (h4 : Cond.initialized "java/lang/Double" ∈ lwG) (hd : decode cc pc = .ok (.invokestatic ix, 3)) (h8 : szA st ≤ 8) (hR : 1 ≤ R.frames ∧ 24 ≤ R.locals) (kk : G E p l e R s m args below meth c nL n M cells slots Q (pc + 3) lv (lV b.toInt64 :: st)) : G E p l e R s m args below meth c nL n M cells slots Q pc lv (dV b :: st) := by
  intro H locs ls d a1 a2 a3 a4
  have X := X.dr d
  have hml : c.maxLocals = ls.size := by rw [X.2.2.1]; exact a4.1.symm
  have hz : ((st.map (toV E.2.2.1)).map fun v => v.category).sum + 15 ≤ R.locals := by rw [cats]; omega
  exact vn_d2l X.1 X.2.1 hml X.2.2.2.1 (X.w0 h1 args) (X.w0 h2 args) (X.w0 h3 args) (X.w0 h4 args) hR.1 hz hd (kk H locs ls d a1 a2 a3 a4)
set_option maxHeartbeats 200000 in
theorem g_natF2I {ix : Nat} {b : UInt32} (X : CX E p s m c cc nL own) (h1 : Cond.methodLink own ix ⟨"java/lang/Float", "floatToRawIntBits", "(F)I"⟩ ∈ lwG) (h2 : Cond.native ⟨"java/lang/Float", "floatToRawIntBits", "(F)I"⟩ ∈ lwG) (h3 : Cond.static ⟨"java/lang/Float", "floatToRawIntBits", "(F)I"⟩ ∈ lwG) (h4 : Cond.initialized "java/lang/Float" ∈ lwG) (hd : decode cc pc = .ok (.invokestatic ix, 3)) (h8 : szA st ≤ 8) (hR : 1 ≤ R.frames ∧ 24 ≤ R.locals) (kk : G E p l e R s m args below meth c nL n M cells slots Q (pc + 3) lv (iV b.toInt32 :: st)) : G E p l e R s m args below meth c nL n M cells slots Q pc lv (fV b :: st) := by
  intro H locs ls d a1 a2 a3 a4
  have X := X.dr d
  have hml : c.maxLocals = ls.size := by rw [X.2.2.1]; exact a4.1.symm
  have hz : ((st.map (toV E.2.2.1)).map fun v => v.category).sum + 15 ≤ R.locals := by rw [cats]; omega
  exact vn_f2i X.1 X.2.1 hml X.2.2.2.1 (X.w0 h1 args) (X.w0 h2 args) (X.w0 h3 args) (X.w0 h4 args) hR.1 hz hd (kk H locs ls d a1 a2 a3 a4)
end GX
