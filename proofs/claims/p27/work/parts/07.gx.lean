/-! names for values and memories; the JDK's natives over numbers -/
section GX
variable {E : Gl} {p : Program} {l : Launch} {e : Env} {R : Room} {s : State} {m : MethodId} {args : Array Value} {below : List Frame} {meth : Method} {c : Code} {nL n : Nat} {M : Mem} {cells slots : Nat} {Q : State → Prop} {cc : ByteArray} {own : String} {pc : Nat} {lv : List (Nat × AV)} {st : List AV}
theorem g_topI {v : Int32} (k : ∀ x, x = v → G E p l e R s m args below meth c nL n M cells slots Q pc lv (iV x :: st)) : G E p l e R s m args below meth c nL n M cells slots Q pc lv (iV v :: st) := k v rfl
theorem g_topJ {v : Int64} (k : ∀ x, x = v → G E p l e R s m args below meth c nL n M cells slots Q pc lv (lV x :: st)) : G E p l e R s m args below meth c nL n M cells slots Q pc lv (lV v :: st) := k v rfl
theorem g_topD {v : UInt64} (k : ∀ x, x = v → G E p l e R s m args below meth c nL n M cells slots Q pc lv (dV x :: st)) : G E p l e R s m args below meth c nL n M cells slots Q pc lv (dV v :: st) := k v rfl
theorem g_topF {v : UInt32} (k : ∀ x, x = v → G E p l e R s m args below meth c nL n M cells slots Q pc lv (fV x :: st)) : G E p l e R s m args below meth c nL n M cells slots Q pc lv (fV v :: st) := k v rfl
theorem g_topR {v : Nat} (k : ∀ x, x = v → G E p l e R s m args below meth c nL n M cells slots Q pc lv (rV x :: st)) : G E p l e R s m args below meth c nL n M cells slots Q pc lv (rV v :: st) := k v rfl
theorem g_topM (k : ∀ M2, M2 = M → G E p l e R s m args below meth c nL n M2 cells slots Q pc lv st) : G E p l e R s m args below meth c nL n M cells slots Q pc lv st := k M rfl
end GX
