/-! methods of classes some of whose methods the machine runs by entries of its own (java/lang/Float) -/
theorem MetD_ofWF {cs : List Choice} {l : Launch} {y : MethodName} {ws ws' : List Cond} {rm : Room} {Pc : Array Value → State → Prop} {Qc : Array Value → State → Outcome → State → Prop} {mc ms : Nat} {free : Addr → Prop} {cc : ByteArray} {maxL : Nat} {ret : Option FieldType}
    (hy : plainFor y = true) (hw : ws = Cond.code y cc maxL ret :: ws')
    (body : ∀ p e s m args below meth c s₁, BodyLoose p l y (headSpec ws rm) cc maxL ret e s m args below meth c s₁ → c.maxLocals = maxL → Pc args s → s.drawn.sameBut s.drawn cs →
      W p l e (headSpec ws rm).room (s.setDrawn s.drawn) m args below meth c s.heap [] 0 0 (MQD cs below Qc args s mc ms free) (entryFrame m args maxL)) : MetD cs l y ws rm Pc Qc mc ms free := by
  refine MetFree.of_bodySF (code := cc) (maxLocals := maxL) (ret := ret) hy ?_ ?_
  · intro args s m h hn
    obtain ⟨meth, c, h1, h2, h3, h4, h5, h6, -, -⟩ := Cond.code_spec hn (atoms_spec (ws := ws) h _ (by rw [hw]; exact List.mem_cons_self))
    exact ⟨meth, c, h1, h2, h3, h4, h5, h6⟩
  · intro p e s m args below meth c s₁ B hml hP _
    have hh0 : s₁.heap = s.heap := by rw [B.state]; rfl
    have X0 : Stand p l e (headSpec ws rm).room (s.setDrawn s.drawn) m args below meth c s₁ [] 0 0 := Stand.of_body B
    obtain ⟨t, a1, d, hd, o, b1, b2, b3, b4⟩ := body p e s m args below meth c s₁ B hml hP (Drawn.sameBut.refl _ _) s₁ hh0 X0
    exact ⟨t, o, a1, b1, b2, d, hd, b3, b4⟩
section GF
variable {E : Gl} {n : Nat} {M : Mem} {cc : ByteArray}
set_option maxHeartbeats 200000 in
theorem g_metF {y : MethodName} {maxL : Nat} {ret : Option FieldType} {rm : Room} {av : List AV} {Qc : Array Value → State → Outcome → State → Prop} (l : Launch) (hy : plainFor y = true) (hlen : szA av ≤ maxL)
    (body : ∀ (p : Program) (e : Env) (s : State) (m : MethodId) (args : Array Value) (below : List Frame) (meth : Method) (c : Code), CX E p s m c cc maxL y.cls → meth.sig.returnType = ret → meth.locks = false → meth.name = y.name → s.heap.size = E.2.2.1 + 1 + n → (∀ q, q ≤ E.2.2.1 → s.heap[q]? = E.2.2.2.1[q]?) → G E p l e rm s m args below meth c maxL n M 0 0 (MQD lw_cs below Qc args s rm.cells rm.slots (Ab E)) 0 (lvE 0 av) []) :
    CT E l y cc maxL ret rm n M av Qc := by
  refine MetD_ofWF (cc := cc) (maxL := maxL) (ret := ret) (ws' := []) hy rfl ?_
  intro p e s m args below meth c s₁ B hml hv hd0
  obtain ⟨rfl, hR, hK⟩ := hv
  have hl := lv_entry (av.map (toV E.2.2.1)) (n := maxL) (by rw [szA_sl]; exact hlen)
  rw [lg_entry_eq]
  rw [lvE_args] at hl
  exact body p e s m _ below meth c ⟨B.exec, B.bytes, hml, findClass_of_methodNamed B.named, hK⟩ B.returns B.notSynchronized (name_of_methodNamed B.named B.method).1 hR.1 hR.2.1 s.heap [] _ _ hd0 hR (fun q h => absurd h List.not_mem_nil) hl
end GF
