/-! the script's cell (p27) -/
abbrev xV (b : Nat) : AV := .inl (.ref b)
section GLX
variable {E : Gl} {p : Program} {l : Launch} {e : Env} {R : Room} {s : State} {m : MethodId} {args : Array Value} {below : List Frame} {meth : Method} {c : Code} {nL n : Nat} {M : Mem} {cells slots : Nat} {Q : State → Prop} {cc : ByteArray} {own : String} {pc : Nat} {lv lv' : List (Nat × AV)} {st : List AV}
theorem g_lsub (X : CX E p s m c cc nL own) {x y : Int64} (hd : decode cc pc = .ok (.lsub, 1)) (kk : G E p l e R s m args below meth c nL n M cells slots Q (pc + 1) lv (lV (x - y) :: st)) : G E p l e R s m args below meth c nL n M cells slots Q pc lv (lV y :: lV x :: st) :=
  fun H locs ls d a1 a2 a3 a4 => lv_lsub X.1 X.2.1 hd (kk H locs ls d a1 a2 a3 a4)
theorem g_lmul (X : CX E p s m c cc nL own) {x y : Int64} (hd : decode cc pc = .ok (.lmul, 1)) (kk : G E p l e R s m args below meth c nL n M cells slots Q (pc + 1) lv (lV (x * y) :: st)) : G E p l e R s m args below meth c nL n M cells slots Q pc lv (lV y :: lV x :: st) :=
  fun H locs ls d a1 a2 a3 a4 => lv_lmul X.1 X.2.1 hd (kk H locs ls d a1 a2 a3 a4)
theorem g_lstore (X : CX E p s m c cc nL own) {k : Nat} {x : Int64} (hd : decode cc pc = .ok (.lstore k, 2)) (hn : k + 1 < nL) (hl : (k, lV x) :: keep2 k lv = lv') (kk : G E p l e R s m args below meth c nL n M cells slots Q (pc + 2) lv' st) : G E p l e R s m args below meth c nL n M cells slots Q pc lv (lV x :: st) :=
  fun H locs ls d a1 a2 a3 a4 => lv_lstore X.1 X.2.1 hd a4 hn (by rw [lvm_keep2]; subst hl; rfl) (fun ls' a4' => kk H locs ls' d a1 a2 a3 a4')
theorem CX.sx (X : CX E p s m c cc nL own) : SXE E s := X.2.2.2.2.2.2.2.2.2.2.2.2.2.2.2
theorem sx_vaS (S : SXE E s) {H : Heap} {locs : List Loc} (a2 : Rep E n M H) (a3 : ∀ q ∈ locs, Ab E q.base) : va_S (Ab E) E.2.2.2.1 H locs := by
  refine ⟨by rw [S.2.2.1, a2.1]; omega, fun q hq hA => a2.2.1 q (Nat.not_lt.mp hA), a3⟩
set_option maxHeartbeats 200000 in
theorem g_sld {P : Prop} {i : Int32} (X : CX E p s m c cc nL own) (hOld : ∀ q, q ≤ E.2.2.1 → s.heap[q]? = E.2.2.2.1[q]?) (hd : decode cc pc = .ok (.iaload, 1)) (hw : vp_in i (xL E) ∧ P) (kk : P → G E p l e R s m args below meth c nL n M cells slots Q (pc + 1) lv (iV (xX E i.toNatClampNeg) :: st)) : G E p l e R s m args below meth c nL n M cells slots Q pc lv (iV i :: xV (xB E) :: st) := by
  intro H locs ls d a1 a2 a3 a4
  have S := X.sx
  have hX : va_X (xB E) (xL E) (xX E) (s.setDrawn d) E.2.2.2.1 := S.1
  have hS := sx_vaS S a2 a3
  exact va_sld X.1 X.2.1 hX (by rw [S.2.2.1]; have := S.2.1; omega) (Nat.not_lt.mpr S.2.1) hS hw.1 hd (kk hw.2 H locs ls d a1 a2 a3 a4)
set_option maxHeartbeats 200000 in
theorem g_slen (X : CX E p s m c cc nL own) (hOld : ∀ q, q ≤ E.2.2.1 → s.heap[q]? = E.2.2.2.1[q]?) (hd : decode cc pc = .ok (.arraylength, 1)) (kk : G E p l e R s m args below meth c nL n M cells slots Q (pc + 1) lv (iV (nI (xL E)) :: st)) : G E p l e R s m args below meth c nL n M cells slots Q pc lv (xV (xB E) :: st) := by
  intro H locs ls d a1 a2 a3 a4
  have S := X.sx
  have hX : va_X (xB E) (xL E) (xX E) (s.setDrawn d) E.2.2.2.1 := S.1
  have hS := sx_vaS S a2 a3
  exact va_slen X.1 X.2.1 hX (by rw [S.2.2.1]; have := S.2.1; omega) (Nat.not_lt.mpr S.2.1) hS hd (kk H locs ls d a1 a2 a3 a4)
end GLX
theorem wc_L_cell : Cond.code yL_cell cL_cell 2 (some .int) ∈ lwG := lwG_of (tb3 _ (List.mem_of_getElem? (i := 81) (by decide +kernel))) (by decide +kernel)
theorem wk_L_7 : Cond.constant RL 7 (2480021) ∈ lwG := lwG_of (tb3 _ (List.mem_of_getElem? (i := 82) (by decide +kernel))) (by decide +kernel)
theorem dL_cell_0 : decode cL_cell 0 = .ok (.iload_n 1, 1) := by decide +kernel
theorem dL_cell_1 : decode cL_cell 1 = .ok (.aload_n 0, 1) := by decide +kernel
theorem dL_cell_2 : decode cL_cell 2 = .ok (.arraylength, 1) := by decide +kernel
theorem dL_cell_3 : decode cL_cell 3 = .ok (.if_icmp .ge 9, 3) := by decide +kernel
theorem dL_cell_6 : decode cL_cell 6 = .ok (.aload_n 0, 1) := by decide +kernel
theorem dL_cell_7 : decode cL_cell 7 = .ok (.iload_n 1, 1) := by decide +kernel
theorem dL_cell_8 : decode cL_cell 8 = .ok (.iaload, 1) := by decide +kernel
theorem dL_cell_9 : decode cL_cell 9 = .ok (.goto 11, 3) := by decide +kernel
theorem dL_cell_12 : decode cL_cell 12 = .ok (.ldc 7, 2) := by decide +kernel
theorem dL_cell_14 : decode cL_cell 14 = .ok (.iload_n 1, 1) := by decide +kernel
theorem dL_cell_15 : decode cL_cell 15 = .ok (.imul, 1) := by decide +kernel
theorem dL_cell_16 : decode cL_cell 16 = .ok (.sipush 1193, 3) := by decide +kernel
theorem dL_cell_19 : decode cL_cell 19 = .ok (.iadd, 1) := by decide +kernel
theorem dL_cell_20 : decode cL_cell 20 = .ok (.ireturn, 1) := by decide +kernel
abbrev rmL_cell : Room := { frames := 0, cells := 0, slots := 0, locals := 0 }
/-- a cell of the script, or what stands in its place: any number -/
def w_L_cell (n : Nat) (M : Mem) (p2 : Int32) (K : Int32 → Mem → Prop) : Prop := 0 ≤ p2 ∧ ∀ x, K x M
theorem lt_of_nle {x y : Int32} (h : ¬ y ≤ x) : x < y := by
  have h1 : ¬ y.toInt ≤ x.toInt := fun q => h (Int32.le_iff_toInt_le.mpr q)
  exact Int32.lt_iff_toInt_lt.mpr (by omega)
theorem cell_in {i : Int32} {L : Nat} (h0 : 0 ≤ i) (hL : L < 2 ^ 31) (h : i < nI L) : vp_in i L := by
  intro q
  rcases q with q | q
  · exact absurd q (Int32.not_lt.mpr h0)
  · have h1 := Int32.lt_iff_toInt_lt.mp h
    have h2 : (nI L).toInt = (L : Int) := nI_toInt hL
    have h3 : i.toNatClampNeg = i.toInt.toNat := rfl
    have h4 : (0 : Int32).toInt ≤ i.toInt := Int32.le_iff_toInt_le.mp h0
    have h5 : (0 : Int32).toInt = 0 := by decide
    omega
set_option maxHeartbeats 4000000 in
set_option maxRecDepth 20000 in
theorem c_L_cell (l : Launch) (E : Gl) (n : Nat) (M : Mem) (p2 : Int32) (K : Int32 → Mem → Prop) (hw : w_L_cell n M p2 K) : CT E l yL_cell cL_cell 2 (some .int) rmL_cell n M [xV (xB E), iV p2] (PI E n K) := by
  refine g_met l (by decide) (Nat.le_of_ble_eq_true rfl) ?_
  intro p e s m args below meth c X hr hlk hnm hSz hOld
  change CX E p s m c _ _ RL at X
  refine g_iload_n X dL_cell_0 1 rfl ?_
  refine g_aload_nS X dL_cell_1 0 rfl ?_
  refine g_slen X hOld dL_cell_2 ?_
  refine g_icmp_ge X 12 dL_cell_3 (by decide) ⟨fun h => h, fun h => h⟩ (fun hc => ?_) (fun hc => ?_)
  · refine g_ldc X (2480021 : Int32) dL_cell_12 wk_L_7 ?_
    refine g_iload_n X dL_cell_14 1 rfl ?_
    refine g_imul X dL_cell_15 ?_
    refine g_sipush X (1193 : Int32) dL_cell_16 (by decide) ?_
    refine g_iadd X dL_cell_19 ?_
    exact g_iret X hr hlk hSz hOld (Nat.le_refl _) dL_cell_20 (hw.2 _)
  · refine g_aload_nS X dL_cell_6 0 rfl ?_
    refine g_iload_n X dL_cell_7 1 rfl ?_
    refine g_sld X hOld dL_cell_8 ⟨cell_in hw.1 X.sx.2.2.2 (lt_of_nle hc), trivial⟩ (fun _ => ?_)
    refine g_goto X 20 dL_cell_9 (by decide) ?_
    exact g_iret X hr hlk hSz hOld (Nat.le_refl _) dL_cell_20 (hw.2 _)
