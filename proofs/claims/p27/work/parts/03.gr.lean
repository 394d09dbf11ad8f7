/-! the rows of arithmetic, branches -/
section GA
variable {E : Gl} {p : Program} {l : Launch} {e : Env} {R : Room} {s : State} {m : MethodId} {args : Array Value} {below : List Frame} {meth : Method} {c : Code} {nL n : Nat} {M : Mem} {cells slots : Nat} {Q : State → Prop} {cc : ByteArray} {own : String} {pc : Nat} {lv lv' : List (Nat × AV)} {st : List AV}
theorem g_iadd (X : CX E p s m c cc nL own) {x y : Int32} (hd : decode cc pc = .ok (.iadd, 1)) (kk : G E p l e R s m args below meth c nL n M cells slots Q (pc + 1) lv (iV (x + y) :: st)) : G E p l e R s m args below meth c nL n M cells slots Q pc lv (iV y :: iV x :: st) :=
  fun H locs ls d a1 a2 a3 a4 => lv_iadd X.1 X.2.1 hd (kk H locs ls d a1 a2 a3 a4)
theorem g_isub (X : CX E p s m c cc nL own) {x y : Int32} (hd : decode cc pc = .ok (.isub, 1)) (kk : G E p l e R s m args below meth c nL n M cells slots Q (pc + 1) lv (iV (x - y) :: st)) : G E p l e R s m args below meth c nL n M cells slots Q pc lv (iV y :: iV x :: st) :=
  fun H locs ls d a1 a2 a3 a4 => lv_isub X.1 X.2.1 hd (kk H locs ls d a1 a2 a3 a4)
theorem g_imul (X : CX E p s m c cc nL own) {x y : Int32} (hd : decode cc pc = .ok (.imul, 1)) (kk : G E p l e R s m args below meth c nL n M cells slots Q (pc + 1) lv (iV (x * y) :: st)) : G E p l e R s m args below meth c nL n M cells slots Q pc lv (iV y :: iV x :: st) :=
  fun H locs ls d a1 a2 a3 a4 => lv_imul X.1 X.2.1 hd (kk H locs ls d a1 a2 a3 a4)
theorem g_iand (X : CX E p s m c cc nL own) {x y : Int32} (hd : decode cc pc = .ok (.iand, 1)) (kk : G E p l e R s m args below meth c nL n M cells slots Q (pc + 1) lv (iV (x &&& y) :: st)) : G E p l e R s m args below meth c nL n M cells slots Q pc lv (iV y :: iV x :: st) :=
  fun H locs ls d a1 a2 a3 a4 => lv_iand X.1 X.2.1 hd (kk H locs ls d a1 a2 a3 a4)
theorem g_ishl (X : CX E p s m c cc nL own) {x y : Int32} (hd : decode cc pc = .ok (.ishl, 1)) (kk : G E p l e R s m args below meth c nL n M cells slots Q (pc + 1) lv (iV (x <<< (y &&& 31)) :: st)) : G E p l e R s m args below meth c nL n M cells slots Q pc lv (iV y :: iV x :: st) :=
  fun H locs ls d a1 a2 a3 a4 => lv_ishl X.1 X.2.1 hd (kk H locs ls d a1 a2 a3 a4)
theorem g_irem {P : Prop} (X : CX E p s m c cc nL own) {x y : Int32} (hd : decode cc pc = .ok (.irem, 1)) (hw : ¬ y = 0 ∧ P) (kk : P → G E p l e R s m args below meth c nL n M cells slots Q (pc + 1) lv (iV (x - x / y * y) :: st)) : G E p l e R s m args below meth c nL n M cells slots Q pc lv (iV y :: iV x :: st) :=
  fun H locs ls d a1 a2 a3 a4 => lv_irem X.1 X.2.1 hd hw.1 (kk hw.2 H locs ls d a1 a2 a3 a4)
theorem g_ladd (X : CX E p s m c cc nL own) {x y : Int64} (hd : decode cc pc = .ok (.ladd, 1)) (kk : G E p l e R s m args below meth c nL n M cells slots Q (pc + 1) lv (lV (x + y) :: st)) : G E p l e R s m args below meth c nL n M cells slots Q pc lv (lV y :: lV x :: st) :=
  fun H locs ls d a1 a2 a3 a4 => lv_ladd X.1 X.2.1 hd (kk H locs ls d a1 a2 a3 a4)
theorem g_land (X : CX E p s m c cc nL own) {x y : Int64} (hd : decode cc pc = .ok (.land, 1)) (kk : G E p l e R s m args below meth c nL n M cells slots Q (pc + 1) lv (lV (x &&& y) :: st)) : G E p l e R s m args below meth c nL n M cells slots Q pc lv (lV y :: lV x :: st) :=
  fun H locs ls d a1 a2 a3 a4 => lv_land X.1 X.2.1 hd (kk H locs ls d a1 a2 a3 a4)
theorem g_lor (X : CX E p s m c cc nL own) {x y : Int64} (hd : decode cc pc = .ok (.lor, 1)) (kk : G E p l e R s m args below meth c nL n M cells slots Q (pc + 1) lv (lV (x ||| y) :: st)) : G E p l e R s m args below meth c nL n M cells slots Q pc lv (lV y :: lV x :: st) :=
  fun H locs ls d a1 a2 a3 a4 => lv_lor X.1 X.2.1 hd (kk H locs ls d a1 a2 a3 a4)
theorem g_lshl (X : CX E p s m c cc nL own) {x : Int64} {y : Int32} (hd : decode cc pc = .ok (.lshl, 1)) (kk : G E p l e R s m args below meth c nL n M cells slots Q (pc + 1) lv (lV (x <<< (y.toInt64 &&& 63)) :: st)) : G E p l e R s m args below meth c nL n M cells slots Q pc lv (iV y :: lV x :: st) :=
  fun H locs ls d a1 a2 a3 a4 => lv_lshl X.1 X.2.1 hd rfl (kk H locs ls d a1 a2 a3 a4)
theorem g_lushr (X : CX E p s m c cc nL own) {x : Int64} {y : Int32} (hd : decode cc pc = .ok (.lushr, 1)) (kk : G E p l e R s m args below meth c nL n M cells slots Q (pc + 1) lv (lV ((x.toUInt64 >>> (y.toInt64.toUInt64 &&& Int64.toUInt64 63)).toInt64) :: st)) : G E p l e R s m args below meth c nL n M cells slots Q pc lv (iV y :: lV x :: st) :=
  fun H locs ls d a1 a2 a3 a4 => lv_lushr X.1 X.2.1 hd rfl (kk H locs ls d a1 a2 a3 a4)
theorem g_lcmp (X : CX E p s m c cc nL own) {x y : Int64} (hd : decode cc pc = .ok (.lcmp, 1)) (kk : G E p l e R s m args below meth c nL n M cells slots Q (pc + 1) lv (iV (lg_cmp x y) :: st)) : G E p l e R s m args below meth c nL n M cells slots Q pc lv (lV y :: lV x :: st) :=
  fun H locs ls d a1 a2 a3 a4 => W.lcmp X.1 X.2.1 hd (kk H locs ls d a1 a2 a3 a4)
theorem g_i2l (X : CX E p s m c cc nL own) {x : Int32} (hd : decode cc pc = .ok (.i2l, 1)) (kk : G E p l e R s m args below meth c nL n M cells slots Q (pc + 1) lv (lV x.toInt64 :: st)) : G E p l e R s m args below meth c nL n M cells slots Q pc lv (iV x :: st) :=
  fun H locs ls d a1 a2 a3 a4 => lv_i2l X.1 X.2.1 hd rfl (kk H locs ls d a1 a2 a3 a4)
theorem g_l2i (X : CX E p s m c cc nL own) {x : Int64} (hd : decode cc pc = .ok (.l2i, 1)) (kk : G E p l e R s m args below meth c nL n M cells slots Q (pc + 1) lv (iV x.toInt32 :: st)) : G E p l e R s m args below meth c nL n M cells slots Q pc lv (lV x :: st) :=
  fun H locs ls d a1 a2 a3 a4 => lv_l2i X.1 X.2.1 hd rfl (kk H locs ls d a1 a2 a3 a4)
theorem g_i2c (X : CX E p s m c cc nL own) {x : Int32} (hd : decode cc pc = .ok (.i2c, 1)) (kk : G E p l e R s m args below meth c nL n M cells slots Q (pc + 1) lv (iV (x.toUInt32 % 65536).toInt32 :: st)) : G E p l e R s m args below meth c nL n M cells slots Q pc lv (iV x :: st) :=
  fun H locs ls d a1 a2 a3 a4 => lv_i2c X.1 X.2.1 hd rfl (kk H locs ls d a1 a2 a3 a4)
theorem g_i2d (X : CX E p s m c cc nL own) {x : Int32} (hd : decode cc pc = .ok (.i2d, 1)) (kk : G E p l e R s m args below meth c nL n M cells slots Q (pc + 1) lv (dV (FP.i2d x) :: st)) : G E p l e R s m args below meth c nL n M cells slots Q pc lv (iV x :: st) :=
  fun H locs ls d a1 a2 a3 a4 => lv_i2d X.1 X.2.1 hd (kk H locs ls d a1 a2 a3 a4)
theorem g_l2d (X : CX E p s m c cc nL own) {x : Int64} (hd : decode cc pc = .ok (.l2d, 1)) (kk : G E p l e R s m args below meth c nL n M cells slots Q (pc + 1) lv (dV (FP.l2d x) :: st)) : G E p l e R s m args below meth c nL n M cells slots Q pc lv (lV x :: st) :=
  fun H locs ls d a1 a2 a3 a4 => lv_l2d X.1 X.2.1 hd (kk H locs ls d a1 a2 a3 a4)
theorem g_d2i (X : CX E p s m c cc nL own) {x : UInt64} (hd : decode cc pc = .ok (.d2i, 1)) (kk : G E p l e R s m args below meth c nL n M cells slots Q (pc + 1) lv (iV (FP.d2i x) :: st)) : G E p l e R s m args below meth c nL n M cells slots Q pc lv (dV x :: st) :=
  fun H locs ls d a1 a2 a3 a4 => lv_d2i X.1 X.2.1 hd (kk H locs ls d a1 a2 a3 a4)
theorem g_f2d {P : Prop} (X : CX E p s m c cc nL own) {x : UInt32} (hd : decode cc pc = .ok (.f2d, 1)) (hw : vf_n64 (FP.f2d x) ∧ P) (kk : P → G E p l e R s m args below meth c nL n M cells slots Q (pc + 1) lv (dV (FP.f2d x) :: st)) : G E p l e R s m args below meth c nL n M cells slots Q pc lv (fV x :: st) :=
  fun H locs ls d a1 a2 a3 a4 => lv_f2d X.1 X.2.1 hd hw.1 (kk hw.2 H locs ls d a1 a2 a3 a4)
theorem g_d2f {P : Prop} (X : CX E p s m c cc nL own) {x : UInt64} (hd : decode cc pc = .ok (.d2f, 1)) (hw : vf_n32 (FP.d2f x) ∧ P) (kk : P → G E p l e R s m args below meth c nL n M cells slots Q (pc + 1) lv (fV (FP.d2f x) :: st)) : G E p l e R s m args below meth c nL n M cells slots Q pc lv (dV x :: st) :=
  fun H locs ls d a1 a2 a3 a4 => lv_d2f X.1 X.2.1 hd hw.1 (kk hw.2 H locs ls d a1 a2 a3 a4)
theorem g_dmul {P : Prop} (X : CX E p s m c cc nL own) {x y : UInt64} (hd : decode cc pc = .ok (.dmul, 1)) (hw : vf_n64 (FP.dmul x y) ∧ P) (kk : P → G E p l e R s m args below meth c nL n M cells slots Q (pc + 1) lv (dV (FP.dmul x y) :: st)) : G E p l e R s m args below meth c nL n M cells slots Q pc lv (dV y :: dV x :: st) :=
  fun H locs ls d a1 a2 a3 a4 => lv_dmul X.1 X.2.1 hd hw.1 (kk hw.2 H locs ls d a1 a2 a3 a4)
theorem g_dsub {P : Prop} (X : CX E p s m c cc nL own) {x y : UInt64} (hd : decode cc pc = .ok (.dsub, 1)) (hw : vf_n64 (FP.dsub x y) ∧ P) (kk : P → G E p l e R s m args below meth c nL n M cells slots Q (pc + 1) lv (dV (FP.dsub x y) :: st)) : G E p l e R s m args below meth c nL n M cells slots Q pc lv (dV y :: dV x :: st) :=
  fun H locs ls d a1 a2 a3 a4 => lv_dsub X.1 X.2.1 hd hw.1 (kk hw.2 H locs ls d a1 a2 a3 a4)
theorem g_ddiv {P : Prop} (X : CX E p s m c cc nL own) {x y : UInt64} (hd : decode cc pc = .ok (.ddiv, 1)) (hw : vf_n64 (FP.ddiv x y) ∧ P) (kk : P → G E p l e R s m args below meth c nL n M cells slots Q (pc + 1) lv (dV (FP.ddiv x y) :: st)) : G E p l e R s m args below meth c nL n M cells slots Q pc lv (dV y :: dV x :: st) :=
  fun H locs ls d a1 a2 a3 a4 => lv_ddiv X.1 X.2.1 hd hw.1 (kk hw.2 H locs ls d a1 a2 a3 a4)
/-- the quotient that is a NaN: any of them -/
theorem g_ddivN {P : UInt64 → Prop} (X : CX E p s m c cc nL own) {x y : UInt64} (hd : decode cc pc = .ok (.ddiv, 1)) (hw : ∀ r : UInt64, alike64 r (FP.ddiv x y) = true → P r) (kk : ∀ r : UInt64, P r → G E p l e R s m args below meth c nL n M cells slots Q (pc + 1) lv (dV r :: st)) : G E p l e R s m args below meth c nL n M cells slots Q pc lv (dV y :: dV x :: st) :=
  fun H locs ls d a1 a2 a3 a4 => lv_ddiv_any a1 lw_bits X.1 X.2.1 hd (fun r d' hal hd' => kk r (hw r hal) H locs ls d' hd' a2 a3 a4)
theorem g_dcmp (X : CX E p s m c cc nL own) {x y : UInt64} {op : CmpOp} (hd : decode cc pc = .ok (.dcmp op, 1)) (kk : G E p l e R s m args below meth c nL n M cells slots Q (pc + 1) lv (iV (Op.cmpValue (FP.dcmp x y) op) :: st)) : G E p l e R s m args below meth c nL n M cells slots Q pc lv (dV y :: dV x :: st) :=
  fun H locs ls d a1 a2 a3 a4 => lv_dcmp X.1 X.2.1 hd (kk H locs ls d a1 a2 a3 a4)
theorem g_fcmp (X : CX E p s m c cc nL own) {x y : UInt32} {op : CmpOp} (hd : decode cc pc = .ok (.fcmp op, 1)) (kk : G E p l e R s m args below meth c nL n M cells slots Q (pc + 1) lv (iV (Op.cmpValue (FP.fcmp x y) op) :: st)) : G E p l e R s m args below meth c nL n M cells slots Q pc lv (fV y :: fV x :: st) :=
  fun H locs ls d a1 a2 a3 a4 => lv_fcmp X.1 X.2.1 hd (kk H locs ls d a1 a2 a3 a4)
theorem g_dup (X : CX E p s m c cc nL own) {a : AV} (hd : decode cc pc = .ok (.dup, 1)) (hc : catA a = 1) (kk : G E p l e R s m args below meth c nL n M cells slots Q (pc + 1) lv (a :: a :: st)) : G E p l e R s m args below meth c nL n M cells slots Q pc lv (a :: st) :=
  fun H locs ls d a1 a2 a3 a4 => lv_dup X.1 X.2.1 hd (by rw [toV_cat]; exact hc) (kk H locs ls d a1 a2 a3 a4)
theorem g_dup2 (X : CX E p s m c cc nL own) {a b : AV} (hd : decode cc pc = .ok (.dup2, 1)) (hc : catA a = 1) (hc2 : catA b = 1) (kk : G E p l e R s m args below meth c nL n M cells slots Q (pc + 1) lv (a :: b :: a :: b :: st)) : G E p l e R s m args below meth c nL n M cells slots Q pc lv (a :: b :: st) :=
  fun H locs ls d a1 a2 a3 a4 => lv_dup2_11 X.1 X.2.1 hd (by rw [toV_cat]; exact hc) (by rw [toV_cat]; exact hc2) (kk H locs ls d a1 a2 a3 a4)
theorem g_pop (X : CX E p s m c cc nL own) {a : AV} (hd : decode cc pc = .ok (.pop, 1)) (hc : catA a = 1) (kk : G E p l e R s m args below meth c nL n M cells slots Q (pc + 1) lv st) : G E p l e R s m args below meth c nL n M cells slots Q pc lv (a :: st) :=
  fun H locs ls d a1 a2 a3 a4 => lv_pop X.1 X.2.1 hd (by rw [toV_cat]; exact hc) (kk H locs ls d a1 a2 a3 a4)
theorem g_goto (X : CX E p s m c cc nL own) {off : Int} (tgt : Nat) (hd : decode cc pc = .ok (.goto off, 3)) (ht : (pc : Int) + off = (tgt : Int)) (kk : G E p l e R s m args below meth c nL n M cells slots Q tgt lv st) : G E p l e R s m args below meth c nL n M cells slots Q pc lv st :=
  fun H locs ls d a1 a2 a3 a4 => lv_goto X.1 X.2.1 hd ht (kk H locs ls d a1 a2 a3 a4)
theorem g_if_eq {A B : Prop} (X : CX E p s m c cc nL own) {x : Int32} {off : Int} (tgt : Nat) (hd : decode cc pc = .ok (.ifCond .eq off, 3)) (ht : (pc : Int) + off = (tgt : Int)) (hw : (x = 0 → A) ∧ (¬ x = 0 → B)) (kt : A → G E p l e R s m args below meth c nL n M cells slots Q tgt lv st) (kf : B → G E p l e R s m args below meth c nL n M cells slots Q (pc + 3) lv st) : G E p l e R s m args below meth c nL n M cells slots Q pc lv (iV x :: st) :=
  fun H locs ls d a1 a2 a3 a4 => lv_if_eq X.1 X.2.1 hd ht (fun h => kt (hw.1 h) H locs ls d a1 a2 a3 a4) (fun h => kf (hw.2 h) H locs ls d a1 a2 a3 a4)
theorem g_if_ne {A B : Prop} (X : CX E p s m c cc nL own) {x : Int32} {off : Int} (tgt : Nat) (hd : decode cc pc = .ok (.ifCond .ne off, 3)) (ht : (pc : Int) + off = (tgt : Int)) (hw : (¬ x = 0 → A) ∧ (x = 0 → B)) (kt : A → G E p l e R s m args below meth c nL n M cells slots Q tgt lv st) (kf : B → G E p l e R s m args below meth c nL n M cells slots Q (pc + 3) lv st) : G E p l e R s m args below meth c nL n M cells slots Q pc lv (iV x :: st) :=
  fun H locs ls d a1 a2 a3 a4 => lv_if_ne X.1 X.2.1 hd ht (fun h => kt (hw.1 h) H locs ls d a1 a2 a3 a4) (fun h => kf (hw.2 h) H locs ls d a1 a2 a3 a4)
theorem g_if_lt {A B : Prop} (X : CX E p s m c cc nL own) {x : Int32} {off : Int} (tgt : Nat) (hd : decode cc pc = .ok (.ifCond .lt off, 3)) (ht : (pc : Int) + off = (tgt : Int)) (hw : (x < 0 → A) ∧ (¬ x < 0 → B)) (kt : A → G E p l e R s m args below meth c nL n M cells slots Q tgt lv st) (kf : B → G E p l e R s m args below meth c nL n M cells slots Q (pc + 3) lv st) : G E p l e R s m args below meth c nL n M cells slots Q pc lv (iV x :: st) :=
  fun H locs ls d a1 a2 a3 a4 => lv_if_lt X.1 X.2.1 hd ht (fun h => kt (hw.1 h) H locs ls d a1 a2 a3 a4) (fun h => kf (hw.2 h) H locs ls d a1 a2 a3 a4)
theorem g_if_ge {A B : Prop} (X : CX E p s m c cc nL own) {x : Int32} {off : Int} (tgt : Nat) (hd : decode cc pc = .ok (.ifCond .ge off, 3)) (ht : (pc : Int) + off = (tgt : Int)) (hw : (0 ≤ x → A) ∧ (¬ 0 ≤ x → B)) (kt : A → G E p l e R s m args below meth c nL n M cells slots Q tgt lv st) (kf : B → G E p l e R s m args below meth c nL n M cells slots Q (pc + 3) lv st) : G E p l e R s m args below meth c nL n M cells slots Q pc lv (iV x :: st) :=
  fun H locs ls d a1 a2 a3 a4 => lv_if_ge X.1 X.2.1 hd ht (fun h => kt (hw.1 h) H locs ls d a1 a2 a3 a4) (fun h => kf (hw.2 h) H locs ls d a1 a2 a3 a4)
theorem g_if_gt {A B : Prop} (X : CX E p s m c cc nL own) {x : Int32} {off : Int} (tgt : Nat) (hd : decode cc pc = .ok (.ifCond .gt off, 3)) (ht : (pc : Int) + off = (tgt : Int)) (hw : (0 < x → A) ∧ (¬ 0 < x → B)) (kt : A → G E p l e R s m args below meth c nL n M cells slots Q tgt lv st) (kf : B → G E p l e R s m args below meth c nL n M cells slots Q (pc + 3) lv st) : G E p l e R s m args below meth c nL n M cells slots Q pc lv (iV x :: st) :=
  fun H locs ls d a1 a2 a3 a4 => lv_if_gt X.1 X.2.1 hd ht (fun h => kt (hw.1 h) H locs ls d a1 a2 a3 a4) (fun h => kf (hw.2 h) H locs ls d a1 a2 a3 a4)
theorem g_if_le {A B : Prop} (X : CX E p s m c cc nL own) {x : Int32} {off : Int} (tgt : Nat) (hd : decode cc pc = .ok (.ifCond .le off, 3)) (ht : (pc : Int) + off = (tgt : Int)) (hw : (x ≤ 0 → A) ∧ (¬ x ≤ 0 → B)) (kt : A → G E p l e R s m args below meth c nL n M cells slots Q tgt lv st) (kf : B → G E p l e R s m args below meth c nL n M cells slots Q (pc + 3) lv st) : G E p l e R s m args below meth c nL n M cells slots Q pc lv (iV x :: st) :=
  fun H locs ls d a1 a2 a3 a4 => lv_if_le X.1 X.2.1 hd ht (fun h => kt (hw.1 h) H locs ls d a1 a2 a3 a4) (fun h => kf (hw.2 h) H locs ls d a1 a2 a3 a4)
theorem g_icmp_eq {A B : Prop} (X : CX E p s m c cc nL own) {x y : Int32} {off : Int} (tgt : Nat) (hd : decode cc pc = .ok (.if_icmp .eq off, 3)) (ht : (pc : Int) + off = (tgt : Int)) (hw : (x = y → A) ∧ (¬ x = y → B)) (kt : A → G E p l e R s m args below meth c nL n M cells slots Q tgt lv st) (kf : B → G E p l e R s m args below meth c nL n M cells slots Q (pc + 3) lv st) : G E p l e R s m args below meth c nL n M cells slots Q pc lv (iV y :: iV x :: st) :=
  fun H locs ls d a1 a2 a3 a4 => lv_icmp_eq X.1 X.2.1 hd ht (fun h => kt (hw.1 h) H locs ls d a1 a2 a3 a4) (fun h => kf (hw.2 h) H locs ls d a1 a2 a3 a4)
theorem g_icmp_ne {A B : Prop} (X : CX E p s m c cc nL own) {x y : Int32} {off : Int} (tgt : Nat) (hd : decode cc pc = .ok (.if_icmp .ne off, 3)) (ht : (pc : Int) + off = (tgt : Int)) (hw : (¬ x = y → A) ∧ (x = y → B)) (kt : A → G E p l e R s m args below meth c nL n M cells slots Q tgt lv st) (kf : B → G E p l e R s m args below meth c nL n M cells slots Q (pc + 3) lv st) : G E p l e R s m args below meth c nL n M cells slots Q pc lv (iV y :: iV x :: st) :=
  fun H locs ls d a1 a2 a3 a4 => lv_icmp_ne X.1 X.2.1 hd ht (fun h => kt (hw.1 h) H locs ls d a1 a2 a3 a4) (fun h => kf (hw.2 h) H locs ls d a1 a2 a3 a4)
theorem g_icmp_lt {A B : Prop} (X : CX E p s m c cc nL own) {x y : Int32} {off : Int} (tgt : Nat) (hd : decode cc pc = .ok (.if_icmp .lt off, 3)) (ht : (pc : Int) + off = (tgt : Int)) (hw : (x < y → A) ∧ (¬ x < y → B)) (kt : A → G E p l e R s m args below meth c nL n M cells slots Q tgt lv st) (kf : B → G E p l e R s m args below meth c nL n M cells slots Q (pc + 3) lv st) : G E p l e R s m args below meth c nL n M cells slots Q pc lv (iV y :: iV x :: st) :=
  fun H locs ls d a1 a2 a3 a4 => lv_icmp_lt X.1 X.2.1 hd ht (fun h => kt (hw.1 h) H locs ls d a1 a2 a3 a4) (fun h => kf (hw.2 h) H locs ls d a1 a2 a3 a4)
theorem g_icmp_ge {A B : Prop} (X : CX E p s m c cc nL own) {x y : Int32} {off : Int} (tgt : Nat) (hd : decode cc pc = .ok (.if_icmp .ge off, 3)) (ht : (pc : Int) + off = (tgt : Int)) (hw : (y ≤ x → A) ∧ (¬ y ≤ x → B)) (kt : A → G E p l e R s m args below meth c nL n M cells slots Q tgt lv st) (kf : B → G E p l e R s m args below meth c nL n M cells slots Q (pc + 3) lv st) : G E p l e R s m args below meth c nL n M cells slots Q pc lv (iV y :: iV x :: st) :=
  fun H locs ls d a1 a2 a3 a4 => lv_icmp_ge X.1 X.2.1 hd ht (fun h => kt (hw.1 h) H locs ls d a1 a2 a3 a4) (fun h => kf (hw.2 h) H locs ls d a1 a2 a3 a4)
theorem g_icmp_gt {A B : Prop} (X : CX E p s m c cc nL own) {x y : Int32} {off : Int} (tgt : Nat) (hd : decode cc pc = .ok (.if_icmp .gt off, 3)) (ht : (pc : Int) + off = (tgt : Int)) (hw : (y < x → A) ∧ (¬ y < x → B)) (kt : A → G E p l e R s m args below meth c nL n M cells slots Q tgt lv st) (kf : B → G E p l e R s m args below meth c nL n M cells slots Q (pc + 3) lv st) : G E p l e R s m args below meth c nL n M cells slots Q pc lv (iV y :: iV x :: st) :=
  fun H locs ls d a1 a2 a3 a4 => lv_icmp_gt X.1 X.2.1 hd ht (fun h => kt (hw.1 h) H locs ls d a1 a2 a3 a4) (fun h => kf (hw.2 h) H locs ls d a1 a2 a3 a4)
theorem g_icmp_le {A B : Prop} (X : CX E p s m c cc nL own) {x y : Int32} {off : Int} (tgt : Nat) (hd : decode cc pc = .ok (.if_icmp .le off, 3)) (ht : (pc : Int) + off = (tgt : Int)) (hw : (x ≤ y → A) ∧ (¬ x ≤ y → B)) (kt : A → G E p l e R s m args below meth c nL n M cells slots Q tgt lv st) (kf : B → G E p l e R s m args below meth c nL n M cells slots Q (pc + 3) lv st) : G E p l e R s m args below meth c nL n M cells slots Q pc lv (iV y :: iV x :: st) :=
  fun H locs ls d a1 a2 a3 a4 => lv_icmp_le X.1 X.2.1 hd ht (fun h => kt (hw.1 h) H locs ls d a1 a2 a3 a4) (fun h => kf (hw.2 h) H locs ls d a1 a2 a3 a4)
theorem g_ifnull {A B : Prop} (X : CX E p s m c cc nL own) {r : Nat} {off : Int} (tgt : Nat) (hd : decode cc pc = .ok (.ifnull off, 3)) (ht : (pc : Int) + off = (tgt : Int)) (hw : (r = 0 → A) ∧ (¬ r = 0 → B)) (kt : A → G E p l e R s m args below meth c nL n M cells slots Q tgt lv st) (kf : B → G E p l e R s m args below meth c nL n M cells slots Q (pc + 3) lv st) : G E p l e R s m args below meth c nL n M cells slots Q pc lv (rV r :: st) := by
  intro H locs ls d a1 a2 a3 a4
  change W _ _ _ _ _ _ _ _ _ _ _ _ _ _ _ (F0 m pc ls (rf E.2.2.1 r :: st.map (toV E.2.2.1)))
  rcases rf_or E.2.2.1 r with ⟨h, h'⟩ | ⟨h, h'⟩
  · rw [h']; exact lv_ifnullN X.1 X.2.1 hd ht (kt (hw.1 h) H locs ls d a1 a2 a3 a4)
  · rw [h']; exact lv_ifnull X.1 X.2.1 hd (kf (hw.2 h) H locs ls d a1 a2 a3 a4)
theorem g_ifnonnull {A B : Prop} (X : CX E p s m c cc nL own) {r : Nat} {off : Int} (tgt : Nat) (hd : decode cc pc = .ok (.ifnonnull off, 3)) (ht : (pc : Int) + off = (tgt : Int)) (hw : (¬ r = 0 → A) ∧ (r = 0 → B)) (kt : A → G E p l e R s m args below meth c nL n M cells slots Q tgt lv st) (kf : B → G E p l e R s m args below meth c nL n M cells slots Q (pc + 3) lv st) : G E p l e R s m args below meth c nL n M cells slots Q pc lv (rV r :: st) := by
  intro H locs ls d a1 a2 a3 a4
  change W _ _ _ _ _ _ _ _ _ _ _ _ _ _ _ (F0 m pc ls (rf E.2.2.1 r :: st.map (toV E.2.2.1)))
  rcases rf_or E.2.2.1 r with ⟨h, h'⟩ | ⟨h, h'⟩
  · rw [h']; exact lv_ifnonnullN X.1 X.2.1 hd (kf (hw.2 h) H locs ls d a1 a2 a3 a4)
  · rw [h']; exact lv_ifnonnull X.1 X.2.1 hd ht (kt (hw.1 h) H locs ls d a1 a2 a3 a4)
theorem rf_va (b r : Nat) : rf b r = va_rf (if r = 0 then none else some (b + r)) := by
  unfold rf
  split <;> rfl
theorem g_acmp_eq {A B : Prop} (X : CX E p s m c cc nL own) {x y : Nat} {off : Int} (tgt : Nat) (hd : decode cc pc = .ok (.if_acmp .eq off, 3)) (ht : (pc : Int) + off = (tgt : Int)) (hw : (x = y → A) ∧ (¬ x = y → B)) (kt : A → G E p l e R s m args below meth c nL n M cells slots Q tgt lv st) (kf : B → G E p l e R s m args below meth c nL n M cells slots Q (pc + 3) lv st) : G E p l e R s m args below meth c nL n M cells slots Q pc lv (rV y :: rV x :: st) := by
  intro H locs ls d a1 a2 a3 a4
  change W _ _ _ _ _ _ _ _ _ _ _ _ _ _ _ (F0 m pc ls (rf E.2.2.1 y :: rf E.2.2.1 x :: st.map (toV E.2.2.1)))
  rw [rf_va, rf_va]
  refine lv_acmp_eq X.1 X.2.1 hd ht (fun h => kt (hw.1 ?_) H locs ls d a1 a2 a3 a4) (fun h => kf (hw.2 ?_) H locs ls d a1 a2 a3 a4)
  · split at h <;> split at h <;> simp at h <;> omega
  · intro q
    exact h (by rw [q])
/-- a switch by a table: its row in range, or out of it -/
theorem g_swIn (X : CX E p s m c cc nL own) {dflt lo hi : Int} {offs : Array Int} {len : Nat} {x : Int32} {off : Int} (tgt : Nat) (hd : decode cc pc = .ok (.tableswitch dflt lo hi offs, len)) (h1 : ¬ x.toInt < lo) (h2 : ¬ hi < x.toInt) (ho : offs[(x.toInt - lo).toNat]? = some off) (ht : (pc : Int) + off = (tgt : Int)) (kk : G E p l e R s m args below meth c nL n M cells slots Q tgt lv st) : G E p l e R s m args below meth c nL n M cells slots Q pc lv (iV x :: st) :=
  fun H locs ls d a1 a2 a3 a4 => lv_tableIn X.1 X.2.1 hd h1 h2 ho ht (kk H locs ls d a1 a2 a3 a4)
theorem g_swOut (X : CX E p s m c cc nL own) {dflt lo hi : Int} {offs : Array Int} {len : Nat} {x : Int32} (tgt : Nat) (hd : decode cc pc = .ok (.tableswitch dflt lo hi offs, len)) (h : x.toInt < lo ∨ hi < x.toInt) (ht : (pc : Int) + dflt = (tgt : Int)) (kk : G E p l e R s m args below meth c nL n M cells slots Q tgt lv st) : G E p l e R s m args below meth c nL n M cells slots Q pc lv (iV x :: st) :=
  fun H locs ls d a1 a2 a3 a4 => lv_tableOut X.1 X.2.1 hd h ht (kk H locs ls d a1 a2 a3 a4)
theorem sw_ne {x v : Int32} {k : Int} (hk : v.toInt = k) (h : ¬ x = v) : x.toInt ≠ k := fun q => h (Int32.toInt_inj.mp (q.trans hk.symm))
end GA
