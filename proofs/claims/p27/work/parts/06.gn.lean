/-! new cells -/
def sz (r : Nat) : Nat := if (kd r).1 < 7 then fN (kd r).1 else (kd r).2
def SL : Nat → Nat
  | 0 => 0
  | n + 1 => SL n + sz (n + 1)
theorem SL_mono (n k : Nat) : SL n ≤ SL (n + k) := by
  induction k with
  | zero => exact Nat.le_refl _
  | succ k ih => exact Nat.le_trans ih (Nat.le_add_right _ _)
theorem SL_le {a b : Nat} (h : a ≤ b) : SL a ≤ SL b := by
  have := SL_mono a (b - a)
  rwa [Nat.add_sub_cancel' h] at this
theorem dflt_fv (b r : Nat) (M : Mem) (ci k : Nat) : defaultValue (tyF ci k) = fv b (zr M r) (tyF ci k) r k := by
  unfold tyF
  split
  · unfold tyX0; split <;> simp [fv, gI, gD, gL, gR, zr, defaultValue, rf]
  · unfold tyX1; split <;> simp [fv, gI, gD, gL, gR, zr, defaultValue, rf]
  · unfold tyX2; split <;> simp [fv, gI, gD, gL, gR, zr, defaultValue, rf]
  · unfold tyX3; split <;> simp [fv, gI, gD, gL, gR, zr, defaultValue, rf]
  · unfold tyX4; split <;> simp [fv, gI, gD, gL, gR, zr, defaultValue, rf]
  · unfold tyX5; split <;> simp [fv, gI, gD, gL, gR, zr, defaultValue, rf]
  · unfold tyX5; split <;> simp [fv, gI, gD, gL, gR, zr, defaultValue, rf]
theorem Rep_new {E : Gl} {n : Nat} {M : Mem} {H H2 : Heap} (hR : Rep E n M H) (z : H2.size = H.size + 1) (o : ∀ q, q < H.size → H2[q]? = H[q]?) (hc : cellAt E (zr M (n + 1)) (n + 1) H2) : Rep E (n + 1) (zr M (n + 1)) H2 := by
  obtain ⟨h1, h2, h3⟩ := hR
  refine ⟨by rw [z, h1]; omega, fun q hq => (o q (by omega)).trans (h2 q hq), fun q q1 q2 => ?_⟩
  by_cases hqr : q = n + 1
  · rw [hqr]; exact hc
  · exact cellAt_MU (MU_zr M (n + 1)) hqr (o _ (by omega)) (h3 q q1 (by omega))
section GN
variable {E : Gl} {p : Program} {l : Launch} {e : Env} {R : Room} {s : State} {m : MethodId} {args : Array Value} {below : List Frame} {meth : Method} {c : Code} {nL n n0 : Nat} {M : Mem} {Q : State → Prop} {cc : ByteArray} {own : String} {pc : Nat} {lv : List (Nat × AV)} {st : List AV}
/-- there is room for the cell n + 1, by what has been made since n0 -/
def Al (R : Room) (n0 n : Nat) : Prop := n0 ≤ n ∧ n + 1 ≤ n0 + R.cells ∧ SL (n + 1) ≤ SL n0 + R.slots
set_option maxHeartbeats 200000 in
theorem g_new {P : Prop} (X : CX E p s m c cc nL own) {ix ci : Nat} (hd : decode cc pc = .ok (.new ix, 3)) (hci : ci < 7) (hx : Cond.classLink own ix (fC ci) ∈ lwG ∧ Cond.instantiable (fC ci) (fN ci) ∈ lwG ∧ Cond.initialized (fC ci) ∈ lwG) (hw : (kd (n + 1) = (ci, 0) ∧ Al R n0 n) ∧ P) (kk : P → G E p l e R s m args below meth c nL (n + 1) (zr M (n + 1)) (n + 1 - n0) (SL (n + 1) - SL n0) Q (pc + 3) lv (rV (n + 1) :: st)) : G E p l e R s m args below meth c nL n M (n - n0) (SL n - SL n0) Q pc lv st := by
  intro H locs ls d a1 a2 a3 a4
  have X := X.dr d
  obtain ⟨⟨hk, hA1, hA2, hA3⟩, hP⟩ := hw
  have hsz : SL (n + 1) = SL n + fN ci := by
    show SL n + sz (n + 1) = _
    unfold sz
    rw [hk, if_pos hci]
  have hm := SL_le hA1
  have hKn := X.2.2.2.2.1.1 ci _ (cl_at hci)
  have hsize : H.size = E.2.2.1 + (n + 1) := by rw [a2.1]; omega
  refine W.newcK X.1 X.2.1 X.2.2.2.1 (X.w0 hx.1 args) (X.w0 hx.2.1 args) (X.w0 hx.2.2 args) rfl hd (by omega) (by omega) hKn.2.1 hsize (fun H1 kC hkC e1 z1 o1 => ?_)
  have e9 : n - n0 + 1 = n + 1 - n0 := by omega
  have e8 : SL n - SL n0 + fN ci = SL (n + 1) - SL n0 := by omega
  rw [e9, e8]
  have h2 : Rep E (n + 1) (zr M (n + 1)) H1 := by
    refine Rep_new a2 (by rw [z1, hsize]) (fun q hq => o1 q (by rw [← hsize]; exact hq)) ?_
    unfold cellAt
    rw [hk, if_pos hci]
    exact (u_born (tyF ci) (X.t args) (cl_in hci) hKn hkC e1 (cl_ty hci)).to (fun k _ => dflt_fv E.2.2.1 (n + 1) M ci k)
  have h3 := kk hP H1 locs ls d a1 h2 a3 a4
  exact h3
set_option maxHeartbeats 200000 in
theorem g_newa {P : Prop} (X : CX E p s m c cc nL own) {at_ : ArrayType} {x : Int32} (k L : Nat) (hd : decode cc pc = .ok (.newarray at_, 2)) (hk7 : (k = 7 ∧ newarray.typeOf at_ = .int) ∨ (k = 8 ∧ False) ∨ (k = 9 ∧ newarray.typeOf at_ = .char)) (hx : Cond.arrayClass (newarray.typeOf at_) ∈ lwG) (hL : x = nI L ∧ L < 4096) (hw : (kd (n + 1) = (k, L) ∧ Al R n0 n) ∧ P) (kk : P → G E p l e R s m args below meth c nL (n + 1) (zr M (n + 1)) (n + 1 - n0) (SL (n + 1) - SL n0) Q (pc + 2) lv (rV (n + 1) :: st)) : G E p l e R s m args below meth c nL n M (n - n0) (SL n - SL n0) Q pc lv (iV x :: st) := by
  intro H locs ls d a1 a2 a3 a4
  have X := X.dr d
  obtain ⟨⟨hk, hA1, hA2, hA3⟩, hP⟩ := hw
  obtain ⟨rfl, hL2⟩ := hL
  have hk13 : ¬ k < 7 := by omega
  have hsz : SL (n + 1) = SL n + L := by
    show SL n + sz (n + 1) = _
    unfold sz
    rw [hk, if_neg hk13]
  have hm := SL_le hA1
  have hsize : H.size = E.2.2.1 + (n + 1) := by rw [a2.1]; omega
  have hcb : componentBytes (newarray.typeOf at_) ≤ 8 := by
    rcases hk7 with ⟨-, h⟩ | ⟨-, h⟩ | ⟨-, h⟩ <;> first | exact h.elim | (rw [h]; decide)
  have hb : L * componentBytes (newarray.typeOf at_) ≤ 536870912 := Nat.le_trans (Nat.mul_le_mul (Nat.le_of_lt hL2) hcb) (by decide)
  refine va_newaK (N := L) X.1 X.2.1 (X.w0 hx args) rfl hd rfl (nI_pos (by omega)) (nI_clamp (by omega)) hb (by omega) (by omega) hsize (fun H1 cA e1 z1 o1 hAr hNm => ?_)
  have e9 : n - n0 + 1 = n + 1 - n0 := by omega
  have e8 : SL n - SL n0 + L = SL (n + 1) - SL n0 := by omega
  rw [e9, e8]
  have hcA : cA = E.2.1 k ∧ ∀ j, defaultValue (newarray.typeOf at_) = av E.2.2.1 (zr M (n + 1)) k (n + 1) j := by
    have K := X.2.2.2.2.1.2
    rcases hk7 with ⟨q, h⟩ | ⟨q, h⟩ | ⟨q, h⟩
    · rw [h] at hNm ⊢
      subst q
      have h9 : (s.setDrawn d).vm.findClass ("[" ++ FieldType.int.toString) = some (E.2.1 7) := (K 0 _ rfl).2
      exact ⟨Option.some.inj (hNm.symm.trans h9), fun j => by simp [av, gI, zr, defaultValue]⟩
    · exact h.elim
    · rw [h] at hNm ⊢
      subst q
      have h9 : (s.setDrawn d).vm.findClass ("[" ++ FieldType.char.toString) = some (E.2.1 9) := (K 2 _ rfl).2
      exact ⟨Option.some.inj (hNm.symm.trans h9), fun j => by simp [av, gI, zr, defaultValue]⟩
  have h2 : Rep E (n + 1) (zr M (n + 1)) H1 := by
    refine Rep_new a2 (by rw [z1, hsize]) (fun q hq => o1 q (by rw [← hsize]; exact hq)) ?_
    unfold cellAt
    rw [hk, if_neg hk13, e1, hcA.1]
    congr 2
    funext j
    exact hcA.2 j
  have h3 := kk hP H1 locs ls d a1 h2 a3 a4
  exact h3
set_option maxHeartbeats 200000 in
theorem g_anew {P : Prop} (X : CX E p s m c cc nL own) {ix : Nat} {x : Int32} (k L : Nat) (hd : decode cc pc = .ok (.anewarray ix, 3)) (hk10 : k = 10 ∨ k = 11 ∨ k = 12) (hx : Cond.classLink own ix (fC (elC k)) ∈ lwG) (hL : x = nI L ∧ L < 4096) (hw : (kd (n + 1) = (k, L) ∧ Al R n0 n) ∧ P) (kk : P → G E p l e R s m args below meth c nL (n + 1) (zr M (n + 1)) (n + 1 - n0) (SL (n + 1) - SL n0) Q (pc + 3) lv (rV (n + 1) :: st)) : G E p l e R s m args below meth c nL n M (n - n0) (SL n - SL n0) Q pc lv (iV x :: st) := by
  intro H locs ls d a1 a2 a3 a4
  have X := X.dr d
  obtain ⟨⟨hk, hA1, hA2, hA3⟩, hP⟩ := hw
  obtain ⟨rfl, hL2⟩ := hL
  have hk13 : ¬ k < 7 := by omega
  have hsz : SL (n + 1) = SL n + L := by
    show SL n + sz (n + 1) = _
    unfold sz
    rw [hk, if_neg hk13]
  have hm := SL_le hA1
  have hsize : H.size = E.2.2.1 + (n + 1) := by rw [a2.1]; omega
  have hcl : (nI L).toNatClampNeg = L := nI_clamp (by omega)
  have hAO : va_AO (fC (elC k)) (s.setDrawn d) := by
    rcases hk10 with rfl | rfl | rfl
    · exact X.2.2.2.2.2.2.2.2.2.1
    · exact X.2.2.2.2.2.2.2.2.2.2.1
    · exact X.2.2.2.2.2.2.2.2.1
  have hRA : va_RA (s.setDrawn d) (E.2.1 k) (.object (fC (elC k))) := by
    have K := X.2.2.2.2.1.2
    rcases hk10 with rfl | rfl | rfl
    · exact (K 3 _ rfl).2
    · exact (K 4 _ rfl).2
    · exact (K 5 _ rfl).2
  obtain ⟨-, -, -, -, -, hNm2⟩ := hRA
  refine W.anew X.1 X.2.1 X.2.2.2.1 (X.w0 hx args) (va_AO.use hAO) rfl hd rfl (nI_pos (by omega)) (by rw [hcl]; omega) (by omega) (by rw [hcl]; omega) (fun cA kA comp f1 f2 f3 f4 => ?_)
  rw [hcl]
  have e9 : n - n0 + 1 = n + 1 - n0 := by omega
  have e8 : SL n - SL n0 + L = SL (n + 1) - SL n0 := by omega
  rw [e9, e8]
  have hcA : cA = E.2.1 k := Option.some.inj (f1.symm.trans hNm2)
  generalize hH1 : H.push ({ cls := cA, slots := Array.replicate L .null, vm := .none } : Cell) = H1
  have z1 : H1.size = H.size + 1 := by rw [← hH1, Array.size_push]
  have e1 : H1[H.size]? = some (arrV cA L (fun _ => .null)) := by rw [← hH1, Array.getElem?_push_size, ← arrV_new]
  have o1 : ∀ q : Nat, q < H.size → H1[q]? = H[q]? := fun q hq => by rw [← hH1, Array.getElem?_push, if_neg (Nat.ne_of_lt hq)]
  have h2 : Rep E (n + 1) (zr M (n + 1)) H1 := by
    refine Rep_new a2 z1 o1 ?_
    unfold cellAt
    rw [hk, if_neg hk13, ← hsize, e1, hcA]
    congr 2
    funext j
    have n8 : ¬ k = 8 := by omega
    have n9 : ¬ k ≤ 9 := by omega
    simp [av, n8, n9, gR, zr, rf]
  have h3 := kk hP H1 locs ls d a1 h2 a3 a4
  rw [hsize]
  exact h3
end GN
