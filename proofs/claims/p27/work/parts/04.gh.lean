/-! the rows of the heap -/
theorem kd0 {n r ci : Nat} (hci : ci < 13) (h : kd r = (ci, n)) : r ≠ 0 := by
  rintro rfl
  rw [show kd 0 = (99, 0) from rfl] at h
  cases h
  omega
theorem kd0' {r : Nat} (h : (kd r).1 < 13) : r ≠ 0 := by
  rintro rfl
  rw [show kd 0 = (99, 0) from rfl] at h
  exact absurd h (by decide)
/-- a field's place in the tables -/
def FL (own : String) (ix ci k : Nat) : Prop := ci < 7 ∧ k < fN ci ∧ (fT ci k).1 = fC ci ∧ Cond.fieldLink own ix (fC ci) (fT ci k).2.1 (fT ci k).2.2.1 ∈ lwG
/-- M2 is M but at the cell r -/
def MU (M M2 : Mem) (r : Nat) : Prop := ∀ (b q : Nat), q ≠ r → (∀ ty j, fv b M2 ty q j = fv b M ty q j) ∧ ∀ k j, av b M2 k q j = av b M k q j
theorem cellAt_MU {E : Gl} {M M2 : Mem} {r q : Nat} {H H2 : Heap} (h : MU M M2 r) (hq : q ≠ r) (hH : H2[E.2.2.1 + q]? = H[E.2.2.1 + q]?) (hc : cellAt E M q H) : cellAt E M2 q H2 := by
  obtain ⟨h1, h2⟩ := h E.2.2.1 q hq
  unfold cellAt at hc ⊢
  by_cases hk : (kd q).1 < 7
  · rw [if_pos hk] at hc ⊢
    exact (hc.kept hH).to (fun k _ => (h1 _ k).symm)
  · rw [if_neg hk] at hc ⊢
    rw [hH, hc]
    congr 2
    funext j
    exact (h2 _ j).symm
theorem MU_sI (M : Mem) (r k : Nat) (v : Int32) : MU M (sI M r k v) r := by
  intro b q hq
  refine ⟨fun ty j => ?_, fun k2 j => ?_⟩
  · cases ty <;> simp [fv, gI, gD, gL, gR, sI, hq]
  · simp [av, gI, gD, gR, sI, hq]
theorem MU_sD (M : Mem) (r k : Nat) (v : UInt64) : MU M (sD M r k v) r := by
  intro b q hq
  refine ⟨fun ty j => ?_, fun k2 j => ?_⟩
  · cases ty <;> simp [fv, gI, gD, gL, gR, sD, hq]
  · simp [av, gI, gD, gR, sD, hq]
theorem MU_sL (M : Mem) (r k : Nat) (v : Int64) : MU M (sL M r k v) r := by
  intro b q hq
  refine ⟨fun ty j => ?_, fun k2 j => ?_⟩
  · cases ty <;> simp [fv, gI, gD, gL, gR, sL, hq]
  · simp [av, gI, gD, gR, sL]
theorem MU_sR (M : Mem) (r k : Nat) (v : Nat) : MU M (sR M r k v) r := by
  intro b q hq
  refine ⟨fun ty j => ?_, fun k2 j => ?_⟩
  · cases ty <;> simp [fv, gI, gD, gL, gR, sR, hq]
  · simp [av, gI, gD, gR, sR, hq]
theorem MU_zr (M : Mem) (r : Nat) : MU M (zr M r) r := by
  intro b q hq
  refine ⟨fun ty j => ?_, fun k2 j => ?_⟩
  · cases ty <;> simp [fv, gI, gD, gL, gR, zr, hq]
  · simp [av, gI, gD, gR, zr, hq]
theorem Rep_upd {E : Gl} {n r : Nat} {M M2 : Mem} {H H2 : Heap} (hR : Rep E n M H) (h0 : r ≠ 0) (hU : MU M M2 r) (z : H2.size = H.size) (o : ∀ q, q ≠ E.2.2.1 + r → H2[q]? = H[q]?) (hc : cellAt E M2 r H2) : Rep E n M2 H2 := by
  obtain ⟨h1, h2, h3⟩ := hR
  refine ⟨z.trans h1, fun q hq => (o q (by omega)).trans (h2 q hq), fun q q1 q2 => ?_⟩
  by_cases hqr : q = r
  · rw [hqr]; exact hc
  · exact cellAt_MU hU hqr (o _ (by omega)) (h3 q q1 q2)
section GH
variable {E : Gl} {p : Program} {l : Launch} {e : Env} {R : Room} {s : State} {m : MethodId} {args : Array Value} {below : List Frame} {meth : Method} {c : Code} {nL n : Nat} {M M2 : Mem} {cells slots : Nat} {Q : State → Prop} {cc : ByteArray} {own : String} {pc : Nat} {lv lv' : List (Nat × AV)} {st : List AV}
theorem CX.t (X : CX E p s m c cc nL own) (a : Array Value) : ∀ w ∈ lwG, w.before a s = true := fun w h => X.2.2.2.2.2.1 w h a
theorem CX.dr (X : CX E p s m c cc nL own) (d : Drawn) : CX E p (s.setDrawn d) m c cc nL own := ⟨X.1, X.2.1, X.2.2.1, X.2.2.2.1, KK.moved (s := s) (U := s.setDrawn d) (State.WarmedH.refl s) X.2.2.2.2⟩
theorem CX.w0 (X : CX E p s m c cc nL own) {w : Cond} (h : w ∈ lwG) (a : Array Value) : w.before a s = true := X.2.2.2.2.2.1 w h a
set_option maxHeartbeats 200000 in
theorem g_get {P : Prop} (X : CX E p s m c cc nL own) {ix ci k r : Nat} (a : AV) (hd : decode cc pc = .ok (.getfield ix, 3)) (hf : FL own ix ci k) (ha : ∀ b, fv b M (tyF ci k) r k = toV b a) (hw : (r ≤ n ∧ kd r = (ci, 0)) ∧ P) (kk : P → G E p l e R s m args below meth c nL n M cells slots Q (pc + 3) lv (a :: st)) : G E p l e R s m args below meth c nL n M cells slots Q pc lv (rV r :: st) := by
  intro H locs ls d a1 a2 a3 a4
  have X := X.dr d
  obtain ⟨⟨hn, hk⟩, hP⟩ := hw
  have h0 : r ≠ 0 := kd0 (by have := hf.1; omega) hk
  have hc := a2.2.2 r (by omega) hn
  unfold cellAt at hc
  rw [hk] at hc
  rw [if_pos hf.1] at hc
  obtain ⟨cell, q1, q2, q3, q4⟩ := hc
  change W _ _ _ _ _ _ _ _ _ _ _ _ _ _ _ (F0 m pc ls (rf E.2.2.1 r :: st.map (toV E.2.2.1)))
  rw [rf_pos h0]
  obtain ⟨hS, hfc, kC, hkC, hkind⟩ := X.2.2.2.2.1.1 ci _ (cl_at hf.1)
  obtain ⟨cf, kf, fi, f, hi, hsl⟩ := hS k hf.2.1
  have hi' : (s.setDrawn d).fieldFound? (fC ci) (fT ci k).2.1 (fT ci k).2.2.1 = some (cf, kf, fi, f) := by rw [← hf.2.2.1]; exact hi
  refine W.getf (v := toV E.2.2.1 a) X.1 X.2.1 X.2.2.2.1 (X.w0 hf.2.2.2 args) hi' (u_facts hfc hkC (u_lays (X.t args) (cl_in hf.1) hf.2.1) hi).1 q1 (by rw [q3]; exact fun h => by cases h) ?_ rfl rfl hd (kk hP H locs ls d a1 a2 a3 a4)
  rw [hsl, q4 k hf.2.1, ← ha]
set_option maxHeartbeats 200000 in
/-- the core of putfield -/
theorem g_put0 (X : CX E p s m c cc nL own) {ix ci k r : Nat} (a : AV) (hd : decode cc pc = .ok (.putfield ix, 3)) (hf : FL own ix ci k) (hr : r ≤ n ∧ kd r = (ci, 0)) (hfin : (fT ci k).2.2.2 = false ∨ ((fT ci k).2.2.2 = true ∧ meth.name = "<init>" ∧ fC ci = own)) (hn : ∀ b, narrow (tyF ci k) (toV b a) = toV b a) (hfit : ∀ b, fits (tyF ci k) (toV b a) = true) (hU : MU M M2 r) (hv : ∀ b j, fv b M2 (tyF ci j) r j = if j = k then toV b a else fv b M (tyF ci j) r j) (kk : G E p l e R s m args below meth c nL n M2 cells slots Q (pc + 3) lv st) : G E p l e R s m args below meth c nL n M cells slots Q pc lv (a :: rV r :: st) := by
  intro H locs ls d a1 a2 a3 a4
  have X := X.dr d
  obtain ⟨hle, hk⟩ := hr
  have h0 : r ≠ 0 := kd0 (by have := hf.1; omega) hk
  have hc := a2.2.2 r (by omega) hle
  unfold cellAt at hc
  rw [hk] at hc
  rw [if_pos hf.1] at hc
  obtain ⟨cell, q1, q2, q3, q4⟩ := hc
  change W _ _ _ _ _ _ _ _ _ _ _ _ _ _ _ (F0 m pc ls (toV E.2.2.1 a :: rf E.2.2.1 r :: st.map (toV E.2.2.1)))
  rw [rf_pos h0]
  have hcl := cl_at hf.1
  have hap := va_apart (own := own) (X.t args) (cl_in hf.1) (tyF ci) (cl_ty hf.1) (cl_nm hf.1) X.2.2.2.2.1 hcl
  obtain ⟨hS, hfc, kC, hkC, hkind⟩ := X.2.2.2.2.1.1 ci _ hcl
  obtain ⟨cf, kf, fi, f, hi, hsl⟩ := hS k hf.2.1
  have hi' : (s.setDrawn d).fieldFound? (fC ci) (fT ci k).2.1 (fT ci k).2.2.1 = some (cf, kf, fi, f) := by rw [← hf.2.2.1]; exact hi
  have hst := (u_facts hfc hkC (u_lays (X.t args) (cl_in hf.1) hf.2.1) hi).1
  have hlay := X.t args _ (cl_in hf.1 _ (u_in_lay hf.2.1))
  have done : ∀ H' : Heap, H'[E.2.2.1 + r]? = some (cell.setSlot f.slot (toV E.2.2.1 a)) → H'.size = H.size → (∀ q, q ≠ E.2.2.1 + r → H'[q]? = H[q]?) → W p l e R (s.setDrawn d) m args below meth c H' (locs ++ [⟨E.2.2.1 + r, f.slot⟩]) cells slots Q (F0 m (pc + 3) ls (st.map (toV E.2.2.1))) := by
    intro H' e1 e2 e3
    refine kk H' _ ls d a1 (Rep_upd a2 h0 hU e2 e3 ?_) (fun q hq => ?_) a4
    · unfold cellAt
      rw [hk, if_pos hf.1]
      rw [hsl] at e1
      exact t_OB.to (V := updV (fun j => fv E.2.2.1 M (tyF ci j) r j) k (toV E.2.2.1 a)) ⟨_, e1, q2, q3, t_set q4 hap hf.2.1 (toV E.2.2.1 a)⟩ (fun j _ => by rw [hv]; rfl)
    · rcases List.mem_append.mp hq with h | h
      · exact a3 q h
      · rw [List.mem_singleton.mp h]
        show E.2.2.1 < E.2.2.1 + r
        omega
  rcases hfin with hfin | ⟨hfin, hin2, hdecl⟩
  · unfold u_lay at hlay
    rw [if_neg (by rw [hfin]; decide)] at hlay
    have h6 := u_store hfc hkC hkind hlay hi (cl_ty hf.1 k hf.2.1) (hn E.2.2.1) (hfit E.2.2.1)
    exact W.putK X.1 X.2.1 (f := f) ⟨X.2.2.2.1, X.w0 hf.2.2.2 args, ⟨_, _, _, hi'⟩, hst⟩ (by rw [q2]; exact h6) q1 q3 (by rw [hsl]; exact k2_hasslot (q4 k hf.2.1)) rfl rfl hd done
  · unfold u_lay at hlay
    rw [if_pos hfin] at hlay
    have hcf : m.cls = cf := by
      obtain ⟨_, _, c', _, _, _, -, -, hf', -, -, -, hown2, -⟩ := Cond.laysFinal_spec hlay
      have e1 : c' = cf := by have := hi.symm.trans hf'; simp at this; exact this.1.symm
      rw [hf.2.2.1, hdecl] at hown2
      rw [← e1]; exact Option.some.inj (X.2.2.2.1.symm.trans hown2)
    have h6 := u_fits hfc hkC hkind (Or.inr hlay) hi (cl_ty hf.1 k hf.2.1) (hn E.2.2.1) (hfit E.2.2.1)
    exact W.putFinK X.1 X.2.1 X.2.2.2.1 (X.w0 hf.2.2.2 args) hi' hst hcf hin2 (by rw [q2]; exact h6) q1 q3 (by rw [hsl]; exact k2_hasslot (q4 k hf.2.1)) rfl rfl hd done
set_option maxHeartbeats 200000 in
theorem g_putI {P : Prop} (X : CX E p s m c cc nL own) {ix ci k r : Nat} {v : Int32} (hd : decode cc pc = .ok (.putfield ix, 3)) (hf : FL own ix ci k) (ht : tyF ci k = .int) (hfin : (fT ci k).2.2.2 = false ∨ ((fT ci k).2.2.2 = true ∧ meth.name = "<init>" ∧ fC ci = own)) (hw : (r ≤ n ∧ kd r = (ci, 0)) ∧ P) (kk : P → G E p l e R s m args below meth c nL n (sI M r k v) cells slots Q (pc + 3) lv st) : G E p l e R s m args below meth c nL n M cells slots Q pc lv (iV v :: rV r :: st) := by
  refine g_put0 X (iV v) hd hf hw.1 hfin (fun b => by rw [ht]; rfl) (fun b => by rw [ht]; rfl) (MU_sI M r k v) (fun b j => ?_) (kk hw.2)
  by_cases hj : j = k
  · subst hj; rw [ht]; simp [fv, gI, sI, toV]
  · rw [if_neg hj]; cases tyF ci j <;> simp [fv, gI, gD, gL, gR, sI, hj]
set_option maxHeartbeats 200000 in
theorem g_putZ {P : Prop} (X : CX E p s m c cc nL own) {ix ci k r : Nat} {v : Int32} (hd : decode cc pc = .ok (.putfield ix, 3)) (hf : FL own ix ci k) (ht : tyF ci k = .boolean) (hfin : (fT ci k).2.2.2 = false ∨ ((fT ci k).2.2.2 = true ∧ meth.name = "<init>" ∧ fC ci = own)) (hw : (v = 0 ∨ v = 1) ∧ (r ≤ n ∧ kd r = (ci, 0)) ∧ P) (kk : P → G E p l e R s m args below meth c nL n (sI M r k v) cells slots Q (pc + 3) lv st) : G E p l e R s m args below meth c nL n M cells slots Q pc lv (iV v :: rV r :: st) := by
  refine g_put0 X (iV v) hd hf hw.2.1 hfin (fun b => by rw [ht]; rcases hw.1 with h | h <;> rw [h] <;> rfl) (fun b => by rw [ht]; rcases hw.1 with h | h <;> rw [h] <;> rfl) (MU_sI M r k v) (fun b j => ?_) (kk hw.2.2)
  by_cases hj : j = k
  · subst hj; rw [ht]; simp [fv, gI, sI, toV]
  · rw [if_neg hj]; cases tyF ci j <;> simp [fv, gI, gD, gL, gR, sI, hj]
set_option maxHeartbeats 200000 in
theorem g_putD {P : Prop} (X : CX E p s m c cc nL own) {ix ci k r : Nat} {v : UInt64} (hd : decode cc pc = .ok (.putfield ix, 3)) (hf : FL own ix ci k) (ht : tyF ci k = .double) (hfin : (fT ci k).2.2.2 = false ∨ ((fT ci k).2.2.2 = true ∧ meth.name = "<init>" ∧ fC ci = own)) (hw : (r ≤ n ∧ kd r = (ci, 0)) ∧ P) (kk : P → G E p l e R s m args below meth c nL n (sD M r k v) cells slots Q (pc + 3) lv st) : G E p l e R s m args below meth c nL n M cells slots Q pc lv (dV v :: rV r :: st) := by
  refine g_put0 X (dV v) hd hf hw.1 hfin (fun b => by rw [ht]; rfl) (fun b => by rw [ht]; rfl) (MU_sD M r k v) (fun b j => ?_) (kk hw.2)
  by_cases hj : j = k
  · subst hj; rw [ht]; simp [fv, gD, sD, toV]
  · rw [if_neg hj]; cases tyF ci j <;> simp [fv, gI, gD, gL, gR, sD, hj]
set_option maxHeartbeats 200000 in
theorem g_putL {P : Prop} (X : CX E p s m c cc nL own) {ix ci k r : Nat} {v : Int64} (hd : decode cc pc = .ok (.putfield ix, 3)) (hf : FL own ix ci k) (ht : tyF ci k = .long) (hfin : (fT ci k).2.2.2 = false ∨ ((fT ci k).2.2.2 = true ∧ meth.name = "<init>" ∧ fC ci = own)) (hw : (r ≤ n ∧ kd r = (ci, 0)) ∧ P) (kk : P → G E p l e R s m args below meth c nL n (sL M r k v) cells slots Q (pc + 3) lv st) : G E p l e R s m args below meth c nL n M cells slots Q pc lv (lV v :: rV r :: st) := by
  refine g_put0 X (lV v) hd hf hw.1 hfin (fun b => by rw [ht]; rfl) (fun b => by rw [ht]; rfl) (MU_sL M r k v) (fun b j => ?_) (kk hw.2)
  by_cases hj : j = k
  · subst hj; rw [ht]; simp [fv, gL, sL, toV]
  · rw [if_neg hj]; cases tyF ci j <;> simp [fv, gI, gD, gL, gR, sL, hj]
set_option maxHeartbeats 200000 in
theorem g_putR {P : Prop} (X : CX E p s m c cc nL own) {ix ci k r v : Nat} (hd : decode cc pc = .ok (.putfield ix, 3)) (hf : FL own ix ci k) (ht : (∃ C, tyF ci k = .object C) ∨ ∃ t, tyF ci k = .array t) (hfin : (fT ci k).2.2.2 = false ∨ ((fT ci k).2.2.2 = true ∧ meth.name = "<init>" ∧ fC ci = own)) (hw : (r ≤ n ∧ kd r = (ci, 0)) ∧ P) (kk : P → G E p l e R s m args below meth c nL n (sR M r k v) cells slots Q (pc + 3) lv st) : G E p l e R s m args below meth c nL n M cells slots Q pc lv (rV v :: rV r :: st) := by
  refine g_put0 X (rV v) hd hf hw.1 hfin (fun b => ?_) (fun b => ?_) (MU_sR M r k v) (fun b j => ?_) (kk hw.2)
  · show narrow _ (rf b v) = rf b v
    rcases ht with ⟨C, ht⟩ | ⟨t, ht⟩ <;> rw [ht] <;> rcases rf_or b v with ⟨-, h⟩ | ⟨-, h⟩ <;> rw [h] <;> rfl
  · show fits _ (rf b v) = true
    rcases ht with ⟨C, ht⟩ | ⟨t, ht⟩ <;> rw [ht] <;> rcases rf_or b v with ⟨-, h⟩ | ⟨-, h⟩ <;> rw [h] <;> rfl
  · by_cases hj : j = k
    · subst hj; rcases ht with ⟨C, ht⟩ | ⟨t, ht⟩ <;> rw [ht] <;> simp [fv, gR, sR, toV]
    · rw [if_neg hj]; cases tyF ci j <;> simp [fv, gI, gD, gL, gR, sR, hj]
set_option maxHeartbeats 200000 in
theorem g_arr (X : CX E p s m c cc nL own) {H : Heap} (a2 : Rep E n M H) {r k : Nat} (hn : r ≤ n) (hk : (kd r).1 = k) (h7 : 7 ≤ k) (h13 : k < 13) : r ≠ 0 ∧ H[E.2.2.1 + r]? = some (arrV (E.2.1 k) (kd r).2 (fun j => av E.2.2.1 M k r j)) := by
  have h0 : r ≠ 0 := kd0' (by omega)
  have hc := a2.2.2 r (by omega) hn
  unfold cellAt at hc
  rw [if_neg (by omega), hk] at hc
  exact ⟨h0, hc⟩
set_option maxHeartbeats 200000 in
theorem g_alen {P : Prop} (X : CX E p s m c cc nL own) {r : Nat} (hd : decode cc pc = .ok (.arraylength, 1)) (hw : (r ≤ n ∧ 7 ≤ (kd r).1 ∧ (kd r).1 < 13) ∧ P) (kk : P → G E p l e R s m args below meth c nL n M cells slots Q (pc + 1) lv (iV (nI (kd r).2) :: st)) : G E p l e R s m args below meth c nL n M cells slots Q pc lv (rV r :: st) := by
  intro H locs ls d a1 a2 a3 a4
  have X := X.dr d
  obtain ⟨⟨hn, h7, h13⟩, hP⟩ := hw
  obtain ⟨h0, hc⟩ := g_arr X a2 hn rfl h7 h13
  change W _ _ _ _ _ _ _ _ _ _ _ _ _ _ _ (F0 m pc ls (rf E.2.2.1 r :: st.map (toV E.2.2.1)))
  rw [rf_pos h0]
  have hT : ∃ ty, ArrOfT (s.setDrawn d) (E.2.1 (kd r).1) ty := by
    have K := X.2.2.2.2.1.2
    rcases (show (kd r).1 = 7 ∨ (kd r).1 = 8 ∨ (kd r).1 = 9 ∨ (kd r).1 = 10 ∨ (kd r).1 = 11 ∨ (kd r).1 = 12 by omega) with h | h | h | h | h | h <;> rw [h]
    · exact ⟨_, (K 0 _ rfl).1⟩
    · exact ⟨_, (K 1 _ rfl).1⟩
    · exact ⟨_, (K 2 _ rfl).1⟩
    · exact ⟨_, (K 3 _ rfl).1⟩
    · exact ⟨_, (K 4 _ rfl).1⟩
    · exact ⟨_, (K 5 _ rfl).1⟩
  obtain ⟨ty, hT⟩ := hT
  have hA : (s.setDrawn d).isArrayOf (arrV (E.2.1 (kd r).1) (kd r).2 (fun j => av E.2.2.1 M (kd r).1 r j)) ty := hT _ _
  exact W.alen (n := nI (kd r).2) X.1 X.2.1 hc hA (by rw [arrV_size]; rfl) rfl rfl hd (kk hP H locs ls d a1 a2 a3 a4)
set_option maxHeartbeats 200000 in
theorem g_iald {P : Prop} (X : CX E p s m c cc nL own) {r : Nat} {i : Int32} (hd : decode cc pc = .ok (.iaload, 1)) (hw : (r ≤ n ∧ (kd r).1 = 7 ∧ vp_in i (kd r).2) ∧ P) (kk : P → G E p l e R s m args below meth c nL n M cells slots Q (pc + 1) lv (iV (gI M r i.toNatClampNeg) :: st)) : G E p l e R s m args below meth c nL n M cells slots Q pc lv (iV i :: rV r :: st) := by
  intro H locs ls d a1 a2 a3 a4
  have X := X.dr d
  obtain ⟨⟨hn, hk, hi⟩, hP⟩ := hw
  obtain ⟨h0, hc⟩ := g_arr X a2 hn hk (by decide) (by decide)
  change W _ _ _ _ _ _ _ _ _ _ _ _ _ _ _ (F0 m pc ls (.int i :: rf E.2.2.1 r :: st.map (toV E.2.2.1)))
  rw [rf_pos h0]
  have hA : (s.setDrawn d).isArrayOf (arrV (E.2.1 7) (kd r).2 (fun j => av E.2.2.1 M 7 r j)) .int := (X.2.2.2.2.1.2 0 _ rfl).1 _ _
  have hlt : i.toNatClampNeg < (kd r).2 := Nat.not_le.mp fun q => hi (Or.inr q)
  exact W.iald (v := .int (gI M r i.toNatClampNeg)) X.1 X.2.1 hc hA (fun q => by cases q) (by rw [arrV_size]; exact hi) (by rw [arrV_read _ _ hlt]; rfl) rfl rfl hd (kk hP H locs ls d a1 a2 a3 a4)
set_option maxHeartbeats 200000 in
theorem g_cald {P : Prop} (X : CX E p s m c cc nL own) {r : Nat} {i : Int32} (hd : decode cc pc = .ok (.caload, 1)) (hw : (r ≤ n ∧ (kd r).1 = 9 ∧ vp_in i (kd r).2) ∧ P) (kk : P → G E p l e R s m args below meth c nL n M cells slots Q (pc + 1) lv (iV (gI M r i.toNatClampNeg) :: st)) : G E p l e R s m args below meth c nL n M cells slots Q pc lv (iV i :: rV r :: st) := by
  intro H locs ls d a1 a2 a3 a4
  have X := X.dr d
  obtain ⟨⟨hn, hk, hi⟩, hP⟩ := hw
  obtain ⟨h0, hc⟩ := g_arr X a2 hn hk (by decide) (by decide)
  change W _ _ _ _ _ _ _ _ _ _ _ _ _ _ _ (F0 m pc ls (.int i :: rf E.2.2.1 r :: st.map (toV E.2.2.1)))
  rw [rf_pos h0]
  have hA : (s.setDrawn d).isArrayOf (arrV (E.2.1 9) (kd r).2 (fun j => av E.2.2.1 M 9 r j)) .char := (X.2.2.2.2.1.2 2 _ rfl).1 _ _
  have hlt : i.toNatClampNeg < (kd r).2 := Nat.not_le.mp fun q => hi (Or.inr q)
  exact W.cald (v := .int (gI M r i.toNatClampNeg)) X.1 X.2.1 hc hA (fun q => by cases q) (by rw [arrV_size]; exact hi) (by rw [arrV_read _ _ hlt]; rfl) rfl rfl hd (kk hP H locs ls d a1 a2 a3 a4)
set_option maxHeartbeats 200000 in
theorem g_aald {P : Prop} (X : CX E p s m c cc nL own) {r : Nat} {i : Int32} (hd : decode cc pc = .ok (.aaload, 1)) (hw : (r ≤ n ∧ (10 ≤ (kd r).1 ∧ (kd r).1 < 13) ∧ vp_in i (kd r).2) ∧ P) (kk : P → G E p l e R s m args below meth c nL n M cells slots Q (pc + 1) lv (rV (gR M r i.toNatClampNeg) :: st)) : G E p l e R s m args below meth c nL n M cells slots Q pc lv (iV i :: rV r :: st) := by
  intro H locs ls d a1 a2 a3 a4
  have X := X.dr d
  obtain ⟨⟨hn, ⟨h10, h13⟩, hi⟩, hP⟩ := hw
  obtain ⟨h0, hc⟩ := g_arr X a2 hn rfl (by omega) h13
  change W _ _ _ _ _ _ _ _ _ _ _ _ _ _ _ (F0 m pc ls (.int i :: rf E.2.2.1 r :: st.map (toV E.2.2.1)))
  rw [rf_pos h0]
  have hlt : i.toNatClampNeg < (kd r).2 := Nat.not_le.mp fun q => hi (Or.inr q)
  have hT : ∃ C, ArrOfT (s.setDrawn d) (E.2.1 (kd r).1) (.object C) := by
    have K := X.2.2.2.2.1.2
    rcases (show (kd r).1 = 10 ∨ (kd r).1 = 11 ∨ (kd r).1 = 12 by omega) with h | h | h <;> rw [h]
    · exact ⟨_, (K 3 _ rfl).1⟩
    · exact ⟨_, (K 4 _ rfl).1⟩
    · exact ⟨_, (K 5 _ rfl).1⟩
  obtain ⟨C, hT⟩ := hT
  have hA : (s.setDrawn d).isArrayOf (arrV (E.2.1 (kd r).1) (kd r).2 (fun j => av E.2.2.1 M (kd r).1 r j)) (.object C) := hT _ _
  exact W.aald (v := rf E.2.2.1 (gR M r i.toNatClampNeg)) X.1 X.2.1 hc hA rfl (fun q => by cases q) (by rw [arrV_size]; exact hi) (by rw [arrV_read _ _ hlt]; unfold av; rw [if_neg (by omega), if_neg (by omega)]) rfl rfl hd (kk hP H locs ls d a1 a2 a3 a4)
set_option maxHeartbeats 200000 in
/-- behind a store in an array -/
theorem g_ast0 (X : CX E p s m c cc nL own) {H H2 : Heap} {locs : List Loc} (a2 : Rep E n M H) (a3 : ∀ q ∈ locs, Ab E q.base) {r k j : Nat} {v : Value} (hn : r ≤ n) (hk : (kd r).1 = k) (h7 : 7 ≤ k) (h13 : k < 13) (hU : MU M M2 r) (hv : ∀ i, av E.2.2.1 M2 k r i = if i = j then v else av E.2.2.1 M k r i) (e1 : H2[E.2.2.1 + r]? = some ((arrV (E.2.1 k) (kd r).2 (fun j => av E.2.2.1 M k r j)).setSlot j v)) (e2 : H2.size = H.size) (e3 : ∀ q, q ≠ E.2.2.1 + r → H2[q]? = H[q]?) : Rep E n M2 H2 ∧ ∀ q ∈ locs ++ [⟨E.2.2.1 + r, j⟩], Ab E q.base := by
  have h0 : r ≠ 0 := kd0' (by omega)
  refine ⟨Rep_upd a2 h0 hU e2 e3 ?_, fun q hq => ?_⟩
  · unfold cellAt
    rw [if_neg (by omega), hk, e1, arrV_store]
    congr 2
    funext i
    rw [hv]
    rfl
  · rcases List.mem_append.mp hq with h | h
    · exact a3 q h
    · rw [List.mem_singleton.mp h]
      show E.2.2.1 < E.2.2.1 + r
      omega
set_option maxHeartbeats 200000 in
theorem g_iast {P : Prop} (X : CX E p s m c cc nL own) {r : Nat} {i v : Int32} (hd : decode cc pc = .ok (.iastore, 1)) (hw : (r ≤ n ∧ (kd r).1 = 7 ∧ vp_in i (kd r).2) ∧ P) (kk : P → G E p l e R s m args below meth c nL n (sI M r i.toNatClampNeg v) cells slots Q (pc + 1) lv st) : G E p l e R s m args below meth c nL n M cells slots Q pc lv (iV v :: iV i :: rV r :: st) := by
  intro H locs ls d a1 a2 a3 a4
  have X := X.dr d
  obtain ⟨⟨hn, hk, hi⟩, hP⟩ := hw
  obtain ⟨h0, hc⟩ := g_arr X a2 hn hk (by decide) (by decide)
  change W _ _ _ _ _ _ _ _ _ _ _ _ _ _ _ (F0 m pc ls (.int v :: .int i :: rf E.2.2.1 r :: st.map (toV E.2.2.1)))
  rw [rf_pos h0]
  have hA : (s.setDrawn d).isArrayOf (arrV (E.2.1 7) (kd r).2 (fun j => av E.2.2.1 M 7 r j)) .int := (X.2.2.2.2.1.2 0 _ rfl).1 _ _
  refine W.iast X.1 X.2.1 hc hA (fun q => by cases q) (by rw [arrV_size]; exact hi) rfl rfl hd (fun H2 e1 e2 e3 => ?_)
  obtain ⟨b1, b2⟩ := g_ast0 X a2 a3 hn hk (by decide) (by decide) (MU_sI M r i.toNatClampNeg v) (fun j => by by_cases hj : j = i.toNatClampNeg <;> simp [av, gI, sI, hj]) e1 e2 e3
  exact kk hP H2 _ ls d a1 b1 b2 a4
set_option maxHeartbeats 200000 in
theorem g_cast {P : Prop} (X : CX E p s m c cc nL own) {r : Nat} {i v : Int32} (hd : decode cc pc = .ok (.castore, 1)) (hw : (r ≤ n ∧ (kd r).1 = 9 ∧ vp_in i (kd r).2) ∧ P) (kk : P → G E p l e R s m args below meth c nL n (sI M r i.toNatClampNeg (vp_nar .char v)) cells slots Q (pc + 1) lv st) : G E p l e R s m args below meth c nL n M cells slots Q pc lv (iV v :: iV i :: rV r :: st) := by
  intro H locs ls d a1 a2 a3 a4
  have X := X.dr d
  obtain ⟨⟨hn, hk, hi⟩, hP⟩ := hw
  obtain ⟨h0, hc⟩ := g_arr X a2 hn hk (by decide) (by decide)
  change W _ _ _ _ _ _ _ _ _ _ _ _ _ _ _ (F0 m pc ls (.int v :: .int i :: rf E.2.2.1 r :: st.map (toV E.2.2.1)))
  rw [rf_pos h0]
  have hA : (s.setDrawn d).isArrayOf (arrV (E.2.1 9) (kd r).2 (fun j => av E.2.2.1 M 9 r j)) .char := (X.2.2.2.2.1.2 2 _ rfl).1 _ _
  refine W.cast X.1 X.2.1 hc hA (fun q => by cases q) (by rw [arrV_size]; exact hi) rfl rfl hd (fun H2 e1 e2 e3 => ?_)
  obtain ⟨b1, b2⟩ := g_ast0 (M2 := sI M r i.toNatClampNeg (vp_nar .char v)) X a2 a3 hn hk (by decide) (by decide) (MU_sI M r i.toNatClampNeg (vp_nar .char v)) (fun j => by
    by_cases hj : j = i.toNatClampNeg
    · rw [if_pos hj, hj]
      show Value.int (gI (sI M r i.toNatClampNeg (vp_nar .char v)) r i.toNatClampNeg) = narrow .char (.int v)
      simp only [gI, sI, and_self, if_true]
      rfl
    · rw [if_neg hj]
      simp [av, gI, sI, hj]) e1 e2 e3
  exact kk hP H2 _ ls d a1 b1 b2 a4
/-- of which class the elements of an array of objects are -/
def elC (k : Nat) : Nat := if k = 10 then 1 else if k = 11 then 2 else 0
set_option maxHeartbeats 200000 in
theorem g_aast {P : Prop} (X : CX E p s m c cc nL own) {r v : Nat} {i : Int32} (hd : decode cc pc = .ok (.aastore, 1)) (hw : (r ≤ n ∧ (10 ≤ (kd r).1 ∧ (kd r).1 < 13) ∧ vp_in i (kd r).2 ∧ v ≤ n ∧ kd v = (elC (kd r).1, 0)) ∧ P) (kk : P → G E p l e R s m args below meth c nL n (sR M r i.toNatClampNeg v) cells slots Q (pc + 1) lv st) : G E p l e R s m args below meth c nL n M cells slots Q pc lv (rV v :: iV i :: rV r :: st) := by
  intro H locs ls d a1 a2 a3 a4
  have X := X.dr d
  obtain ⟨⟨hn, ⟨h10, h13⟩, hi, hvn, hvk⟩, hP⟩ := hw
  obtain ⟨h0, hc⟩ := g_arr X a2 hn rfl (by omega) h13
  have hel : elC (kd r).1 < 7 := by unfold elC; split <;> (try split) <;> omega
  have hv0 : v ≠ 0 := kd0 (by omega) hvk
  have hcv := a2.2.2 v (by omega) hvn
  unfold cellAt at hcv
  rw [hvk] at hcv
  rw [if_pos hel] at hcv
  obtain ⟨cellV, g1, g2, g3, -⟩ := hcv
  change W _ _ _ _ _ _ _ _ _ _ _ _ _ _ _ (F0 m pc ls (rf E.2.2.1 v :: .int i :: rf E.2.2.1 r :: st.map (toV E.2.2.1)))
  rw [rf_pos h0, rf_pos hv0]
  have hlt : i.toNatClampNeg < (kd r).2 := Nat.not_le.mp fun q => hi (Or.inr q)
  have hi0 : ¬ i < 0 := fun q => hi (Or.inl q)
  have hcls := (X.2.2.2.2.1.1 _ _ (cl_at hel)).2
  have hRA : va_RA (s.setDrawn d) (E.2.1 (kd r).1) (.object (fC (elC (kd r).1))) := by
    have K := X.2.2.2.2.1.2
    rcases (show (kd r).1 = 10 ∨ (kd r).1 = 11 ∨ (kd r).1 = 12 by omega) with h | h | h <;> rw [h]
    · exact (K 3 _ rfl).2
    · exact (K 4 _ rfl).2
    · exact (K 5 _ rfl).2
  obtain ⟨kA, comp, k1, k2, k3, -⟩ := hRA
  have hcomp : comp = E.1.1 (elC (kd r).1) := Option.some.inj (k3.symm.trans hcls.1)
  subst hcomp
  obtain ⟨kC, hkC, -⟩ := hcls.2
  refine W.aast X.1 X.2.1 hc (fun q h => by cases h) (fun h => by cases h) k1 k2 rfl hkC ⟨hi0, by rw [arrV_size]; exact hlt⟩ g1 (fun q h => by rw [g3] at h; cases h) (by rw [g2]; exact hkC) (by rw [g2]; exact va_assign hcls) rfl rfl hd (fun H2 e1 e2 e3 => ?_)
  obtain ⟨b1, b2⟩ := g_ast0 (M2 := sR M r i.toNatClampNeg v) X a2 a3 hn rfl (by omega) h13 (MU_sR M r i.toNatClampNeg v) (fun j => by
    have n8 : ¬ (kd r).1 = 8 := by omega
    have n9 : ¬ (kd r).1 ≤ 9 := by omega
    simp only [av, if_neg n8, if_neg n9]
    by_cases hj : j = i.toNatClampNeg
    · rw [if_pos hj]; simp [gR, sR, hj, rf_pos hv0]
    · rw [if_neg hj]; simp [gR, sR, hj]) e1 e2 e3
  exact kk hP H2 _ ls d a1 b1 b2 a4
end GH
