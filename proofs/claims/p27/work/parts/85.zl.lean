/-! p27, 15: the law from its entry (the pure part's end) -/
variable {zz : Nat}
variable {M M' A : Mem} {b b' c h p k k' tl tl' n ev : Nat} {s s' z z' : S3} {Hs Hs' : Nat → S3} {f f' : Bool} {q tx tx' : Nat → Nat}
def Mz : Mem := (fun _ _ => 0, fun _ _ => 0, fun _ _ => 0, fun _ _ => 0)
theorem z_readParts0 {K : Int32 → Mem → Prop} (I : CI M b s Hs k z f q 0 tx) (H : K (-100) M) : w_X5_readParts (448 + zz) M 1 K := by
  have i4 := I.1.2.2.2.1
  have T := I.txx
  have sg : ∀ {K : Int32 → Mem → Prop}, K (-1) M → w_X4_signAt (448 + zz) M 447 (nI 0) K := fun h => c_signN T 0 (Nat.le_refl _) (by decide) h
  refine ⟨(k1 (zz := zz)), m_rR i4 ⟨(k447 (zz := zz)), ?_⟩⟩
  show w_X4_firstFault_L4 (448 + zz) _ (3999 + 1) M 447 (nI 0) 0
  exact cF (by decide) ⟨(k447 (zz := zz)), sg (cF (by decide) (sg (cF (by decide) (cF (by decide) H))))⟩
theorem law_k : Al room_1 0 0 ∧ ((0 + 1) - 0 + rmX5_init.cells ≤ room_1.cells ∧ SL (0 + 1) - SL 0 + rmX5_init.slots ≤ room_1.slots) ∧ ((0 + 1) - 0 + rmX5_init.cells ≤ 0 + 1 + 447 - 0 ∧ SL (0 + 1) - SL 0 + rmX5_init.slots ≤ SL (0 + 1 + 447) - SL 0) := by
  unfold Al
  decide +kernel
theorem s0_we : WEs s0 := we_begin 4 (by decide)
theorem law_ok : w_law Mz := by
  obtain ⟨a1, a2, a3⟩ := law_k
  refine ⟨⟨by decide, a1⟩, m_eq (m_eq ⟨a2, a3, Nat.succ_ne_zero _, ?_⟩)⟩
  refine i_X5 (A := zr Mz 1) (fun M' I => ?_)
  have I : CI M' 0 s0 (fun _ => s0) 0 s0 false q0 0 (fun _ => 0) := I
  have n4 : s0.1 0 = 4 := rfl
  have n2 : s0.1 2 = 0 := rfl
  have wn : ∀ i, i < 4 → ¬ WDt i 0 (fun _ => 0) := fun i hi w => by
    obtain ⟨-, l4, -⟩ := cmd_len i hi
    have : 0 = lnN i := w.1
    omega
  obtain ⟨zz, h0, h1⟩ : ∃ zz, zz = 0 ∧ 0 + 1 + 447 = 448 + zz := ⟨0, rfl, rfl⟩
  have rm : RM27 zz := by rw [h0]; exact rm_ok 0 (by decide)
  have r0 := rm_c rm 0 0 (by decide) (by decide)
  have fin : ∀ M', CI M' 0 s0 (fun _ => s0) 0 s0 false q0 0 (fun _ => 0) → w_L_law_L100 4000 (448 + zz) M' 1 (0 : Int32) := fun M' I => by
    rw [h0]
    exact z_law 26 0 4000 M' rfl (by decide) ⟨s0, _, 0, ⟨_, _, _, _, _, I⟩, s0_we, fun i hi => by omega⟩
  rw [h1]
  clear h0 h1
  refine ⟨r0, k1 (zz := zz), z_undo0 (zz := zz) I (cP rfl ⟨r0, z_restore0 (zz := zz) I (cP rfl ⟨r0, z_readParts0 (zz := zz) I (cP rfl ⟨r0, z_performN (zz := zz) I wn (cP rfl ⟨r0, z_count (zz := zz) I 0 (by decide) (cP rfl ⟨r0, z_buildN (zz := zz) 9 (Or.inr (by decide)) (cP rfl ?_)⟩)⟩)⟩)⟩)⟩)⟩
  exact ⟨r0, z_calibrateN (zz := zz) I 4 1 (Or.inr (by rw [n4]; decide)) (cP rfl ⟨r0, z_fits (zz := zz) I 0 0 (Or.inr (by rw [n2]; decide)) ⟨0, by rw [n4]; decide, rfl⟩ (cP rfl ⟨r0, z_pressureBits (zz := zz) I 0 (by decide) (cT (lg_self _) (fin M' I))⟩)⟩)⟩
set_option maxHeartbeats 4000000 in
theorem whole_start_open (hpure : w_law Mz) {p : Program} {e : Env} {s : State} {m : MethodId} {below : List Frame} {meth : Method} {c : Code} (l : Launch) (hflags : l.flags = flags0) {b L : Nat} {xs : Nat → Int32} (hL : L ≤ 260) (C0 : lw_At p s m meth c b L xs) : W p l e room_1 s m #[Value.ref b] below meth c s.heap [] 0 0 (lw_Z below #[Value.ref b] s) (entryFrame m ([Value.ref b] : List Value).toArray 11) := by
  obtain ⟨hx, hb, hr, hml, hown, hts, hX, hbl, hlocks, hgv⟩ := id C0
  obtain ⟨E, e1, e2, e3, hK⟩ := KK_start (by omega) hX hbl hts hgv
  have hd0 := Drawn.sameBut.refl s.drawn lw_cs
  refine W.base ?_
  have hl := lv_entry ([.ref b]) (n := 11) (Nat.le_of_ble_eq_true rfl)
  rw [lg_entry_eq]
  have X : CX E p s m c cL_law 11 RL := ⟨hx, hb, hml, hown, hK⟩
  have hR : Rep E 0 Mz s.heap := ⟨by rw [e1], fun q _ => by rw [e2], fun r h1 h2 => by omega⟩
  exact law_all (below := below) (e := e) l E (b := b) X e2.symm hr hlocks Mz hpure s.heap [] _ s.drawn hd0 hR (fun q h => absurd h List.not_mem_nil) (by rw [e3]; exact hl)
