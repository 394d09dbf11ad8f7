/-! the claim, from the pure part (w_law holds of every script) -/
def Mz : Mem := (fun _ _ => 0, fun _ _ => 0, fun _ _ => 0, fun _ _ => 0)
set_option maxHeartbeats 4000000 in
theorem whole_start_open (hpure : ∀ (xs : Nat → Int32) (L : Nat), L ≤ 2048 → w_law xs L Mz) {p : Program} {e : Env} {s : State} {m : MethodId} {below : List Frame} {meth : Method} {c : Code} (l : Launch) (hflags : l.flags = flags0) {b L : Nat} {xs : Nat → Int32} (hL : L ≤ 2048) (C0 : lw_At p s m meth c b L xs) : W p l e room_1 s m #[Value.ref b] below meth c s.heap [] 0 0 (lw_Z below #[Value.ref b] s) (entryFrame m ([Value.ref b] : List Value).toArray 8) := by
  obtain ⟨hx, hb, hr, hml, hown, hts, hX, hbl, hlocks, hgv⟩ := id C0
  obtain ⟨E, e1, e2, hK⟩ := KK_start hbl hts hgv
  have hd0 := Drawn.sameBut.refl s.drawn lw_cs
  refine W.base ?_
  have hl := lv_entry ([.ref b]) (n := 8) (Nat.le_of_ble_eq_true rfl)
  rw [lg_entry_eq]
  have X : CX E p s m c cL_law 8 RL := ⟨hx, hb, hml, hown, hK⟩
  have S : SX E s b L xs := ⟨by rw [e2]; exact hX, by omega, by rw [e2]; exact e1, e2.symm⟩
  have hR : Rep E 0 Mz s.heap := ⟨by rw [e1], fun q _ => by rw [e2], fun r h1 h2 => by omega⟩
  exact law_all l E X S hr hlocks Mz (hpure xs L hL) s.heap [] _ s.drawn hd0 hR (fun q h => absurd h List.not_mem_nil) hl
