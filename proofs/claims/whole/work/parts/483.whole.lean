/-! THE LAW, from its entry -/
theorem whole_start {p : Program} {e : Env} {s : State} {m : MethodId} {below : List Frame} {meth : Method} {c : Code} (l : Launch) (hflags : l.flags = flags0) {b L : Nat} {xs : Nat → Int32} (hL : L ≤ 3072) (C0 : lw_At p s m meth c b L xs) : W p l e room_1 s m #[Value.ref b] below meth c s.heap [] 0 0 (lw_Z below #[Value.ref b] s) (entryFrame m ([Value.ref b] : List Value).toArray 4) := by
  obtain ⟨g, g1, g2, hCK, hR⟩ := st_world C0
  obtain ⟨hx, hb, hr, hml, hown, hts, hX, hbl, hlocks, hgv⟩ := C0
  have hl := lv_entry ([.ref b]) (n := 4) (Nat.le_of_ble_eq_true rfl)
  rw [lg_entry_eq]
  generalize (lg_sl ([.ref b]) ++ List.replicate (4 - (lg_sl ([.ref b])).length) Slot.unset).toArray = ls at hl ⊢
  have ea : adr g 0 = b := (if_pos (by decide)).trans g2
  have hl2 : lv_has ls 4 (lcv g [(0, .ref 0)]) := by
    show lv_has ls 4 [(0, .ref (adr g 0))]
    rw [ea]
    exact hl
  have K := (law_entry (l := l) (g := g) (N := L) (xs := xs) hL) p e s m #[Value.ref b] below meth c s.heap [] ls ⟨hx, hb, hr, hml, hown, fun w hw => hts w (gt_in hw), hlocks, hCK, Nat.le_of_eq g1, fun h => absurd h (by decide)⟩ hR va_S.rf hl2
  intro T hT X
  obtain ⟨t, k1, k2⟩ := K T hT X
  have k3 := k2 ⟨by rw [g2], g1.symm, by rw [g1, g2]; exact hbl, by rw [g2]; exact hX⟩
  rw [g2] at k3
  exact ⟨t, k1, k3⟩
