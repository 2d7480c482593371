/-! THE LAW'S START: what the Statement gives of it -/
/-- a table of Reader's -/
theorem st_tab {args : Array Value} {s : State} {nm : String} {l : List Nat} (hN : l.length < 2 ^ 31) (hl : (Cond.laysStatic "FerryLand$Reader" nm "[I").before args s = true) (hini : (Cond.initialized "FerryLand$Reader").before args s = true) (harr : (Cond.arrayOf (.static "FerryLand$Reader" nm "[I") .int).before args s = true) (hlen : (Cond.eq (.length (.static "FerryLand$Reader" nm "[I")) (.int (Int32.ofNat l.length))).before args s = true)
    (hel : ∀ j, j < l.length → (Cond.eq (.elem (.static "FerryLand$Reader" nm "[I") (.int (Int32.ofNat j))) (.int (nI (l.getD j 0)))).before args s = true) : ∃ t, t < s.heap.size ∧ va_Z "FerryLand$Reader" nm "[I" (.ref t) (fun q => s.heap.size ≤ q) s s.heap ∧ va_T .int t l.length (fun j => .int (nI (l.getD j 0))) (fun q => s.heap.size ≤ q) s s.heap := by
  obtain ⟨t, h1, h2⟩ := va_Tof (f := fun j => .int (nI (l.getD j 0))) (A := fun q => s.heap.size ≤ q) hN harr (va_eqt hlen) (fun j hj => va_eqt (hel j hj)) (fun a h => Nat.not_le.mpr h)
  refine ⟨t, ?_, va_Zref hl hini h1 (fun a h => Nat.not_le.mpr h), h2⟩
  obtain ⟨c, c1, -⟩ := h2
  exact (Array.getElem?_eq_some_iff.mp c1).1
theorem st_mem {T : List Cond} {f : Nat → Cond} {a n : Nat} (h : (T.drop a).take n = (List.range n).map f) : ∀ j, j < n → f j ∈ T := fun j hj => List.mem_of_mem_drop (List.mem_of_mem_take (by rw [h]; exact List.mem_map.mpr ⟨j, List.mem_range.mpr hj, rfl⟩))
theorem st_F : ∀ j, j < rtF.length → Cond.eq (.elem (.static "FerryLand$Reader" "FIRST" "[I") (.int (Int32.ofNat j))) (.int (nI (rtF.getD j 0))) ∈ flatC (Jvm.Cond.and given_1 narrow_1) := st_mem (a := 12) (f := fun j => Cond.eq (.elem (.static "FerryLand$Reader" "FIRST" "[I") (.int (Int32.ofNat j))) (.int (nI (rtF.getD j 0)))) (by decide +kernel)
theorem st_N : ∀ j, j < rtN.length → Cond.eq (.elem (.static "FerryLand$Reader" "NUMBERS" "[I") (.int (Int32.ofNat j))) (.int (nI (rtN.getD j 0))) ∈ flatC (Jvm.Cond.and given_1 narrow_1) := st_mem (a := 20) (f := fun j => Cond.eq (.elem (.static "FerryLand$Reader" "NUMBERS" "[I") (.int (Int32.ofNat j))) (.int (nI (rtN.getD j 0)))) (by decide +kernel)
theorem st_L : ∀ j, j < rtL.length → Cond.eq (.elem (.static "FerryLand$Reader" "LEAST" "[I") (.int (Int32.ofNat j))) (.int (nI (rtL.getD j 0))) ∈ flatC (Jvm.Cond.and given_1 narrow_1) := st_mem (a := 42) (f := fun j => Cond.eq (.elem (.static "FerryLand$Reader" "LEAST" "[I") (.int (Int32.ofNat j))) (.int (nI (rtL.getD j 0)))) (by decide +kernel)
theorem st_M : ∀ j, j < rtM.length → Cond.eq (.elem (.static "FerryLand$Reader" "MOST" "[I") (.int (Int32.ofNat j))) (.int (nI (rtM.getD j 0))) ∈ flatC (Jvm.Cond.and given_1 narrow_1) := st_mem (a := 102) (f := fun j => Cond.eq (.elem (.static "FerryLand$Reader" "MOST" "[I") (.int (Int32.ofNat j))) (.int (nI (rtM.getD j 0)))) (by decide +kernel)
theorem st_X : ∀ j, j < tx_bytes.length → Cond.eq (.elem (.field (.string "FerryLand$Reader" 195) "java/lang/String" "value" "[B") (.int (Int32.ofNat j))) (.int (tx_bytes.getD j 0)) ∈ flatC (Jvm.Cond.and given_1 narrow_1) := st_mem (a := 163) (f := fun j => Cond.eq (.elem (.field (.string "FerryLand$Reader" 195) "java/lang/String" "value" "[B") (.int (Int32.ofNat j))) (.int (tx_bytes.getD j 0))) (by decide +kernel)
/-- the four tables -/
theorem st_four {args : Array Value} {s : State} (hts : ∀ w ∈ lw_tbl, w.before args s = true) (hgv : (Jvm.Cond.and given_1 narrow_1).before args s = true) : ∃ a b c d : Nat, (a < s.heap.size ∧ va_Z "FerryLand$Reader" "FIRST" "[I" (.ref a) (fun q => s.heap.size ≤ q) s s.heap ∧ va_T .int a rtF.length (fun j => .int (nI (rtF.getD j 0))) (fun q => s.heap.size ≤ q) s s.heap) ∧ (b < s.heap.size ∧ va_Z "FerryLand$Reader" "NUMBERS" "[I" (.ref b) (fun q => s.heap.size ≤ q) s s.heap ∧ va_T .int b rtN.length (fun j => .int (nI (rtN.getD j 0))) (fun q => s.heap.size ≤ q) s s.heap) ∧ (c < s.heap.size ∧ va_Z "FerryLand$Reader" "LEAST" "[I" (.ref c) (fun q => s.heap.size ≤ q) s s.heap ∧ va_T .int c rtL.length (fun j => .int (nI (rtL.getD j 0))) (fun q => s.heap.size ≤ q) s s.heap) ∧ (d < s.heap.size ∧ va_Z "FerryLand$Reader" "MOST" "[I" (.ref d) (fun q => s.heap.size ≤ q) s s.heap ∧ va_T .int d rtM.length (fun j => .int (nI (rtM.getD j 0))) (fun q => s.heap.size ≤ q) s s.heap) := by
  have hs := flat_of_before _ hgv
  have hini : (Cond.initialized "FerryLand$Reader").before args s = true := hts _ (by decide +kernel)
  obtain ⟨a, ha⟩ := st_tab (nm := "FIRST") (l := rtF) (by decide) (hts _ (by decide +kernel)) hini (hs _ (by decide +kernel)) (hs _ (by decide +kernel)) (fun j hj => hs _ (st_F j hj))
  obtain ⟨b, hb⟩ := st_tab (nm := "NUMBERS") (l := rtN) (by decide) (hts _ (by decide +kernel)) hini (hs _ (by decide +kernel)) (hs _ (by decide +kernel)) (fun j hj => hs _ (st_N j hj))
  obtain ⟨c, hc⟩ := st_tab (nm := "LEAST") (l := rtL) (by decide) (hts _ (by decide +kernel)) hini (hs _ (by decide +kernel)) (hs _ (by decide +kernel)) (fun j hj => hs _ (st_L j hj))
  obtain ⟨d, hd⟩ := st_tab (nm := "MOST") (l := rtM) (by decide) (hts _ (by decide +kernel)) hini (hs _ (by decide +kernel)) (hs _ (by decide +kernel)) (fun j hj => hs _ (st_M j hj))
  exact ⟨a, b, c, d, ha, hb, hc, hd⟩
/-- the words' text -/
theorem st_text {args : Array Value} {s : State} (hts : ∀ w ∈ lw_tbl, w.before args s = true) (hgv : (Jvm.Cond.and given_1 narrow_1).before args s = true) : ∃ a v : Nat, a < s.heap.size ∧ vk_S 1 [tx_bytes.length] [tx_bytes] (fun _ => a) (fun _ => v) (fun q => s.heap.size ≤ q) s s.heap ∧ vk_R "FerryLand$Reader" tx_index tx_text a s := by
  have hs := flat_of_before _ hgv
  have z : ∀ i, i < 1 → i = 0 := fun i hi => by omega
  obtain ⟨adK, adV, h1, h2⟩ := vk_Sof (args := args) (s := s) (N := 1) (tm := fun _ => .string "FerryLand$Reader" 195) (len := [tx_bytes.length]) (byt := [tx_bytes]) (A := fun q => s.heap.size ≤ q) (fun i hi => by rw [z i hi]; decide) (fun i _ => hs _ (by decide +kernel)) (fun i _ => hs _ (by decide +kernel)) (fun i _ => hs _ (by decide +kernel)) (fun i hi => by rw [z i hi]; exact hs _ (by decide +kernel)) (fun i hi j hj => by rw [z i hi] at hj ⊢; exact hs _ (st_X j hj)) (fun i j hi hj hij => absurd ((z i hi).trans (z j hj).symm) hij) (fun a h => Nat.not_le.mpr h)
  refine ⟨adK 0, adV 0, ?_, ⟨fun i hi => ?_, fun i j hi hj _ => (z i hi).trans (z j hj).symm⟩, vk_R.of (A := args) (hts (.stringRef "FerryLand$Reader" tx_index tx_text) (by decide +kernel)) (h2 0 (by omega))⟩
  · obtain ⟨c, c1, -⟩ := (h1.1 0 (by omega)).1
    exact (Array.getElem?_eq_some_iff.mp c1).1
  · rw [z i hi]
    exact h1.1 0 (by omega)
/-- the rows' classes -/
theorem st_arr {s : State} {args : Array Value} {ty : FieldType} (h : (Cond.arrayClass ty).before args s = true) : ∃ c, ArrOfT s c ty ∧ s.vm.findClass ("[" ++ ty.toString) = some c := by
  obtain ⟨c, k, comp, f1, f2, f3⟩ := Cond.arrayClass_spec h
  exact ⟨c, fun N z => ⟨(fun k h => by cases h), k, f2, comp, f3⟩, f1⟩
theorem st_over {s : State} {args : Array Value} {C : String} (h : (Cond.arrayOver (.object C)).before args s = true) : ∃ c, ArrOfT s c (.object C) ∧ va_RA s c (.object C) := by
  obtain ⟨comp, c, k, h1, -, h3, h4, h5⟩ := Cond.arrayOver_spec h
  exact ⟨c, fun N z => ⟨(fun k h => by cases h), k, h3, comp, h4⟩, k, comp, h3, h4, h1, h5⟩
