/-! THE ABSTRACT MACHINE's rows of ends, of calls and of making -/
section RE
variable {l : Launch} {g : g_T} {cx : cx_T} {Rm : Room} {pc : Nat} {ls : List (Nat × Value)} {st : List Value} {n z mc ms : Nat} {w w' : w_T} {v : Option Value}
theorem Wp.iret {x : Int32} {ty : FieldType} (hr : cx.2.2.2.1 = some ty) (hx : narrow ty (.int x) = .int x) (d : decode cx.2.1 pc = .ok (.ireturn, 1)) (hn : n ≤ mc) (hz : z ≤ ms) (hv : v = some (.int x)) (hw : w' = w) : Wp l g cx Rm (ME g cx mc ms v w') pc ls [.int x] n z w := by
  intro p e s m args below meth c0 H locs rl C hR hS hL
  subst hv hw
  refine W.widen hn hz (W.zret C.1 C.2.1 (C.2.2.1.trans hr) hx (fun t ht _ => ⟨rfl, by rw [ht]; exact hR, fun b h => (by cases h), hS.F ht⟩) hS.2.2 d C.2.2.2.2.2.2.1)
theorem Wp.lret {x : Int64} (hr : cx.2.2.2.1 = some .long) (d : decode cx.2.1 pc = .ok (.lreturn, 1)) (hn : n ≤ mc) (hz : z ≤ ms) (hv : v = some (.long x)) (hw : w' = w) : Wp l g cx Rm (ME g cx mc ms v w') pc ls [.long x] n z w := by
  intro p e s m args below meth c0 H locs rl C hR hS hL
  subst hv hw
  refine W.widen hn hz (W.lret C.1 C.2.1 (C.2.2.1.trans hr) (fun t ht _ => ⟨rfl, by rw [ht]; exact hR, fun b h => (by cases h), hS.F ht⟩) hS.2.2 d C.2.2.2.2.2.2.1)
theorem Wp.vret (hr : cx.2.2.2.1 = none) (d : decode cx.2.1 pc = .ok (.return_, 1)) (hn : n ≤ mc) (hz : z ≤ ms) (hv : v = none) (hw : w' = w) : Wp l g cx Rm (ME g cx mc ms v w') pc ls [] n z w := by
  intro p e s m args below meth c0 H locs rl C hR hS hL
  subst hv hw
  refine W.widen hn hz (W.vret C.1 C.2.1 (C.2.2.1.trans hr) (fun t ht _ => ⟨rfl, by rw [ht]; exact hR, fun b h => (by cases h), hS.F ht⟩) hS.2.2 d C.2.2.2.2.2.2.1)
theorem Wp.aret {o : Option Nat} {ty : FieldType} (hr : cx.2.2.2.1 = some ty) (hrt : (∃ q, ty = .object q) ∨ ∃ t, ty = .array t) (d : decode cx.2.1 pc = .ok (.areturn, 1)) (hn : n ≤ mc) (hz : z ≤ ms) (hv : v = some (va_rf o)) (hw : w' = w) (ho : ∀ b, o = some b → Tw w.1 b cx.2.2.2.2) : Wp l g cx Rm (ME g cx mc ms v w') pc ls [va_rf o] n z w := by
  intro p e s m args below meth c0 H locs rl C hR hS hL
  subst hv hw
  refine W.widen hn hz (W.aret C.1 C.2.1 (C.2.2.1.trans hr) hrt (v := cv g (va_rf o)) ?_ (fun t ht _ => ⟨rfl, by rw [ht]; exact hR, fun b h => ?_, hS.F ht⟩) hS.2.2 d C.2.2.2.2.2.2.1)
  · cases o with
    | none => exact Or.inl rfl
    | some b => exact Or.inr ⟨_, rfl⟩
  · cases o with
    | none => cases h
    | some b2 => cases h; exact ho _ rfl
end RE
theorem gt_ws {cx : cx_T} (h : Cond.code cx.1 cx.2.1 cx.2.2.1 cx.2.2.2.1 ∈ gt) : GoodIn gt (cxws cx) := fun w hw => by
  rcases List.mem_cons.mp hw with rfl | hw
  · exact ⟨h, gt_good h⟩
  · exact ⟨hw, gt_good hw⟩
theorem cv_list (g : g_T) (v : Option Value) (rest : List Value) : (v.map (cv g)).toList ++ rest.map (cv g) = (v.toList ++ rest).map (cv g) := by cases v <;> rfl
theorem cv_sum (g : g_T) (st : List Value) : ((st.map (cv g)).map fun v => v.category).sum = (st.map fun v => v.category).sum := by
  rw [List.map_map]
  congr 1
  exact List.map_congr_left (fun v _ => cv_cat g v)
/-- what a call's links are -/
def LKa (cy : cx_T) (k : Nat) : Prop := Cond.initialized cy.1.cls ∈ gt ∧ Cond.code cy.1 cy.2.1 cy.2.2.1 cy.2.2.2.1 ∈ gt ∧ cy.1.cls ≠ "java/lang/invoke/MethodHandle" ∧ cy.1.cls ≠ "java/lang/invoke/VarHandle" ∧ (parseMethodDescriptor cy.1.desc).map (fun d => d.parameters.length) = some k
def LKS (own : String) (idx : Nat) (cy : cx_T) (k : Nat) : Prop := Cond.methodLink own idx cy.1 ∈ gt ∧ Cond.static cy.1 ∈ gt ∧ LKa cy k
def LKSN (own : String) (idx : Nat) (cy : cx_T) (k : Nat) : Prop := (∃ h, Cond.methodLinkNest own idx cy.1 h ∈ lw_tbl) ∧ Cond.static cy.1 ∈ gt ∧ LKa cy k
def LKV (own : String) (idx : Nat) (cy : cx_T) (k c : Nat) : Prop := Cond.methodLink own idx cy.1 ∈ gt ∧ Cond.instanceMethod cy.1 ∈ gt ∧ Cond.selects cy.1.cls cy.1 cy.1 ∈ gt ∧ c < 12 ∧ (∃ q, vwCl[c]? = some q ∧ q.1 = cy.1.cls) ∧ LKa cy k
def LKVN (own : String) (idx : Nat) (cy : cx_T) (k c : Nat) : Prop := (∃ h, Cond.methodLinkNest own idx cy.1 h ∈ lw_tbl) ∧ Cond.instanceMethod cy.1 ∈ gt ∧ Cond.selects cy.1.cls cy.1 cy.1 ∈ gt ∧ c < 12 ∧ (∃ q, vwCl[c]? = some q ∧ q.1 = cy.1.cls) ∧ LKa cy k
def LKI (own : String) (idx : Nat) (cy : cx_T) (k : Nat) : Prop := Cond.methodLink own idx cy.1 ∈ gt ∧ Cond.instanceMethod cy.1 ∈ gt ∧ cy.1.name = "<init>" ∧ cy.2.2.2.1 = none ∧ LKa cy k
def LKIN (own : String) (idx : Nat) (cy : cx_T) (k : Nat) : Prop := (∃ h, Cond.methodLinkNest own idx cy.1 h ∈ lw_tbl) ∧ Cond.instanceMethod cy.1 ∈ gt ∧ cy.1.name = "<init>" ∧ cy.2.2.2.1 = none ∧ LKa cy k
section RC
variable {l : Launch} {g : g_T} {cx cy : cx_T} {Rm : Room} {E : E_T} {pc : Nat} {ls : List (Nat × Value)} {st rest : List Value} {n z fr lo mc ms : Nat} {w w' : w_T} {v : Option Value} {A : List Value}
variable {p : Program} {e : Env} {s : State} {m : MethodId} {args : Array Value} {below : List Frame} {meth : Method} {c0 : Code} {H : Heap} {locs : List Loc} {rl : Array Slot}
theorem pre_ok (C : Cxt g cx p s m args meth c0) (hR : Rep g w H) (hS : va_S (fun q => g.2.2.1 ≤ q) s.heap H locs) : ∀ U : State, U.heap = H → s.WarmedH U.vm → Rep g w U.heap ∧ CK g U U.heap ∧ g.2.2.1 ≤ U.heap.size := by
  intro U hU hW
  rw [hU]
  exact ⟨hR, (C.2.2.2.2.2.2.2.1.warm hW).kept (fun a h1 h2 => hS.2.1 a h1 h2), by rw [hR.2.1]; exact Nat.le_add_right _ _⟩
theorem pre_blind (X : Array Value) : FrameBlind (fun x U => x = X ∧ Rep g w U.heap ∧ CK g U U.heap ∧ g.2.2.1 ≤ U.heap.size) := fun a U gq mk q => ⟨q.1, q.2.1, CK.same (u := U) (U := U.calling gq mk a) rfl q.2.2.1, q.2.2.2⟩
theorem Wp.run (C : Cxt g cx p s m args meth c0) (hS : va_S (fun q => g.2.2.1 ≤ q) s.heap H locs) (hL : lv_has rl cx.2.2.1 (lcv g ls)) (hH : g.2.2.1 ≤ H.size)
    (hr : va_Run p l e Rm s m args below meth c0 H locs n z mc ms (F0 m pc rl (st.map (cv g))) (rest.map (cv g)) (fun st0 o t => o = .returned (v.map (cv g)) ∧ Rep g w' t.heap ∧ (∀ b, v = some (.ref b) → Tw w'.1 b cy.2.2.2.2) ∧ va_F (fun q => g.2.2.1 ≤ q) st0 t) (fun q => g.2.2.1 ≤ q))
    (k : (∀ b, v = some (.ref b) → Tw w'.1 b cy.2.2.2.2) → Wp l g cx Rm E (pc + 3) ls (v.toList ++ rest) (n + mc) (z + ms) w') : W p l e Rm s m args below meth c0 H locs n z (E below args s) (F0 m pc rl (st.map (cv g))) := by
  intro T hT X
  obtain ⟨v', st₀, t, T', L, h0, X', hL', e1, -, ⟨hv, hR', hty, hF⟩, stp⟩ := hr T hT X
  cases hv
  have hS' : va_S (fun q => g.2.2.1 ≤ q) s.heap T'.heap (locs ++ L) := by
    have h1 := hF.1
    have h2 := hF.2
    rw [h0] at h1 h2
    refine ⟨Nat.le_trans hS.1 (by rw [e1]; exact h1), fun q h3 h4 => ?_, fun q hq => ?_⟩
    · rw [e1, h2 q (Nat.lt_of_lt_of_le h3 hS.1) h4]
      exact hS.2.1 q h3 h4
    · rcases List.mem_append.mp hq with h | h
      · exact hS.2.2 q h
      · exact hL' q h
  obtain ⟨t2, a1, b1⟩ := k hty p e s m args below meth c0 T'.heap (locs ++ L) rl C (by rw [e1]; exact hR') hS' hL T' rfl X'
  rw [← cv_list] at a1
  exact ⟨t2, stp t2 a1, b1⟩
end RC
section RC2
variable {l : Launch} {g : g_T} {cx cy : cx_T} {Rm : Room} {E : E_T} {pc : Nat} {ls : List (Nat × Value)} {st rest : List Value} {n z fr lo mc ms idx : Nat} {w w' : w_T} {v : Option Value} {A : List Value} {a c : Nat}
theorem Rep.n0 {H : Heap} (hR : Rep g w H) : g.2.2.1 ≤ H.size := by rw [hR.2.1]; exact Nat.le_add_right _ _
theorem Wp.callS (hM : Sp l g cy fr lo mc ms A w v w') (K : LKS cx.1.cls idx cy A.length) (d : decode cx.2.1 pc = .ok (.invokestatic idx, 3)) (hs : A.reverse ++ rest = st) (hw : (rest.map fun v => v.category).sum ≤ 8) (h1 : fr + 1 ≤ Rm.frames) (h2 : 8 + (cy.2.2.1 + 11) + lo ≤ Rm.locals) (h3 : n + mc ≤ Rm.cells) (h4 : z + ms ≤ Rm.slots)
    (k : (∀ b, v = some (.ref b) → Tw w'.1 b cy.2.2.2.2) → Wp l g cx Rm E (pc + 3) ls (v.toList ++ rest) (n + mc) (z + ms) w') : Wp l g cx Rm E pc ls st n z w := by
  intro p e s m args below meth c0 H locs rl C hR hS hL
  subst hs
  obtain ⟨k1, k2, k3, k4, k5⟩ := K
  have hts := C.2.2.2.2.2.1
  refine Wp.run C hS hL hR.n0 (va_runS (As := A.map (cv g)) (rest := rest.map (cv g)) (Ts := gt) ⟨C.1, C.2.1, C.2.2.2.1, C.2.2.2.2.1, hts⟩ hM ⟨callB_of A.length hts (gt_ws k4) rfl rfl rfl (hts _ k3) (hts _ k1) k5 ⟨h1, h2⟩, hts _ k2⟩ ⟨pre_blind _, fun U hU hW => ⟨rfl, pre_ok C hR hS U hU hW⟩⟩ rfl (by rw [List.length_map]) hL.1 (by simp) (lv_room (by rw [cv_sum]; exact hw)) d ⟨h3, h4⟩) k
theorem Wp.callSN (hM : Sp l g cy fr lo mc ms A w v w') (K : LKSN cx.1.cls idx cy A.length) (d : decode cx.2.1 pc = .ok (.invokestatic idx, 3)) (hs : A.reverse ++ rest = st) (hw : (rest.map fun v => v.category).sum ≤ 8) (h1 : fr + 1 ≤ Rm.frames) (h2 : 8 + (cy.2.2.1 + 11) + lo ≤ Rm.locals) (h3 : n + mc ≤ Rm.cells) (h4 : z + ms ≤ Rm.slots)
    (k : (∀ b, v = some (.ref b) → Tw w'.1 b cy.2.2.2.2) → Wp l g cx Rm E (pc + 3) ls (v.toList ++ rest) (n + mc) (z + ms) w') : Wp l g cx Rm E pc ls st n z w := by
  intro p e s m args below meth c0 H locs rl C hR hS hL
  subst hs
  obtain ⟨⟨hh, k1⟩, k2, k3, k4, k5⟩ := K
  have hts := C.2.2.2.2.2.1
  have hN := C.2.2.2.2.2.2.2.1.2.2.2.1 _ _ _ _ k1
  refine Wp.run C hS hL hR.n0 (va_runSN (As := A.map (cv g)) (rest := rest.map (cv g)) (Ts := gt) ⟨C.1, C.2.1, C.2.2.2.1, C.2.2.2.2.1, hts⟩ hM ⟨va_cnB A.length hts (gt_ws k4) rfl rfl rfl hN (hts _ k3) k5 ⟨h1, h2⟩, hts _ k2, trivial⟩ ⟨pre_blind _, fun U hU hW => ⟨rfl, pre_ok C hR hS U hU hW⟩⟩ rfl (by rw [List.length_map]) hL.1 (by simp) (lv_room (by rw [cv_sum]; exact hw)) d ⟨h3, h4⟩) k
theorem recv_ok {p : Program} {s : State} {m : MethodId} {args : Array Value} {meth : Method} {c0 : Code} {H : Heap} (C : Cxt g cx p s m args meth c0) (hR : Rep g w H) (hT : Tw w.1 a c) (hc : c < 12) {q : vw_C} (hq : vwCl[c]? = some q) : ∃ cell : Cell, H[adr g a]? = some cell ∧ cell.vm.isStatics = false ∧ s.vm.findClass q.1 = some cell.cls :=
  va_recv C.2.2.2.2.2.2.2.1.1 hR.2.2.2.2.2.1 hq ((hR.an hT).trans (by rw [cont_ob hT.2.2 hc]))
theorem Wp.callV (hM : Sp l g cy fr lo mc ms (.ref a :: A) w v w') (K : LKV cx.1.cls idx cy A.length c) (hT : Tw w.1 a c) (d : decode cx.2.1 pc = .ok (.invokevirtual idx, 3)) (hs : A.reverse ++ .ref a :: rest = st) (hw : (rest.map fun v => v.category).sum ≤ 8) (h1 : fr + 1 ≤ Rm.frames) (h2 : 8 + (cy.2.2.1 + 11) + lo ≤ Rm.locals) (h3 : n + mc ≤ Rm.cells) (h4 : z + ms ≤ Rm.slots)
    (k : (∀ b, v = some (.ref b) → Tw w'.1 b cy.2.2.2.2) → Wp l g cx Rm E (pc + 3) ls (v.toList ++ rest) (n + mc) (z + ms) w') : Wp l g cx Rm E pc ls st n z w := by
  intro p e s m args below meth c0 H locs rl C hR hS hL
  subst hs
  obtain ⟨k1, k2, k6, kc, ⟨q, kq, kn⟩, k3, k4, k5⟩ := K
  have hts := C.2.2.2.2.2.1
  refine Wp.run C hS hL hR.n0 (va_runV (C := cy.1.cls) (b := adr g a) (As := A.map (cv g)) (rest := rest.map (cv g)) (Ts := gt) ⟨C.1, C.2.1, C.2.2.2.1, C.2.2.2.2.1, hts⟩ hM ⟨callB_of A.length hts (gt_ws k4) rfl rfl rfl (hts _ k3) (hts _ k1) k5 ⟨h1, h2⟩, hts _ k2, hts _ k6⟩ ⟨pre_blind _, by rw [← kn]; exact recv_ok C hR hT kc kq, fun U hU hW => ⟨rfl, pre_ok C hR hS U hU hW⟩⟩ rfl (by rw [List.length_map]) hL.1 (by simp [cv]) (lv_room (by rw [cv_sum]; exact hw)) d ⟨h3, h4⟩) k
theorem Wp.callVN (hM : Sp l g cy fr lo mc ms (.ref a :: A) w v w') (K : LKVN cx.1.cls idx cy A.length c) (hT : Tw w.1 a c) (d : decode cx.2.1 pc = .ok (.invokevirtual idx, 3)) (hs : A.reverse ++ .ref a :: rest = st) (hw : (rest.map fun v => v.category).sum ≤ 8) (h1 : fr + 1 ≤ Rm.frames) (h2 : 8 + (cy.2.2.1 + 11) + lo ≤ Rm.locals) (h3 : n + mc ≤ Rm.cells) (h4 : z + ms ≤ Rm.slots)
    (k : (∀ b, v = some (.ref b) → Tw w'.1 b cy.2.2.2.2) → Wp l g cx Rm E (pc + 3) ls (v.toList ++ rest) (n + mc) (z + ms) w') : Wp l g cx Rm E pc ls st n z w := by
  intro p e s m args below meth c0 H locs rl C hR hS hL
  subst hs
  obtain ⟨⟨hh, k1⟩, k2, k6, kc, ⟨q, kq, kn⟩, k3, k4, k5⟩ := K
  have hts := C.2.2.2.2.2.1
  have hN := C.2.2.2.2.2.2.2.1.2.2.2.1 _ _ _ _ k1
  refine Wp.run C hS hL hR.n0 (va_runVN (C := cy.1.cls) (b := adr g a) (As := A.map (cv g)) (rest := rest.map (cv g)) (Ts := gt) ⟨C.1, C.2.1, C.2.2.2.1, C.2.2.2.2.1, hts⟩ hM ⟨va_cnB A.length hts (gt_ws k4) rfl rfl rfl hN (hts _ k3) k5 ⟨h1, h2⟩, hts _ k2, hts _ k6⟩ ⟨pre_blind _, by rw [← kn]; exact recv_ok C hR hT kc kq, fun U hU hW => ⟨rfl, pre_ok C hR hS U hU hW⟩⟩ rfl (by rw [List.length_map]) hL.1 (by simp [cv]) (lv_room (by rw [cv_sum]; exact hw)) d ⟨h3, h4⟩) k
theorem Wp.callI (hM : Sp l g cy fr lo mc ms (.ref a :: A) w v w') (K : LKI cx.1.cls idx cy A.length) (d : decode cx.2.1 pc = .ok (.invokespecial idx, 3)) (hs : A.reverse ++ .ref a :: rest = st) (hw : (rest.map fun v => v.category).sum ≤ 8) (h1 : fr + 1 ≤ Rm.frames) (h2 : 8 + (cy.2.2.1 + 11) + lo ≤ Rm.locals) (h3 : n + mc ≤ Rm.cells) (h4 : z + ms ≤ Rm.slots)
    (k : (∀ b, v = some (.ref b) → Tw w'.1 b cy.2.2.2.2) → Wp l g cx Rm E (pc + 3) ls (v.toList ++ rest) (n + mc) (z + ms) w') : Wp l g cx Rm E pc ls st n z w := by
  intro p e s m args below meth c0 H locs rl C hR hS hL
  subst hs
  obtain ⟨k1, k2, k6, k7, k3, k4, k5⟩ := K
  have hts := C.2.2.2.2.2.1
  refine Wp.run C hS hL hR.n0 (va_runI (b := adr g a) (As := A.map (cv g)) (rest := rest.map (cv g)) (Ts := gt) ⟨C.1, C.2.1, C.2.2.2.1, C.2.2.2.2.1, hts⟩ hM ⟨by rw [← k7]; exact callB_of A.length hts (gt_ws k4) rfl rfl rfl (hts _ k3) (hts _ k1) k5 ⟨h1, h2⟩, k6, hts _ k2⟩ ⟨pre_blind _, fun U hU hW => ⟨rfl, pre_ok C hR hS U hU hW⟩⟩ rfl (by rw [List.length_map]) hL.1 (by simp [cv]) (lv_room (by rw [cv_sum]; exact hw)) d ⟨h3, h4⟩) k
theorem Wp.callIN (hM : Sp l g cy fr lo mc ms (.ref a :: A) w v w') (K : LKIN cx.1.cls idx cy A.length) (d : decode cx.2.1 pc = .ok (.invokespecial idx, 3)) (hs : A.reverse ++ .ref a :: rest = st) (hw : (rest.map fun v => v.category).sum ≤ 8) (h1 : fr + 1 ≤ Rm.frames) (h2 : 8 + (cy.2.2.1 + 11) + lo ≤ Rm.locals) (h3 : n + mc ≤ Rm.cells) (h4 : z + ms ≤ Rm.slots)
    (k : (∀ b, v = some (.ref b) → Tw w'.1 b cy.2.2.2.2) → Wp l g cx Rm E (pc + 3) ls (v.toList ++ rest) (n + mc) (z + ms) w') : Wp l g cx Rm E pc ls st n z w := by
  intro p e s m args below meth c0 H locs rl C hR hS hL
  subst hs
  obtain ⟨⟨hh, k1⟩, k2, k6, k7, k3, k4, k5⟩ := K
  have hts := C.2.2.2.2.2.1
  have hN := C.2.2.2.2.2.2.2.1.2.2.2.1 _ _ _ _ k1
  refine Wp.run C hS hL hR.n0 (va_runIN (b := adr g a) (As := A.map (cv g)) (rest := rest.map (cv g)) (Ts := gt) ⟨C.1, C.2.1, C.2.2.2.1, C.2.2.2.2.1, hts⟩ hM ⟨by rw [← k7]; exact va_cnB A.length hts (gt_ws k4) rfl rfl rfl hN (hts _ k3) k5 ⟨h1, h2⟩, k6, hts _ k2⟩ ⟨pre_blind _, fun U hU hW => ⟨rfl, pre_ok C hR hS U hU hW⟩⟩ rfl (by rw [List.length_map]) hL.1 (by simp [cv]) (lv_room (by rw [cv_sum]; exact hw)) d ⟨h3, h4⟩) k
end RC2
