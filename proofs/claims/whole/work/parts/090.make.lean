/-! THE ABSTRACT MACHINE's rows of making -/
/-- one more: a thing of kind c with len places -/
def alo (w : w_T) (c len : Nat) : w_T := ((w.1.1 + 1, va_up w.1.2.1 w.1.1 c, va_up w.1.2.2 w.1.1 len), upR w.2.1 w.1.1 (fun _ => 0), upR w.2.2.1 w.1.1 (fun _ => 0), upR w.2.2.2 w.1.1 (fun _ => none))
theorem upR_at {α : Type} (f : Nat → Nat → α) (a : Nat) (h : Nat → α) : upR f a h a = h := by
  funext i
  exact if_pos rfl
theorem alo_S {w : w_T} {c len k : Nat} (h : k < w.1.1) : (alo w c len).1.2.1 k = w.1.2.1 k := if_neg (by omega)
theorem alo_Z {w : w_T} {c len k : Nat} (h : k < w.1.1) : (alo w c len).1.2.2 k = w.1.2.2 k := if_neg (by omega)
theorem alo_Sn {w : w_T} {c len : Nat} : (alo w c len).1.2.1 w.1.1 = c := if_pos rfl
theorem alo_Zn {w : w_T} {c len : Nat} : (alo w c len).1.2.2 w.1.1 = len := if_pos rfl
theorem Tw.alo {w : w_T} {a c k len : Nat} (h : Tw w.1 a c) : Tw (alo w k len).1 a c := ⟨h.1, Nat.lt_succ_of_lt h.2.1, (alo_S h.2.1).trans h.2.2⟩
theorem Rep.new {g : g_T} {w : w_T} {H H1 : Heap} (hR : Rep g w H) (hX : ∀ k, k < 6 → g.2.2.2 k < g.2.2.1) {c len : Nat} (hz : H1.size = H.size + 1) (hq : ∀ q, q < H.size → H1[q]? = H[q]?) (ha : va_at g.1 vwCl (H.size, cont g (alo w c len) w.1.1) H1) : Rep g (alo w c len) H1 := by
  obtain ⟨r1, r2, r3, r4, r5, r6, r7⟩ := hR
  have hN : (alo w c len).1.1 = w.1.1 + 1 := rfl
  refine ⟨by omega, by omega, fun k hk => (alo_S (by omega)).trans (r3 k hk), (alo_S (by omega)).trans r4, ?_, ?_, ?_⟩
  · intro k hk
    have h1 := hX k (by omega)
    obtain ⟨q, c1, c2⟩ := r5 k hk
    have h2 : (alo w c len).2.1 k = w.2.1 k := upR_ne (by omega)
    rw [alo_Z (by omega), h2]
    exact ⟨q, by rw [hq _ (by omega)]; exact c1, c2⟩
  · intro k q hk
    obtain ⟨h1, rfl⟩ := wsI_some hk
    rw [hN] at h1
    by_cases e : k + 6 = w.1.1
    · rw [e]
      rw [r2, ← e, show k + 6 - 6 = k by omega] at ha
      rw [e] at ha
      exact ha
    · have h2 : (wsI g w)[k]? = some (g.2.2.1 + k, cont g w (k + 6)) := by
        have h3 := wsI_get (g := g) (w := w) (a := k + 6) (by omega) (by omega)
        rwa [show k + 6 - 6 = k by omega, adr_i (by omega), show k + 6 - 6 = k by omega] at h3
      have e2 : cont g (alo w c len) (k + 6) = cont g w (k + 6) := by
        have q1 : (alo w c len).2.1 (k + 6) = w.2.1 (k + 6) := upR_ne e
        have q2 : (alo w c len).2.2.1 (k + 6) = w.2.2.1 (k + 6) := upR_ne e
        have q3 : (alo w c len).2.2.2 (k + 6) = w.2.2.2 (k + 6) := upR_ne e
        have q4 : (alo w c len).1.2.1 (k + 6) = w.1.2.1 (k + 6) := alo_S (by omega)
        have q5 : (alo w c len).1.2.2 (k + 6) = w.1.2.2 (k + 6) := alo_Z (by omega)
        have q6 : ob_ g (alo w c len).2 (k + 6) (fl_ (w.1.2.1 (k + 6))) = ob_ g w.2 (k + 6) (fl_ (w.1.2.1 (k + 6))) := by
          unfold ob_
          refine List.map_congr_left (fun j _ => ?_)
          unfold vl_
          rw [q1, q2, q3]
        unfold cont
        rw [q1, q2, q3, q4, q5, q6]
      rw [e2]
      refine (r6 k _ h2).kept (hq _ ?_)
      rw [r2]
      dsimp only
      omega
  · intro a j b h6 h1 hb
    rw [hN] at h1
    by_cases e : a = w.1.1
    · subst e
      have h3 : (alo w c len).2.2.2 w.1.1 j = none := congrFun (upR_at w.2.2.2 w.1.1 (fun _ => none)) j
      rw [h3] at hb
      cases hb
    · have h3 : (alo w c len).2.2.2 a j = w.2.2.2 a j := congrFun (upR_ne (f := w.2.2.2) (h := fun _ => none) e) j
      rw [h3] at hb
      have h4 := r7 a j b h6 (by omega) hb
      rw [alo_S (by omega)]
      exact h4.alo
/-- a class that can be made -/
def CLk (own : String) (idx c N : Nat) : Prop := ∃ (C : String) (T : u_T) (ty0 : Nat → FieldType), vwCl[c]? = some (C, T, N) ∧ (∀ w ∈ u_ws C T N, w ∈ gt) ∧ (∀ k, k < N → parseFieldDescriptor (T k).2.2.1 = some (ty0 k)) ∧ Cond.classLink own idx C ∈ gt ∧ Cond.instantiable C N ∈ gt ∧ Cond.initialized C ∈ gt ∧ c < 12 ∧ (fl_ c).length = N ∧ ∀ k, k < N → defaultValue (ty0 k) = (if (fl_ c).getD k 0 = 0 then .int 0 else if (fl_ c).getD k 0 = 1 then .long 0 else .null)
theorem s_tail {g : g_T} {s : State} {H H1 : Heap} {locs : List Loc} (hS : va_S (fun q => g.2.2.1 ≤ q) s.heap H locs) (hz : H1.size = H.size + 1) (hq : ∀ q, q < H.size → H1[q]? = H[q]?) : va_S (fun q => g.2.2.1 ≤ q) s.heap H1 locs :=
  ⟨Nat.le_trans hS.1 (by omega), fun x h1 h2 => (hq x (Nat.lt_of_lt_of_le h1 hS.1)).trans (hS.2.1 x h1 h2), hS.2.2⟩
section RN
variable {l : Launch} {g : g_T} {cx : cx_T} {Rm : Room} {E : E_T} {pc : Nat} {ls : List (Nat × Value)} {st : List Value} {n z : Nat} {w : w_T}
theorem adr_n {H : Heap} (hR : Rep g w H) : H.size = adr g w.1.1 := by rw [hR.2.1, adr_i hR.1]
theorem Wp.new {idx c N : Nat} (K : CLk cx.1.cls idx c N) (d : decode cx.2.1 pc = .ok (.new idx, 3)) (h3 : n + 1 ≤ Rm.cells) (h4 : z + N ≤ Rm.slots) (k : Tw (alo w c 0).1 w.1.1 c → Wp l g cx Rm E (pc + 3) ls (.ref w.1.1 :: st) (n + 1) (z + N) (alo w c 0)) : Wp l g cx Rm E pc ls st n z w := by
  intro p e s m args below meth c0 H locs rl C hR hS hL
  obtain ⟨Cn, T, ty0, f1, f2, f3, f4, f5, f6, f7, f8, f9⟩ := K
  have hKn := C.2.2.2.2.2.2.2.1.1.1 c _ f1
  have hts := C.2.2.2.2.2.1
  refine W.newcK C.1 C.2.1 C.2.2.2.2.1 (hts _ f4) (hts _ f5) (hts _ f6) rfl d h3 h4 hKn.2.1 rfl fun H1 kC hkC e1 z1 o1 => ?_
  rw [adr_n hR]
  refine k ⟨hR.1, Nat.lt_succ_self _, alo_Sn⟩ p e s m args below meth c0 H1 locs rl C (hR.new C.2.2.2.2.2.2.2.1.2.1 z1 o1 ?_) (s_tail hS z1 o1) hL
  rw [cont_ob alo_Sn f7]
  refine ⟨_, f1, (u_born ty0 hts f2 hKn hkC e1 f3).to (fun j hj => ?_)⟩
  rw [f9 j hj]
  have h1 : (fl_ c)[j]? = some ((fl_ c).getD j 0) := by
    have h2 : j < (fl_ c).length := by rw [f8]; exact hj
    simp [List.getD, List.getElem?_eq_getElem h2]
  have h2 := ob_at g (alo w c 0).2 w.1.1 h1
  have h5 : vp_V (ob_ g (alo w c 0).2 w.1.1 (fl_ c)) j = vl_ g (alo w c 0).2 w.1.1 ((fl_ c).getD j 0) j := by
    simp [vp_V, h2]
  refine Eq.trans ?_ h5.symm
  have q1 : (alo w c 0).2.1 w.1.1 j = 0 := congrFun (upR_at w.2.1 w.1.1 (fun _ => 0)) j
  have q2 : (alo w c 0).2.2.1 w.1.1 j = 0 := congrFun (upR_at w.2.2.1 w.1.1 (fun _ => 0)) j
  have q3 : (alo w c 0).2.2.2 w.1.1 j = none := congrFun (upR_at w.2.2.2 w.1.1 (fun _ => none)) j
  unfold vl_
  rw [q1, q2, q3]
  rfl
theorem Wp.newa_int {i : Int32} {len : Nat} (hw : Cond.arrayClass .int ∈ gt) (d : decode cx.2.1 pc = .ok (.newarray .int, 2)) (hi : ¬ i < 0) (hlen : i.toNatClampNeg = len) (hb : len * 4 ≤ 536870912) (h3 : n + 1 ≤ Rm.cells) (h4 : z + len ≤ Rm.slots) (k : Tw (alo w 13 len).1 w.1.1 13 → Wp l g cx Rm E (pc + 2) ls (.ref w.1.1 :: st) (n + 1) (z + len) (alo w 13 len)) : Wp l g cx Rm E pc ls (.int i :: st) n z w := by
  intro p e s m args below meth c0 H locs rl C hR hS hL
  refine va_newaK (atype := .int) C.1 C.2.1 (C.2.2.2.2.2.1 _ hw) rfl d rfl hi hlen hb h3 h4 rfl fun H1 cA e1 z1 o1 _ hf => ?_
  have hA : cA = g.2.1 13 := Option.some.inj (hf.symm.trans (C.2.2.2.2.2.2.2.1.1.2 1 _ rfl).2)
  rw [adr_n hR]
  refine k ⟨hR.1, Nat.lt_succ_self _, alo_Sn⟩ p e s m args below meth c0 H1 locs rl C (hR.new C.2.2.2.2.2.2.2.1.2.1 z1 o1 ?_) (s_tail hS z1 o1) hL
  rw [cont_i alo_Sn (by decide) (by decide) (by decide), alo_Zn]
  show H1[H.size]? = some (vp_cell _ _)
  have q1 : (alo w 13 len).2.1 w.1.1 = fun _ => 0 := upR_at _ _ _
  rw [e1, q1, hA]
  rfl
theorem Wp.newa_byte {i : Int32} {len : Nat} (hw : Cond.arrayClass .byte ∈ gt) (d : decode cx.2.1 pc = .ok (.newarray .byte, 2)) (hi : ¬ i < 0) (hlen : i.toNatClampNeg = len) (hb : len * 1 ≤ 536870912) (h3 : n + 1 ≤ Rm.cells) (h4 : z + len ≤ Rm.slots) (k : Tw (alo w 12 len).1 w.1.1 12 → Wp l g cx Rm E (pc + 2) ls (.ref w.1.1 :: st) (n + 1) (z + len) (alo w 12 len)) : Wp l g cx Rm E pc ls (.int i :: st) n z w := by
  intro p e s m args below meth c0 H locs rl C hR hS hL
  refine va_newaK (atype := .byte) C.1 C.2.1 (C.2.2.2.2.2.1 _ hw) rfl d rfl hi hlen hb h3 h4 rfl fun H1 cA e1 z1 o1 _ hf => ?_
  have hA : cA = g.2.1 12 := Option.some.inj (hf.symm.trans (C.2.2.2.2.2.2.2.1.1.2 0 _ rfl).2)
  rw [adr_n hR]
  refine k ⟨hR.1, Nat.lt_succ_self _, alo_Sn⟩ p e s m args below meth c0 H1 locs rl C (hR.new C.2.2.2.2.2.2.2.1.2.1 z1 o1 ?_) (s_tail hS z1 o1) hL
  rw [cont_i alo_Sn (by decide) (by decide) (by decide), alo_Zn]
  show H1[H.size]? = some (vp_cell _ _)
  have q1 : (alo w 12 len).2.1 w.1.1 = fun _ => 0 := upR_at _ _ _
  rw [e1, q1, hA]
  rfl
theorem Wp.newa_boolean {i : Int32} {len : Nat} (hw : Cond.arrayClass .boolean ∈ gt) (d : decode cx.2.1 pc = .ok (.newarray .boolean, 2)) (hi : ¬ i < 0) (hlen : i.toNatClampNeg = len) (hb : len * 1 ≤ 536870912) (h3 : n + 1 ≤ Rm.cells) (h4 : z + len ≤ Rm.slots) (k : Tw (alo w 15 len).1 w.1.1 15 → Wp l g cx Rm E (pc + 2) ls (.ref w.1.1 :: st) (n + 1) (z + len) (alo w 15 len)) : Wp l g cx Rm E pc ls (.int i :: st) n z w := by
  intro p e s m args below meth c0 H locs rl C hR hS hL
  refine va_newaK (atype := .boolean) C.1 C.2.1 (C.2.2.2.2.2.1 _ hw) rfl d rfl hi hlen hb h3 h4 rfl fun H1 cA e1 z1 o1 _ hf => ?_
  have hA : cA = g.2.1 15 := Option.some.inj (hf.symm.trans (C.2.2.2.2.2.2.2.1.1.2 3 _ rfl).2)
  rw [adr_n hR]
  refine k ⟨hR.1, Nat.lt_succ_self _, alo_Sn⟩ p e s m args below meth c0 H1 locs rl C (hR.new C.2.2.2.2.2.2.2.1.2.1 z1 o1 ?_) (s_tail hS z1 o1) hL
  rw [cont_i alo_Sn (by decide) (by decide) (by decide), alo_Zn]
  show H1[H.size]? = some (vp_cell _ _)
  have q1 : (alo w 15 len).2.1 w.1.1 = fun _ => 0 := upR_at _ _ _
  rw [e1, q1, hA]
  rfl
theorem Wp.newa_long {i : Int32} {len : Nat} (hw : Cond.arrayClass .long ∈ gt) (d : decode cx.2.1 pc = .ok (.newarray .long, 2)) (hi : ¬ i < 0) (hlen : i.toNatClampNeg = len) (hb : len * 8 ≤ 536870912) (h3 : n + 1 ≤ Rm.cells) (h4 : z + len ≤ Rm.slots) (k : Tw (alo w 14 len).1 w.1.1 14 → Wp l g cx Rm E (pc + 2) ls (.ref w.1.1 :: st) (n + 1) (z + len) (alo w 14 len)) : Wp l g cx Rm E pc ls (.int i :: st) n z w := by
  intro p e s m args below meth c0 H locs rl C hR hS hL
  refine va_newaK (atype := .long) C.1 C.2.1 (C.2.2.2.2.2.1 _ hw) rfl d rfl hi hlen hb h3 h4 rfl fun H1 cA e1 z1 o1 _ hf => ?_
  have hA : cA = g.2.1 14 := Option.some.inj (hf.symm.trans (C.2.2.2.2.2.2.2.1.1.2 2 _ rfl).2)
  rw [adr_n hR]
  refine k ⟨hR.1, Nat.lt_succ_self _, alo_Sn⟩ p e s m args below meth c0 H1 locs rl C (hR.new C.2.2.2.2.2.2.2.1.2.1 z1 o1 ?_) (s_tail hS z1 o1) hL
  rw [cont_l alo_Sn, alo_Zn]
  show H1[H.size]? = some (vp_cell _ _)
  have q1 : (alo w 14 len).2.2.1 w.1.1 = fun _ => 0 := upR_at _ _ _
  rw [e1, q1, hA]
  rfl
theorem Wp.anew {idx c : Nat} {Cn : String} {i : Int32} {len : Nat} (t0 : Nat) (ht : ∀ g : g_T, (tysL g)[t0]? = some (g.2.1 c, .object Cn)) (hc : ¬ c < 16) (hcl : Cond.classLink cx.1.cls idx Cn ∈ gt) (hov : Cond.arrayOver (.object Cn) ∈ lw_tbl) (d : decode cx.2.1 pc = .ok (.anewarray idx, 3)) (hi : ¬ i < 0) (hlen : i.toNatClampNeg = len) (hb : len * 4 ≤ 536870912) (h3 : n + 1 ≤ Rm.cells) (h4 : z + len ≤ Rm.slots) (k : Tw (alo w c len).1 w.1.1 c → Wp l g cx Rm E (pc + 3) ls (.ref w.1.1 :: st) (n + 1) (z + len) (alo w c len)) : Wp l g cx Rm E pc ls (.int i :: st) n z w := by
  intro p e s m args below meth c0 H locs rl C hR hS hL
  subst hlen
  have hCK := C.2.2.2.2.2.2.2.1
  refine W.anew C.1 C.2.1 C.2.2.2.2.1 (C.2.2.2.2.2.1 _ hcl) (hCK.2.2.2.2.2 _ hov).use rfl d rfl hi hb h3 h4 fun cA kA comp f1 _ _ _ => ?_
  obtain ⟨_, _, -, -, -, q4⟩ := (hCK.1.2 t0 _ (ht g)).2
  have hA : cA = g.2.1 c := Option.some.inj (f1.symm.trans q4)
  generalize hH1 : H.push ({ cls := cA, slots := Array.replicate i.toNatClampNeg .null, vm := .none } : Cell) = H1
  have z1 : H1.size = H.size + 1 := by rw [← hH1, Array.size_push]
  have e1 : H1[H.size]? = some (arrV cA i.toNatClampNeg (fun _ => .null)) := by rw [← hH1, Array.getElem?_push_size, ← arrV_new]
  have o1 : ∀ q : Nat, q < H.size → H1[q]? = H[q]? := fun q hq => by rw [← hH1, Array.getElem?_push, if_neg (Nat.ne_of_lt hq)]
  rw [adr_n hR]
  refine k ⟨hR.1, Nat.lt_succ_self _, alo_Sn⟩ p e s m args below meth c0 H1 locs rl C (hR.new hCK.2.1 z1 o1 ?_) (s_tail hS z1 o1) hL
  rw [cont_r alo_Sn hc, alo_Zn]
  show H1[H.size]? = some (vp_cell _ _)
  have q1 : (alo w c i.toNatClampNeg).2.2.2 w.1.1 = fun _ => none := upR_at _ _ _
  rw [e1, q1, hA]
  rfl
theorem Wp.objInit {idx : Nat} {a : Nat} (h1 : Cond.methodLink cx.1.cls idx objectInit ∈ gt) (h2 : Cond.instanceMethod objectInit ∈ gt) (h5 : Cond.code objectInit ⟨#[0xb1]⟩ 1 none ∈ gt) (d : decode cx.2.1 pc = .ok (.invokespecial idx, 3)) (hf : 1 ≤ Rm.frames) (hlo : 8 + 12 ≤ Rm.locals) (hst : (st.map fun v => v.category).sum ≤ 8) (k : Wp l g cx Rm E (pc + 3) ls st n z w) : Wp l g cx Rm E pc ls (.ref a :: st) n z w := by
  intro p e s m args below meth c0 H locs rl C hR hS hL
  have hts := C.2.2.2.2.2.1
  have h9 := lv_room (m := m) (pc := pc) (ls := rl) (rest := (Value.ref a :: st).map (cv g)) (st := st.map (cv g)) (by rw [cv_sum]; exact hst)
  refine W.objInit C.1 C.2.1 C.2.2.2.2.1 (hts _ h1) (hts _ h2) (hts _ h5) rfl (by rw [C.2.2.2.1]; exact hL.1) rfl d hf (by omega) ?_
  exact k p e s m args below meth c0 H locs rl C hR hS hL
theorem Wp.gets {idx : Nat} (i : Nat) {nm : String} (hi : (i = 1 ∧ nm = "FIRST") ∨ (i = 2 ∧ nm = "NUMBERS") ∨ (i = 3 ∧ nm = "LEAST") ∨ (i = 4 ∧ nm = "MOST")) (h1 : Cond.fieldLink cx.1.cls idx "FerryLand$Reader" nm "[I" ∈ gt) (d : decode cx.2.1 pc = .ok (.getstatic idx, 3)) (k : Ty w.1 i 13 → Wp l g cx Rm E (pc + 3) ls (.ref i :: st) n z w) : Wp l g cx Rm E pc ls st n z w := by
  intro p e s m args below meth c0 H locs rl C hR hS hL
  have hCK := C.2.2.2.2.2.2.2.1
  have hZ : va_Z "FerryLand$Reader" nm "[I" (cv g (.ref i)) (fun q => g.2.2.1 ≤ q) s s.heap := by
    have hSK := hCK.2.2.1
    rcases hi with ⟨rfl, rfl⟩ | ⟨rfl, rfl⟩ | ⟨rfl, rfl⟩ | ⟨rfl, rfl⟩
    · exact hSK.1
    · exact hSK.2.1
    · exact hSK.2.2.1
    · exact hSK.2.2.2.1
  have h6 := hR.1
  have h9 : i < 5 := by omega
  exact va_gets C.1 C.2.1 hZ hS C.2.2.2.2.1 (C.2.2.2.2.2.1 _ h1) (fun _ h => h) d (k ⟨by omega, hR.2.2.1 i h9⟩ p e s m args below meth c0 H locs rl C hR hS hL)
end RN
