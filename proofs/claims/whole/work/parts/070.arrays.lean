/-! THE ABSTRACT MACHINE's rows of fields by kind, and of arrays -/
def inb (i : Int32) (n : Nat) : Bool := decide (0 ≤ i.toInt) && decide (i.toInt < (n : Int))
theorem inb_vp {i : Int32} {n : Nat} (h : inb i n = true) : vp_in i n := by
  unfold inb at h
  rw [Bool.and_eq_true, decide_eq_true_eq, decide_eq_true_eq] at h
  exact vp_in_iff.mpr h
def isb (x : Int32) : Bool := decide (x = 0) || decide (x = 1)
theorem isb_n {x : Int32} (h : isb x = true) : narrow .boolean (.int x) = .int x ∧ fits .boolean (.int x) = true := by
  unfold isb at h
  rw [Bool.or_eq_true, decide_eq_true_eq, decide_eq_true_eq] at h
  rcases h with rfl | rfl <;> exact ⟨rfl, rfl⟩
theorem up2_same {α : Type} (f : Nat → Nat → α) (a j : Nat) (v : α) : up2 f a j v a j = v := by
  unfold up2
  rw [if_pos rfl, if_pos rfl]
theorem up2_other {α : Type} (f : Nat → Nat → α) (a j : Nat) (v : α) {i : Nat} (h : i ≠ j) : up2 f a j v a i = f a i := by
  unfold up2
  rw [if_pos rfl, if_neg h]
theorem WT_R {w : w_T} {a j b : Nat} (h : WT w) (ha : 6 ≤ a) (hb : Tw w.1 b (rt_ (w.1.2.1 a) j)) : WT (w.1, w.2.1, w.2.2.1, up2 w.2.2.2 a j (some b)) := by
  intro a2 j2 b2 h6 hN hq
  by_cases e : a2 = a
  · subst e
    by_cases e2 : j2 = j
    · subst e2
      have h3 := (up2_same w.2.2.2 a2 j2 (some b)).symm.trans hq
      cases h3
      exact hb
    · exact h a2 j2 b2 h6 hN ((up2_other w.2.2.2 a2 j (some b) e2).symm.trans hq)
  · exact h a2 j2 b2 h6 hN ((congrFun (up2_ne (f := w.2.2.2) (j := j) (v := some b) e) j2).symm.trans hq)
section RF
variable {l : Launch} {g : g_T} {cx : cx_T} {Rm : Room} {E : E_T} {pc : Nat} {ls : List (Nat × Value)} {st : List Value} {n z : Nat} {w : w_T}
theorem Wp.putI {idx a c j : Nat} {ty : FieldType} {fin : Bool} {x : Int32} (F : FL cx.1.cls idx c j 0 ty fin) (hf : fin = true → cx.1.name = "<init>" ∧ vwCl[c]?.map (fun q => q.1) = some cx.1.cls) (hT : Tw w.1 a c) (d : decode cx.2.1 pc = .ok (.putfield idx, 3)) (hn : narrow ty (.int x) = .int x ∧ fits ty (.int x) = true)
    (k : Wp l g cx Rm E (pc + 3) ls st n z (w.1, up2 w.2.1 a j x, w.2.2.1, w.2.2.2)) : Wp l g cx Rm E pc ls (.int x :: .ref a :: st) n z w :=
  Wp.putK (w' := (w.1, up2 w.2.1 a j x, w.2.2.1, w.2.2.2)) F hf hT d hn.1 hn.2 rfl (fun b hb => ⟨up2_ne hb, rfl, rfl⟩) (by unfold vl_; rw [if_pos rfl]; exact congrArg Value.int (up2_same _ _ _ _)) (fun i t' hi _ => by unfold vl_; dsimp only; rw [up2_other _ _ _ _ hi]) (fun h => h) k
theorem Wp.putL {idx a c j : Nat} {fin : Bool} {x : Int64} (F : FL cx.1.cls idx c j 1 .long fin) (hf : fin = true → cx.1.name = "<init>" ∧ vwCl[c]?.map (fun q => q.1) = some cx.1.cls) (hT : Tw w.1 a c) (d : decode cx.2.1 pc = .ok (.putfield idx, 3))
    (k : Wp l g cx Rm E (pc + 3) ls st n z (w.1, w.2.1, up2 w.2.2.1 a j x, w.2.2.2)) : Wp l g cx Rm E pc ls (.long x :: .ref a :: st) n z w :=
  Wp.putK (w' := (w.1, w.2.1, up2 w.2.2.1 a j x, w.2.2.2)) F hf hT d rfl rfl rfl (fun b hb => ⟨rfl, up2_ne hb, rfl⟩) (by unfold vl_; rw [if_neg (by decide), if_pos rfl]; exact congrArg Value.long (up2_same _ _ _ _)) (fun i t' hi _ => by unfold vl_; dsimp only; rw [up2_other _ _ _ _ hi]) (fun h => h) k
theorem Wp.putR {idx a b c j : Nat} {ty : FieldType} {fin : Bool} (F : FL cx.1.cls idx c j 2 ty fin) (hf : fin = true → cx.1.name = "<init>" ∧ vwCl[c]?.map (fun q => q.1) = some cx.1.cls) (hT : Tw w.1 a c) (hb : Tw w.1 b (rt_ c j)) (d : decode cx.2.1 pc = .ok (.putfield idx, 3)) (hn : ∀ q : Nat, narrow ty (.ref q) = .ref q ∧ fits ty (.ref q) = true)
    (k : Wp l g cx Rm E (pc + 3) ls st n z (w.1, w.2.1, w.2.2.1, up2 w.2.2.2 a j (some b))) : Wp l g cx Rm E pc ls (.ref b :: .ref a :: st) n z w :=
  Wp.putK (w' := (w.1, w.2.1, w.2.2.1, up2 w.2.2.2 a j (some b))) F hf hT d (hn _).1 (hn _).2 rfl (fun b hb => ⟨rfl, rfl, up2_ne hb⟩) (by unfold vl_; rw [if_neg (by decide), if_neg (by decide)]; dsimp only; rw [up2_same]; rfl) (fun i t' hi _ => by unfold vl_; dsimp only; rw [up2_other _ _ _ _ hi]) (fun h => WT_R h hT.1 (by rw [hT.2.2]; exact hb)) k
theorem Rep.t13 {s : State} {H : Heap} {locs : List Loc} (hR : Rep g w H) (hA : AK g s s.heap) (hS : va_S (fun q => g.2.2.1 ≤ q) s.heap H locs) {a : Nat} (hT : Ty w.1 a 13) (h6 : ¬ 6 ≤ a) : va_T .int (adr g a) (w.1.2.2 a) (fun j => .int (w.2.1 a j)) (fun q => g.2.2.1 ≤ q) s s.heap := by
  have h5 : a < 5 := by
    rcases Nat.lt_or_ge a 5 with h | h
    · exact h
    · have e : a = 5 := by omega
      have h1 := hT.2
      rw [e, hR.2.2.2.1] at h1
      cases h1
  obtain ⟨c, h1, h2, h3⟩ := hA a h5
  obtain ⟨c', c1, c2, c3, c4, -, c6⟩ := hR.2.2.2.2.1 a h5
  rw [hS.2.1 _ (Array.getElem?_eq_some_iff.mp h1).1 h3, h1] at c1
  cases Option.some.inj c1
  have ea : adr g a = g.2.2.2 a := if_pos (by omega)
  rw [ea]
  exact ⟨c, h1, h2, c2, c3, c4, c6, h3⟩
theorem Rep.an {H : Heap} (hR : Rep g w H) {a c : Nat} (hT : Tw w.1 a c) : (wsI g w)[a - 6]? = some (adr g a, cont g w a) := wsI_get hT.1 hT.2.1
theorem Wp.iald {a : Nat} {i : Int32} (hT : Ty w.1 a 13) (d : decode cx.2.1 pc = .ok (.iaload, 1)) (hi : inb i (w.1.2.2 a) = true) (k : Wp l g cx Rm E (pc + 1) ls (.int (w.2.1 a i.toNatClampNeg) :: st) n z w) : Wp l g cx Rm E pc ls (.int i :: .ref a :: st) n z w := by
  intro p e s m args below meth c0 H locs rl C hR hS hL
  by_cases h6 : 6 ≤ a
  · exact va_iald C.1 C.2.1 C.2.2.2.2.2.2.2.1.1 hR.2.2.2.2.2.1 (a - 6) 1 ((wsI_get h6 hT.1).trans (by rw [cont_i hT.2 (by decide) (by decide) (by decide)])) rfl (inb_vp hi) d (k p e s m args below meth c0 H locs rl C hR hS hL)
  · exact va_ti C.1 C.2.1 (hR.t13 C.2.2.2.2.2.2.2.1.2.2.1.2.2.2.2.2.2.2 hS hT h6) hS (inb_vp hi) rfl d (k p e s m args below meth c0 H locs rl C hR hS hL)
theorem Wp.bald {a : Nat} {i : Int32} (hT : Tw w.1 a 12) (d : decode cx.2.1 pc = .ok (.baload, 1)) (hi : inb i (w.1.2.2 a) = true) (k : Wp l g cx Rm E (pc + 1) ls (.int (w.2.1 a i.toNatClampNeg) :: st) n z w) : Wp l g cx Rm E pc ls (.int i :: .ref a :: st) n z w := by
  intro p e s m args below meth c0 H locs rl C hR hS hL
  exact va_bald C.1 C.2.1 C.2.2.2.2.2.2.2.1.1 hR.2.2.2.2.2.1 (a - 6) 0 ((hR.an hT).trans (by rw [cont_i hT.2.2 (by decide) (by decide) (by decide)])) rfl (inb_vp hi) d (k p e s m args below meth c0 H locs rl C hR hS hL)
theorem Wp.zald {a : Nat} {i : Int32} (hT : Tw w.1 a 15) (d : decode cx.2.1 pc = .ok (.baload, 1)) (hi : inb i (w.1.2.2 a) = true) (k : Wp l g cx Rm E (pc + 1) ls (.int (w.2.1 a i.toNatClampNeg) :: st) n z w) : Wp l g cx Rm E pc ls (.int i :: .ref a :: st) n z w := by
  intro p e s m args below meth c0 H locs rl C hR hS hL
  exact va_zald C.1 C.2.1 C.2.2.2.2.2.2.2.1.1 hR.2.2.2.2.2.1 (a - 6) 3 ((hR.an hT).trans (by rw [cont_i hT.2.2 (by decide) (by decide) (by decide)])) rfl (inb_vp hi) d (k p e s m args below meth c0 H locs rl C hR hS hL)
theorem Wp.lald {a : Nat} {i : Int32} (hT : Tw w.1 a 14) (d : decode cx.2.1 pc = .ok (.laload, 1)) (hi : inb i (w.1.2.2 a) = true) (k : Wp l g cx Rm E (pc + 1) ls (.long (w.2.2.1 a i.toNatClampNeg) :: st) n z w) : Wp l g cx Rm E pc ls (.int i :: .ref a :: st) n z w := by
  intro p e s m args below meth c0 H locs rl C hR hS hL
  exact va_lald C.1 C.2.1 C.2.2.2.2.2.2.2.1.1 hR.2.2.2.2.2.1 (a - 6) 2 ((hR.an hT).trans (by rw [cont_l hT.2.2])) rfl (inb_vp hi) d (k p e s m args below meth c0 H locs rl C hR hS hL)
theorem Wp.aald16 {a c2 : Nat} {i : Int32} (hT : Tw w.1 a 16) (hc : rt_ 16 0 = c2) (d : decode cx.2.1 pc = .ok (.aaload, 1)) (hi : inb i (w.1.2.2 a) = true) (k : (∀ b, w.2.2.2 a i.toNatClampNeg = some b → Tw w.1 b c2) → Wp l g cx Rm E (pc + 1) ls (va_rf (w.2.2.2 a i.toNatClampNeg) :: st) n z w) : Wp l g cx Rm E pc ls (.int i :: .ref a :: st) n z w := by
  intro p e s m args below meth c0 H locs rl C hR hS hL
  refine va_aldq C.1 C.2.1 C.2.2.2.2.2.2.2.1.1 hR.2.2.2.2.2.1 (a - 6) 4 ((hR.an hT).trans (by rw [cont_r hT.2.2 (by decide)])) rfl (inb_vp hi) d ?_
  rw [← cv_rf]
  refine k (fun b hb => ?_) p e s m args below meth c0 H locs rl C hR hS hL
  have h := hR.2.2.2.2.2.2 a _ b hT.1 hT.2.1 hb
  rw [hT.2.2] at h
  rw [← hc]
  exact h
theorem Wp.aald17 {a c2 : Nat} {i : Int32} (hT : Tw w.1 a 17) (hc : rt_ 17 0 = c2) (d : decode cx.2.1 pc = .ok (.aaload, 1)) (hi : inb i (w.1.2.2 a) = true) (k : (∀ b, w.2.2.2 a i.toNatClampNeg = some b → Tw w.1 b c2) → Wp l g cx Rm E (pc + 1) ls (va_rf (w.2.2.2 a i.toNatClampNeg) :: st) n z w) : Wp l g cx Rm E pc ls (.int i :: .ref a :: st) n z w := by
  intro p e s m args below meth c0 H locs rl C hR hS hL
  refine va_aldq C.1 C.2.1 C.2.2.2.2.2.2.2.1.1 hR.2.2.2.2.2.1 (a - 6) 5 ((hR.an hT).trans (by rw [cont_r hT.2.2 (by decide)])) rfl (inb_vp hi) d ?_
  rw [← cv_rf]
  refine k (fun b hb => ?_) p e s m args below meth c0 H locs rl C hR hS hL
  have h := hR.2.2.2.2.2.2 a _ b hT.1 hT.2.1 hb
  rw [hT.2.2] at h
  rw [← hc]
  exact h
theorem Wp.aald18 {a c2 : Nat} {i : Int32} (hT : Tw w.1 a 18) (hc : rt_ 18 0 = c2) (d : decode cx.2.1 pc = .ok (.aaload, 1)) (hi : inb i (w.1.2.2 a) = true) (k : (∀ b, w.2.2.2 a i.toNatClampNeg = some b → Tw w.1 b c2) → Wp l g cx Rm E (pc + 1) ls (va_rf (w.2.2.2 a i.toNatClampNeg) :: st) n z w) : Wp l g cx Rm E pc ls (.int i :: .ref a :: st) n z w := by
  intro p e s m args below meth c0 H locs rl C hR hS hL
  refine va_aldq C.1 C.2.1 C.2.2.2.2.2.2.2.1.1 hR.2.2.2.2.2.1 (a - 6) 6 ((hR.an hT).trans (by rw [cont_r hT.2.2 (by decide)])) rfl (inb_vp hi) d ?_
  rw [← cv_rf]
  refine k (fun b hb => ?_) p e s m args below meth c0 H locs rl C hR hS hL
  have h := hR.2.2.2.2.2.2 a _ b hT.1 hT.2.1 hb
  rw [hT.2.2] at h
  rw [← hc]
  exact h
theorem Wp.alen13 {a : Nat} (hT : Ty w.1 a 13) (d : decode cx.2.1 pc = .ok (.arraylength, 1)) (k : Wp l g cx Rm E (pc + 1) ls (.int (nI (w.1.2.2 a)) :: st) n z w) : Wp l g cx Rm E pc ls (.ref a :: st) n z w := by
  intro p e s m args below meth c0 H locs rl C hR hS hL
  by_cases h6 : 6 ≤ a
  · have ha := wsI_get (g := g) h6 hT.1
    rw [cont_i hT.2 (by decide) (by decide) (by decide)] at ha
    exact va_alen C.1 C.2.1 C.2.2.2.2.2.2.2.1.1 hR.2.2.2.2.2.1 (a - 6) 1 ha rfl rfl d (k p e s m args below meth c0 H locs rl C hR hS hL)
  · obtain ⟨cell, t1, t2, t3, t4, t5, t6, t7⟩ := hR.t13 C.2.2.2.2.2.2.2.1.2.2.1.2.2.2.2.2.2.2 hS hT h6
    exact W.alen (n := nI (w.1.2.2 a)) C.1 C.2.1 (by rw [hS.2.1 _ (Array.getElem?_eq_some_iff.mp t1).1 t7]; exact t1) t2 t5 rfl rfl d (k p e s m args below meth c0 H locs rl C hR hS hL)
theorem Wp.alen12 {a : Nat} (hT : Tw w.1 a 12) (d : decode cx.2.1 pc = .ok (.arraylength, 1)) (k : Wp l g cx Rm E (pc + 1) ls (.int (nI (w.1.2.2 a)) :: st) n z w) : Wp l g cx Rm E pc ls (.ref a :: st) n z w := by
  intro p e s m args below meth c0 H locs rl C hR hS hL
  have ha := hR.an hT
  rw [cont_i hT.2.2 (by decide) (by decide) (by decide)] at ha
  exact va_alen C.1 C.2.1 C.2.2.2.2.2.2.2.1.1 hR.2.2.2.2.2.1 (a - 6) 0 ha rfl rfl d (k p e s m args below meth c0 H locs rl C hR hS hL)
theorem Wp.alen14 {a : Nat} (hT : Tw w.1 a 14) (d : decode cx.2.1 pc = .ok (.arraylength, 1)) (k : Wp l g cx Rm E (pc + 1) ls (.int (nI (w.1.2.2 a)) :: st) n z w) : Wp l g cx Rm E pc ls (.ref a :: st) n z w := by
  intro p e s m args below meth c0 H locs rl C hR hS hL
  have ha := hR.an hT
  rw [cont_l hT.2.2] at ha
  exact va_alen C.1 C.2.1 C.2.2.2.2.2.2.2.1.1 hR.2.2.2.2.2.1 (a - 6) 2 ha rfl rfl d (k p e s m args below meth c0 H locs rl C hR hS hL)
theorem Wp.alen15 {a : Nat} (hT : Tw w.1 a 15) (d : decode cx.2.1 pc = .ok (.arraylength, 1)) (k : Wp l g cx Rm E (pc + 1) ls (.int (nI (w.1.2.2 a)) :: st) n z w) : Wp l g cx Rm E pc ls (.ref a :: st) n z w := by
  intro p e s m args below meth c0 H locs rl C hR hS hL
  have ha := hR.an hT
  rw [cont_i hT.2.2 (by decide) (by decide) (by decide)] at ha
  exact va_alen C.1 C.2.1 C.2.2.2.2.2.2.2.1.1 hR.2.2.2.2.2.1 (a - 6) 3 ha rfl rfl d (k p e s m args below meth c0 H locs rl C hR hS hL)
theorem Wp.alen16 {a : Nat} (hT : Tw w.1 a 16) (d : decode cx.2.1 pc = .ok (.arraylength, 1)) (k : Wp l g cx Rm E (pc + 1) ls (.int (nI (w.1.2.2 a)) :: st) n z w) : Wp l g cx Rm E pc ls (.ref a :: st) n z w := by
  intro p e s m args below meth c0 H locs rl C hR hS hL
  have ha := hR.an hT
  rw [cont_r hT.2.2 (by decide)] at ha
  exact va_alen C.1 C.2.1 C.2.2.2.2.2.2.2.1.1 hR.2.2.2.2.2.1 (a - 6) 4 ha rfl rfl d (k p e s m args below meth c0 H locs rl C hR hS hL)
theorem Wp.alen17 {a : Nat} (hT : Tw w.1 a 17) (d : decode cx.2.1 pc = .ok (.arraylength, 1)) (k : Wp l g cx Rm E (pc + 1) ls (.int (nI (w.1.2.2 a)) :: st) n z w) : Wp l g cx Rm E pc ls (.ref a :: st) n z w := by
  intro p e s m args below meth c0 H locs rl C hR hS hL
  have ha := hR.an hT
  rw [cont_r hT.2.2 (by decide)] at ha
  exact va_alen C.1 C.2.1 C.2.2.2.2.2.2.2.1.1 hR.2.2.2.2.2.1 (a - 6) 5 ha rfl rfl d (k p e s m args below meth c0 H locs rl C hR hS hL)
theorem Wp.alen18 {a : Nat} (hT : Tw w.1 a 18) (d : decode cx.2.1 pc = .ok (.arraylength, 1)) (k : Wp l g cx Rm E (pc + 1) ls (.int (nI (w.1.2.2 a)) :: st) n z w) : Wp l g cx Rm E pc ls (.ref a :: st) n z w := by
  intro p e s m args below meth c0 H locs rl C hR hS hL
  have ha := hR.an hT
  rw [cont_r hT.2.2 (by decide)] at ha
  exact va_alen C.1 C.2.1 C.2.2.2.2.2.2.2.1.1 hR.2.2.2.2.2.1 (a - 6) 6 ha rfl rfl d (k p e s m args below meth c0 H locs rl C hR hS hL)
theorem Wp.iast {a : Nat} {i : Int32} {x : Int32} (hT : Tw w.1 a 13) (d : decode cx.2.1 pc = .ok (.iastore, 1)) (hi : inb i (w.1.2.2 a) = true) (k : Wp l g cx Rm E (pc + 1) ls st n z (w.1, up2 w.2.1 a i.toNatClampNeg x, w.2.2.1, w.2.2.2)) : Wp l g cx Rm E pc ls (.int x :: .int i :: .ref a :: st) n z w := by
  intro p e s m args below meth c0 H locs rl C hR hS hL
  have hi := inb_vp hi
  have hat : H[adr g a]? = some (vp_cell (g.2.1 13) (w.1.2.2 a, .inl (w.2.1 a))) := by
    have h := hR.at hT.1 hT.2.1
    rw [cont_i hT.2.2 (by decide) (by decide) (by decide)] at h
    exact h
  refine W.iast C.1 C.2.1 hat ((C.2.2.2.2.2.2.2.1.1.2 1 _ rfl).1 (w.1.2.2 a) (fun j => .int ((w.2.1 a) j))) (fun q => by cases q) (by show ¬ (i < 0 ∨ (arrV _ _ _).slots.size ≤ _); rw [arrV_size]; exact hi) rfl rfl d fun H1 e1 e2 e3 => ?_
  refine k p e s m args below meth c0 H1 _ rl C (hR.upd C.2.2.2.2.2.2.2.1.2.1 hT.1 hT.2.1 rfl (fun b hb => up2_ne (by have := hT.1; omega)) e2 e3 ?_ (fun b _ hb => cont_congr rfl (up2_ne hb) rfl rfl) hR.2.2.2.2.2.2) (hS.put e2 e3 (by show g.2.2.1 ≤ adr g a; rw [adr_i hT.1]; exact Nat.le_add_right _ _)) hL
  rw [cont_i (w := (w.1, up2 w.2.1 a i.toNatClampNeg x, w.2.2.1, w.2.2.2)) hT.2.2 (by decide) (by decide) (by decide)]
  show H1[adr g a]? = some (vp_cell _ _)
  rw [e1, vp_cell_i, vp_cell_i, arrV_store]
  congr 2
  funext q
  by_cases hq : q = i.toNatClampNeg
  · subst hq
    simp [updV, up2, vp_nar]
    try rfl
  · simp [updV, up2, hq]
theorem Wp.bast {a : Nat} {i : Int32} {x : Int32} (hT : Tw w.1 a 12) (d : decode cx.2.1 pc = .ok (.bastore, 1)) (hi : inb i (w.1.2.2 a) = true) (k : Wp l g cx Rm E (pc + 1) ls st n z (w.1, up2 w.2.1 a i.toNatClampNeg (vp_nar .byte x), w.2.2.1, w.2.2.2)) : Wp l g cx Rm E pc ls (.int x :: .int i :: .ref a :: st) n z w := by
  intro p e s m args below meth c0 H locs rl C hR hS hL
  have hi := inb_vp hi
  have hat : H[adr g a]? = some (vp_cell (g.2.1 12) (w.1.2.2 a, .inl (w.2.1 a))) := by
    have h := hR.at hT.1 hT.2.1
    rw [cont_i hT.2.2 (by decide) (by decide) (by decide)] at h
    exact h
  refine W.bast C.1 C.2.1 hat ((C.2.2.2.2.2.2.2.1.1.2 0 _ rfl).1 (w.1.2.2 a) (fun j => .int ((w.2.1 a) j))) (fun q => by cases q) (by show ¬ (i < 0 ∨ (arrV _ _ _).slots.size ≤ _); rw [arrV_size]; exact hi) rfl rfl d fun H1 e1 e2 e3 => ?_
  refine k p e s m args below meth c0 H1 _ rl C (hR.upd C.2.2.2.2.2.2.2.1.2.1 hT.1 hT.2.1 rfl (fun b hb => up2_ne (by have := hT.1; omega)) e2 e3 ?_ (fun b _ hb => cont_congr rfl (up2_ne hb) rfl rfl) hR.2.2.2.2.2.2) (hS.put e2 e3 (by show g.2.2.1 ≤ adr g a; rw [adr_i hT.1]; exact Nat.le_add_right _ _)) hL
  rw [cont_i (w := (w.1, up2 w.2.1 a i.toNatClampNeg (vp_nar .byte x), w.2.2.1, w.2.2.2)) hT.2.2 (by decide) (by decide) (by decide)]
  show H1[adr g a]? = some (vp_cell _ _)
  rw [e1, vp_cell_i, vp_cell_i, arrV_store]
  congr 2
  funext q
  by_cases hq : q = i.toNatClampNeg
  · subst hq
    simp [updV, up2, vp_nar]
    try rfl
  · simp [updV, up2, hq]
theorem Wp.zast {a : Nat} {i : Int32} {x : Int32} (hT : Tw w.1 a 15) (d : decode cx.2.1 pc = .ok (.bastore, 1)) (hi : inb i (w.1.2.2 a) = true) (k : Wp l g cx Rm E (pc + 1) ls st n z (w.1, up2 w.2.1 a i.toNatClampNeg (vp_nar .boolean x), w.2.2.1, w.2.2.2)) : Wp l g cx Rm E pc ls (.int x :: .int i :: .ref a :: st) n z w := by
  intro p e s m args below meth c0 H locs rl C hR hS hL
  have hi := inb_vp hi
  have hat : H[adr g a]? = some (vp_cell (g.2.1 15) (w.1.2.2 a, .inl (w.2.1 a))) := by
    have h := hR.at hT.1 hT.2.1
    rw [cont_i hT.2.2 (by decide) (by decide) (by decide)] at h
    exact h
  refine W.zast C.1 C.2.1 hat ((C.2.2.2.2.2.2.2.1.1.2 3 _ rfl).1 (w.1.2.2 a) (fun j => .int ((w.2.1 a) j))) (fun q => by cases q) (by show ¬ (i < 0 ∨ (arrV _ _ _).slots.size ≤ _); rw [arrV_size]; exact hi) rfl rfl d fun H1 e1 e2 e3 => ?_
  refine k p e s m args below meth c0 H1 _ rl C (hR.upd C.2.2.2.2.2.2.2.1.2.1 hT.1 hT.2.1 rfl (fun b hb => up2_ne (by have := hT.1; omega)) e2 e3 ?_ (fun b _ hb => cont_congr rfl (up2_ne hb) rfl rfl) hR.2.2.2.2.2.2) (hS.put e2 e3 (by show g.2.2.1 ≤ adr g a; rw [adr_i hT.1]; exact Nat.le_add_right _ _)) hL
  rw [cont_i (w := (w.1, up2 w.2.1 a i.toNatClampNeg (vp_nar .boolean x), w.2.2.1, w.2.2.2)) hT.2.2 (by decide) (by decide) (by decide)]
  show H1[adr g a]? = some (vp_cell _ _)
  rw [e1, vp_cell_i, vp_cell_i, arrV_store]
  congr 2
  funext q
  by_cases hq : q = i.toNatClampNeg
  · subst hq
    simp [updV, up2, vp_nar]
    try rfl
  · simp [updV, up2, hq]
theorem Wp.last {a : Nat} {i : Int32} {x : Int64} (hT : Tw w.1 a 14) (d : decode cx.2.1 pc = .ok (.lastore, 1)) (hi : inb i (w.1.2.2 a) = true) (k : Wp l g cx Rm E (pc + 1) ls st n z (w.1, w.2.1, up2 w.2.2.1 a i.toNatClampNeg x, w.2.2.2)) : Wp l g cx Rm E pc ls (.long x :: .int i :: .ref a :: st) n z w := by
  intro p e s m args below meth c0 H locs rl C hR hS hL
  have hi := inb_vp hi
  have hat : H[adr g a]? = some (vp_cell (g.2.1 14) (w.1.2.2 a, .inr (.inl (w.2.2.1 a)))) := by
    have h := hR.at hT.1 hT.2.1
    rw [cont_l hT.2.2] at h
    exact h
  refine W.last C.1 C.2.1 hat ((C.2.2.2.2.2.2.2.1.1.2 2 _ rfl).1 (w.1.2.2 a) (fun j => .long ((w.2.2.1 a) j))) (fun q => by cases q) (by show ¬ (i < 0 ∨ (arrV _ _ _).slots.size ≤ _); rw [arrV_size]; exact hi) rfl rfl d fun H1 e1 e2 e3 => ?_
  refine k p e s m args below meth c0 H1 _ rl C (hR.upd C.2.2.2.2.2.2.2.1.2.1 hT.1 hT.2.1 rfl (fun b hb => rfl) e2 e3 ?_ (fun b _ hb => cont_congr rfl rfl (up2_ne hb) rfl) hR.2.2.2.2.2.2) (hS.put e2 e3 (by show g.2.2.1 ≤ adr g a; rw [adr_i hT.1]; exact Nat.le_add_right _ _)) hL
  rw [cont_l (w := (w.1, w.2.1, up2 w.2.2.1 a i.toNatClampNeg x, w.2.2.2)) hT.2.2]
  show H1[adr g a]? = some (vp_cell _ _)
  rw [e1, vp_cell_l, vp_cell_l, arrV_store]
  congr 2
  funext q
  by_cases hq : q = i.toNatClampNeg
  · subst hq
    simp [updV, up2, vp_nar]
    try rfl
  · simp [updV, up2, hq]
theorem Wp.aast16 {a b : Nat} {i : Int32} (hT : Tw w.1 a 16) (hb : Tw w.1 b 2) (d : decode cx.2.1 pc = .ok (.aastore, 1)) (hi : inb i (w.1.2.2 a) = true) (k : Wp l g cx Rm E (pc + 1) ls st n z (w.1, w.2.1, w.2.2.1, up2 w.2.2.2 a i.toNatClampNeg (some b))) : Wp l g cx Rm E pc ls (.ref b :: .int i :: .ref a :: st) n z w := by
  intro p e s m args below meth c0 H locs rl C hR hS hL
  have hi := inb_vp hi
  have hlt : i.toNatClampNeg < w.1.2.2 a := Nat.not_le.mp fun q => hi (Or.inr q)
  have h0 : ¬ i < 0 := fun q => hi (Or.inl q)
  have hat : H[adr g a]? = some (vp_cell (g.2.1 16) (w.1.2.2 a, .inr (.inr (.inr (.inr (fun i => (w.2.2.2 a i).map (adr g))))))) := by
    have h := hR.at hT.1 hT.2.1
    rw [cont_r hT.2.2 (by decide)] at h
    exact h
  have hbt : va_at g.1 vwCl (adr g b, .inr (2, ob_ g w.2 b (fl_ 2))) H := by
    have h := hR.at hb.1 hb.2.1
    rw [cont_ob hb.2.2 (by decide)] at h
    exact h
  obtain ⟨r', hr', cellV, g1, g2, g3, -⟩ := hbt
  have hKK := C.2.2.2.2.2.2.2.1.1
  have hcls := (hKK.1 2 r' hr').2
  obtain ⟨kA, comp, k1, k2, k3, -⟩ := (hKK.2 4 _ rfl).2
  have hcomp : comp = g.1.1 2 := Option.some.inj (k3.symm.trans (by cases hr'; exact hcls.1))
  subst hcomp
  obtain ⟨kC, hkC, -⟩ := hcls.2
  refine W.aast C.1 C.2.1 hat (fun q h => by cases h) (fun h => by cases h) k1 k2 rfl hkC ⟨h0, by show _ < (arrV _ _ _).slots.size; rw [arrV_size]; exact hlt⟩ g1 (fun q h => by rw [g3] at h; cases h) (by rw [g2]; exact hkC) (by rw [g2]; exact va_assign hcls) rfl rfl d fun H1 e1 e2 e3 => ?_
  refine k p e s m args below meth c0 H1 _ rl C (hR.upd C.2.2.2.2.2.2.2.1.2.1 hT.1 hT.2.1 rfl (fun _ _ => rfl) e2 e3 ?_ (fun b2 _ hb2 => cont_congr rfl rfl rfl (up2_ne hb2)) (WT_R hR.2.2.2.2.2.2 hT.1 (by rw [hT.2.2]; exact hb))) (hS.put e2 e3 (by show g.2.2.1 ≤ adr g a; rw [adr_i hT.1]; exact Nat.le_add_right _ _)) hL
  rw [cont_r (w := (w.1, w.2.1, w.2.2.1, up2 w.2.2.2 a i.toNatClampNeg (some b))) hT.2.2 (by decide)]
  show H1[adr g a]? = some (vp_cell _ _)
  rw [e1, vp_cell_q, vp_cell_q, arrV_store]
  congr 2
  funext q
  by_cases hq : q = i.toNatClampNeg
  · subst hq
    simp [updV, up2, va_rf]
  · simp [updV, up2, hq]
theorem Wp.aast17 {a b : Nat} {i : Int32} (hT : Tw w.1 a 17) (hb : Tw w.1 b 6) (d : decode cx.2.1 pc = .ok (.aastore, 1)) (hi : inb i (w.1.2.2 a) = true) (k : Wp l g cx Rm E (pc + 1) ls st n z (w.1, w.2.1, w.2.2.1, up2 w.2.2.2 a i.toNatClampNeg (some b))) : Wp l g cx Rm E pc ls (.ref b :: .int i :: .ref a :: st) n z w := by
  intro p e s m args below meth c0 H locs rl C hR hS hL
  have hi := inb_vp hi
  have hlt : i.toNatClampNeg < w.1.2.2 a := Nat.not_le.mp fun q => hi (Or.inr q)
  have h0 : ¬ i < 0 := fun q => hi (Or.inl q)
  have hat : H[adr g a]? = some (vp_cell (g.2.1 17) (w.1.2.2 a, .inr (.inr (.inr (.inr (fun i => (w.2.2.2 a i).map (adr g))))))) := by
    have h := hR.at hT.1 hT.2.1
    rw [cont_r hT.2.2 (by decide)] at h
    exact h
  have hbt : va_at g.1 vwCl (adr g b, .inr (6, ob_ g w.2 b (fl_ 6))) H := by
    have h := hR.at hb.1 hb.2.1
    rw [cont_ob hb.2.2 (by decide)] at h
    exact h
  obtain ⟨r', hr', cellV, g1, g2, g3, -⟩ := hbt
  have hKK := C.2.2.2.2.2.2.2.1.1
  have hcls := (hKK.1 6 r' hr').2
  obtain ⟨kA, comp, k1, k2, k3, -⟩ := (hKK.2 5 _ rfl).2
  have hcomp : comp = g.1.1 6 := Option.some.inj (k3.symm.trans (by cases hr'; exact hcls.1))
  subst hcomp
  obtain ⟨kC, hkC, -⟩ := hcls.2
  refine W.aast C.1 C.2.1 hat (fun q h => by cases h) (fun h => by cases h) k1 k2 rfl hkC ⟨h0, by show _ < (arrV _ _ _).slots.size; rw [arrV_size]; exact hlt⟩ g1 (fun q h => by rw [g3] at h; cases h) (by rw [g2]; exact hkC) (by rw [g2]; exact va_assign hcls) rfl rfl d fun H1 e1 e2 e3 => ?_
  refine k p e s m args below meth c0 H1 _ rl C (hR.upd C.2.2.2.2.2.2.2.1.2.1 hT.1 hT.2.1 rfl (fun _ _ => rfl) e2 e3 ?_ (fun b2 _ hb2 => cont_congr rfl rfl rfl (up2_ne hb2)) (WT_R hR.2.2.2.2.2.2 hT.1 (by rw [hT.2.2]; exact hb))) (hS.put e2 e3 (by show g.2.2.1 ≤ adr g a; rw [adr_i hT.1]; exact Nat.le_add_right _ _)) hL
  rw [cont_r (w := (w.1, w.2.1, w.2.2.1, up2 w.2.2.2 a i.toNatClampNeg (some b))) hT.2.2 (by decide)]
  show H1[adr g a]? = some (vp_cell _ _)
  rw [e1, vp_cell_q, vp_cell_q, arrV_store]
  congr 2
  funext q
  by_cases hq : q = i.toNatClampNeg
  · subst hq
    simp [updV, up2, va_rf]
  · simp [updV, up2, hq]
theorem Wp.aast18 {a b : Nat} {i : Int32} (hT : Tw w.1 a 18) (hb : Tw w.1 b 8) (d : decode cx.2.1 pc = .ok (.aastore, 1)) (hi : inb i (w.1.2.2 a) = true) (k : Wp l g cx Rm E (pc + 1) ls st n z (w.1, w.2.1, w.2.2.1, up2 w.2.2.2 a i.toNatClampNeg (some b))) : Wp l g cx Rm E pc ls (.ref b :: .int i :: .ref a :: st) n z w := by
  intro p e s m args below meth c0 H locs rl C hR hS hL
  have hi := inb_vp hi
  have hlt : i.toNatClampNeg < w.1.2.2 a := Nat.not_le.mp fun q => hi (Or.inr q)
  have h0 : ¬ i < 0 := fun q => hi (Or.inl q)
  have hat : H[adr g a]? = some (vp_cell (g.2.1 18) (w.1.2.2 a, .inr (.inr (.inr (.inr (fun i => (w.2.2.2 a i).map (adr g))))))) := by
    have h := hR.at hT.1 hT.2.1
    rw [cont_r hT.2.2 (by decide)] at h
    exact h
  have hbt : va_at g.1 vwCl (adr g b, .inr (8, ob_ g w.2 b (fl_ 8))) H := by
    have h := hR.at hb.1 hb.2.1
    rw [cont_ob hb.2.2 (by decide)] at h
    exact h
  obtain ⟨r', hr', cellV, g1, g2, g3, -⟩ := hbt
  have hKK := C.2.2.2.2.2.2.2.1.1
  have hcls := (hKK.1 8 r' hr').2
  obtain ⟨kA, comp, k1, k2, k3, -⟩ := (hKK.2 6 _ rfl).2
  have hcomp : comp = g.1.1 8 := Option.some.inj (k3.symm.trans (by cases hr'; exact hcls.1))
  subst hcomp
  obtain ⟨kC, hkC, -⟩ := hcls.2
  refine W.aast C.1 C.2.1 hat (fun q h => by cases h) (fun h => by cases h) k1 k2 rfl hkC ⟨h0, by show _ < (arrV _ _ _).slots.size; rw [arrV_size]; exact hlt⟩ g1 (fun q h => by rw [g3] at h; cases h) (by rw [g2]; exact hkC) (by rw [g2]; exact va_assign hcls) rfl rfl d fun H1 e1 e2 e3 => ?_
  refine k p e s m args below meth c0 H1 _ rl C (hR.upd C.2.2.2.2.2.2.2.1.2.1 hT.1 hT.2.1 rfl (fun _ _ => rfl) e2 e3 ?_ (fun b2 _ hb2 => cont_congr rfl rfl rfl (up2_ne hb2)) (WT_R hR.2.2.2.2.2.2 hT.1 (by rw [hT.2.2]; exact hb))) (hS.put e2 e3 (by show g.2.2.1 ≤ adr g a; rw [adr_i hT.1]; exact Nat.le_add_right _ _)) hL
  rw [cont_r (w := (w.1, w.2.1, w.2.2.1, up2 w.2.2.2 a i.toNatClampNeg (some b))) hT.2.2 (by decide)]
  show H1[adr g a]? = some (vp_cell _ _)
  rw [e1, vp_cell_q, vp_cell_q, arrV_store]
  congr 2
  funext q
  by_cases hq : q = i.toNatClampNeg
  · subst hq
    simp [updV, up2, va_rf]
  · simp [updV, up2, hq]
end RF
