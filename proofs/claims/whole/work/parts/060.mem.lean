/-! THE ABSTRACT MACHINE's rows of the heap, of calls and of ends -/
theorem wsI_get {g : g_T} {w : w_T} {a : Nat} (h6 : 6 ≤ a) (hN : a < w.1.1) : (wsI g w)[a - 6]? = some (adr g a, cont g w a) := by
  have h1 : a - 6 < w.1.1 - 6 := by omega
  have h2 : a - 6 + 6 = a := by omega
  have h3 : ¬ a < 6 := by omega
  simp [wsI, List.getElem?_map, List.getElem?_range h1, adr, h2, h3]
theorem wsI_some {g : g_T} {w : w_T} {k : Nat} {q : Nat × va_E} (h : (wsI g w)[k]? = some q) : k + 6 < w.1.1 ∧ q = (g.2.2.1 + k, cont g w (k + 6)) := by
  have h1 : k < w.1.1 - 6 := by
    have := (List.getElem?_eq_some_iff.mp h).1
    simpa [wsI] using this
  rw [wsI, List.getElem?_map, List.getElem?_range h1] at h
  exact ⟨by omega, (Option.some.inj h).symm⟩
theorem wsI_D (g : g_T) (w : w_T) : va_D (fun q => g.2.2.1 ≤ q) (wsI g w) := by
  refine ⟨fun i j p q hp hq h => ?_, fun k q hq => ?_⟩
  · obtain ⟨-, rfl⟩ := wsI_some hp
    obtain ⟨-, rfl⟩ := wsI_some hq
    dsimp only at h
    omega
  · obtain ⟨-, rfl⟩ := wsI_some hq
    exact Nat.le_add_right _ _
theorem adr_i {g : g_T} {a : Nat} (h : 6 ≤ a) : adr g a = g.2.2.1 + (a - 6) := if_neg (by omega)
theorem Rep.at {g : g_T} {w : w_T} {H : Heap} (hR : Rep g w H) {a : Nat} (h6 : 6 ≤ a) (hN : a < w.1.1) : va_at g.1 vwCl (adr g a, cont g w a) H := hR.2.2.2.2.2.1 _ _ (wsI_get h6 hN)
theorem Rep.lt {g : g_T} {w : w_T} {H : Heap} (hR : Rep g w H) {a : Nat} (h6 : 6 ≤ a) (hN : a < w.1.1) : adr g a < H.size := by
  rw [hR.2.1, adr_i h6]
  have := hR.1
  omega
/-- one cell of ours is written -/
theorem Rep.upd {g : g_T} {w w' : w_T} {H H1 : Heap} (hR : Rep g w H) (hX : ∀ k, k < 6 → g.2.2.2 k < g.2.2.1) {a : Nat} (h6 : 6 ≤ a) (hN : a < w.1.1) (hs : w'.1 = w.1) (hI : ∀ k, k < 5 → w'.2.1 k = w.2.1 k)
    (hz : H1.size = H.size) (hq : ∀ q, q ≠ adr g a → H1[q]? = H[q]?) (ha : va_at g.1 vwCl (adr g a, cont g w' a) H1) (ho : ∀ b, 6 ≤ b → b ≠ a → cont g w' b = cont g w b) (hT : WT w') : Rep g w' H1 := by
  obtain ⟨r1, r2, r3, r4, r5, r6, r7⟩ := hR
  refine ⟨by rw [hs]; exact r1, by rw [hz, hs]; exact r2, by rw [hs]; exact r3, by rw [hs]; exact r4, ?_, ?_, hT⟩
  · intro k hk
    have h1 := hX k (by omega)
    obtain ⟨q, c1, c2⟩ := r5 k hk
    rw [hs, hI k hk]
    exact ⟨q, by rw [hq _ (by rw [adr_i h6]; omega)]; exact c1, c2⟩
  · intro k q hk
    obtain ⟨h1, rfl⟩ := wsI_some hk
    by_cases e : k + 6 = a
    · subst e
      rw [adr_i h6] at ha
      exact ha
    · rw [ho (k + 6) (by omega) e]
      rw [hs] at h1
      have h2 : (wsI g w)[k]? = some (g.2.2.1 + k, cont g w (k + 6)) := by
        have h3 := wsI_get (g := g) (w := w) (a := k + 6) (by omega) h1
        rwa [show k + 6 - 6 = k by omega, adr_i (by omega), show k + 6 - 6 = k by omega] at h3
      refine (r6 k _ h2).kept (hq _ ?_)
      rw [adr_i h6]
      dsimp only
      omega
theorem up2_ne {α : Type} {f : Nat → Nat → α} {a j : Nat} {v : α} {b : Nat} (h : b ≠ a) : up2 f a j v b = f b := by
  funext i
  exact if_neg h
theorem upR_ne {α : Type} {f : Nat → Nat → α} {a : Nat} {h : Nat → α} {b : Nat} (hb : b ≠ a) : upR f a h b = f b := by
  funext i
  exact if_neg hb
theorem up2_row {α : Type} (f : Nat → Nat → α) (a j : Nat) (v : α) : up2 f a j v a = va_up (f a) j v := by
  funext i
  exact if_pos rfl
theorem cont_congr {g : g_T} {w w' : w_T} {b : Nat} (hs : w'.1 = w.1) (h1 : w'.2.1 b = w.2.1 b) (h2 : w'.2.2.1 b = w.2.2.1 b) (h3 : w'.2.2.2 b = w.2.2.2 b) : cont g w' b = cont g w b := by
  have e : ob_ g w'.2 b (fl_ (w.1.2.1 b)) = ob_ g w.2 b (fl_ (w.1.2.1 b)) := by
    unfold ob_
    refine List.map_congr_left (fun j _ => ?_)
    unfold vl_
    rw [h1, h2, h3]
  unfold cont
  rw [hs, h1, h2, h3, e]
/-- what the tables say of a field, by its link -/
def FL (own : String) (idx c j t : Nat) (ty : FieldType) (fin : Bool) : Prop := ∃ (C : String) (T : u_T) (N : Nat) (ty0 : Nat → FieldType), vwCl[c]? = some (C, T, N) ∧ (∀ w ∈ u_ws C T N, w ∈ gt) ∧ (∀ k, k < N → parseFieldDescriptor (T k).2.2.1 = some (ty0 k)) ∧ (∀ a, a < N → ∀ b, b < N → a ≠ b → (T a).2.1 ≠ (T b).2.1) ∧ j < N ∧ Cond.fieldLink own idx (T j).1 (T j).2.1 (T j).2.2.1 ∈ gt ∧ (T j).2.2.2 = fin ∧ parseFieldDescriptor (T j).2.2.1 = some ty ∧ c < 12 ∧ (fl_ c)[j]? = some t ∧ (fl_ c).length = N ∧ (T j).1 = C
theorem ob_at (g : g_T) (M : I_T × L_T × R_T) (k : Nat) {ts : List Nat} {j t : Nat} (h : ts[j]? = some t) : (ob_ g M k ts)[j]? = some (vl_ g M k t j) := by
  have h1 : j < ts.length := (List.getElem?_eq_some_iff.mp h).1
  rw [ob_, List.getElem?_map, List.getElem?_range h1]
  simp [List.getD, h]
theorem cont_ob {g : g_T} {w : w_T} {a c : Nat} (h : w.1.2.1 a = c) (hc : c < 12) : cont g w a = .inr (c, ob_ g w.2 a (fl_ c)) := by
  unfold cont
  rw [h, if_pos hc]
theorem cont_i {g : g_T} {w : w_T} {a c : Nat} (h : w.1.2.1 a = c) (h1 : ¬ c < 12) (h2 : ¬ c = 14) (h3 : c < 16) : cont g w a = .inl (g.2.1 c, w.1.2.2 a, .inl (w.2.1 a)) := by
  unfold cont
  rw [h, if_neg h1, if_neg h2, if_pos h3]
theorem cont_l {g : g_T} {w : w_T} {a : Nat} (h : w.1.2.1 a = 14) : cont g w a = .inl (g.2.1 14, w.1.2.2 a, .inr (.inl (w.2.2.1 a))) := by
  unfold cont
  rw [h, if_neg (by decide), if_pos rfl]
theorem cont_r {g : g_T} {w : w_T} {a c : Nat} (h : w.1.2.1 a = c) (h1 : ¬ c < 16) : cont g w a = .inl (g.2.1 c, w.1.2.2 a, .inr (.inr (.inr (.inr (fun i => (w.2.2.2 a i).map (adr g)))))) := by
  unfold cont
  rw [h, if_neg (by omega), if_neg (by omega), if_neg h1]
section RM
variable {l : Launch} {g : g_T} {cx : cx_T} {Rm : Room} {E : E_T} {pc : Nat} {ls : List (Nat × Value)} {st : List Value} {n z : Nat} {w : w_T}
theorem Wp.getK {idx a c j t : Nat} {ty : FieldType} {fin : Bool} (F : FL cx.1.cls idx c j t ty fin) (hT : Tw w.1 a c) (d : decode cx.2.1 pc = .ok (.getfield idx, 3)) {v : Value} (hv : ∀ g : g_T, cv g v = vl_ g w.2 a t j) (k : Wp l g cx Rm E (pc + 3) ls (v :: st) n z w) : Wp l g cx Rm E pc ls (.ref a :: st) n z w := by
  intro p e s m args below meth c0 H locs rl C hR hS hL
  obtain ⟨Cn, T, N, ty0, f1, f2, f3, f4, f5, f6, f7, f8, f9, f10, f11, f12⟩ := F
  refine va_get C.1 C.2.1 (Ts := gt) C.2.2.2.2.2.1 f2 C.2.2.2.2.1 C.2.2.2.2.2.2.2.1.1 hR.2.2.2.2.2.1 (a - 6) ((wsI_get hT.1 hT.2.1).trans (by rw [cont_ob hT.2.2 f9])) f1 j f5 (C.2.2.2.2.2.1 _ f6) (fun _ h => h) (ob_at g w.2 a f10) d ?_
  rw [← hv g]
  exact k p e s m args below meth c0 H locs rl C hR hS hL
theorem Wp.getI {idx a c j : Nat} {ty : FieldType} {fin : Bool} (F : FL cx.1.cls idx c j 0 ty fin) (hT : Tw w.1 a c) (d : decode cx.2.1 pc = .ok (.getfield idx, 3)) (k : Wp l g cx Rm E (pc + 3) ls (.int (w.2.1 a j) :: st) n z w) : Wp l g cx Rm E pc ls (.ref a :: st) n z w := Wp.getK F hT d (fun _ => rfl) k
theorem Wp.getL {idx a c j : Nat} {ty : FieldType} {fin : Bool} (F : FL cx.1.cls idx c j 1 ty fin) (hT : Tw w.1 a c) (d : decode cx.2.1 pc = .ok (.getfield idx, 3)) (k : Wp l g cx Rm E (pc + 3) ls (.long (w.2.2.1 a j) :: st) n z w) : Wp l g cx Rm E pc ls (.ref a :: st) n z w := Wp.getK F hT d (fun _ => rfl) k
theorem Wp.getR {idx a b c c2 j : Nat} {ty : FieldType} {fin : Bool} (F : FL cx.1.cls idx c j 2 ty fin) (hc : rt_ c j = c2) (hT : Tw w.1 a c) (d : decode cx.2.1 pc = .ok (.getfield idx, 3)) (hb : w.2.2.2 a j = some b) (k : Tw w.1 b c2 → Wp l g cx Rm E (pc + 3) ls (.ref b :: st) n z w) : Wp l g cx Rm E pc ls (.ref a :: st) n z w := by
  intro p e s m args below meth c0 H locs rl C hR hS hL
  refine Wp.getK F hT d (v := .ref b) (fun g => ?_) (k ?_) p e s m args below meth c0 H locs rl C hR hS hL
  · unfold vl_
    rw [hb]
    rfl
  · have h := hR.2.2.2.2.2.2 a j b hT.1 hT.2.1 hb
    rw [hT.2.2, hc] at h
    exact h
theorem ob_put {g : g_T} {w w' : w_T} {a c j t : Nat} {v : Value} (hj : (fl_ c)[j]? = some t) (hv : vl_ g w'.2 a t j = v) (hne : ∀ i t', i ≠ j → (fl_ c)[i]? = some t' → vl_ g w'.2 a t' i = vl_ g w.2 a t' i) : ob_ g w'.2 a (fl_ c) = (ob_ g w.2 a (fl_ c)).set j v := by
  refine List.ext_getElem? (fun i => ?_)
  rw [List.getElem?_set]
  by_cases hi : j = i
  · subst hi
    have h1 : j < (ob_ g w.2 a (fl_ c)).length := (List.getElem?_eq_some_iff.mp (ob_at g w.2 a hj)).1
    rw [if_pos rfl, if_pos h1, ob_at g w'.2 a hj, hv]
  · rw [if_neg hi]
    cases hq : (fl_ c)[i]? with
    | some t' => rw [ob_at g w'.2 a hq, ob_at g w.2 a hq, hne i t' (fun h => hi h.symm) hq]
    | none =>
      have h1 : (fl_ c).length ≤ i := List.getElem?_eq_none_iff.mp hq
      rw [List.getElem?_eq_none_iff.mpr (by simpa [ob_] using h1), List.getElem?_eq_none_iff.mpr (by simpa [ob_] using h1)]
theorem WT_up {w : w_T} {I : I_T} {L : L_T} (h : WT w) : WT (w.1, I, L, w.2.2.2) := h
/-- a field is written: any kind -/
theorem Wp.putK {idx a c j t : Nat} {ty : FieldType} {fin : Bool} {v : Value} {w' : w_T} (F : FL cx.1.cls idx c j t ty fin) (hf : fin = true → cx.1.name = "<init>" ∧ vwCl[c]?.map (fun q => q.1) = some cx.1.cls) (hT : Tw w.1 a c) (d : decode cx.2.1 pc = .ok (.putfield idx, 3))
    (hn : narrow ty (cv g v) = cv g v) (hfit : fits ty (cv g v) = true) (hs : w'.1 = w.1) (h1 : ∀ b, b ≠ a → w'.2.1 b = w.2.1 b ∧ w'.2.2.1 b = w.2.2.1 b ∧ w'.2.2.2 b = w.2.2.2 b) (hv : vl_ g w'.2 a t j = cv g v) (hne : ∀ i t', i ≠ j → (fl_ c)[i]? = some t' → vl_ g w'.2 a t' i = vl_ g w.2 a t' i) (hW : WT w → WT w')
    (k : Wp l g cx Rm E (pc + 3) ls st n z w') : Wp l g cx Rm E pc ls (v :: .ref a :: st) n z w := by
  intro p e s m args below meth c0 H locs rl C hR hS hL
  obtain ⟨Cn, T, N, ty0, f1, f2, f3, f4, f5, f6, f7, f8, f9, f10, f11, f12⟩ := F
  have hK := C.2.2.2.2.2.2.2.1.1
  have hX := C.2.2.2.2.2.2.2.1.2.1
  have hts := C.2.2.2.2.2.1
  have hown := C.2.2.2.2.1
  have hin2 : ∀ w ∈ u_ws Cn T N, w ∈ gt := f2
  have hap := va_apart (own := cx.1.cls) hts hin2 ty0 f3 f4 hK f1
  have he : (wsI g w)[a - 6]? = some (adr g a, .inr (c, ob_ g w.2 a (fl_ c))) := (wsI_get hT.1 hT.2.1).trans (by rw [cont_ob hT.2.2 f9])
  obtain ⟨r, h9, cell, q1, q2, q3, q4⟩ := hR.2.2.2.2.2.1 _ _ he
  have hr : r = (Cn, T, N) := Option.some.inj (h9.symm.trans f1)
  subst hr
  obtain ⟨hSl, hfc, kC, hkC, hkind⟩ := hK.1 c _ f1
  obtain ⟨cf, kf, fi, f, hi, hsl⟩ := hSl j f5
  have hlay := hts _ (hin2 _ (u_in_lay f5))
  have hst := (u_facts hfc hkC (u_lays hts hin2 f5) hi).1
  have hlen : j < (ob_ g w.2 a (fl_ c)).length := (List.getElem?_eq_some_iff.mp (ob_at g w.2 a f10)).1
  have fin' : ∀ (H' : Heap) (locs1 : List Loc), H'[adr g a]? = some (cell.setSlot (g.1.2 c j) (cv g v)) → H'.size = H.size → (∀ q, q ≠ adr g a → H'[q]? = H[q]?) → va_S (fun q => g.2.2.1 ≤ q) s.heap H' locs1 → W p l e Rm s m args below meth c0 H' locs1 n z (E below args s) (F0 m (pc + 3) rl (st.map (cv g))) := by
    intro H' locs1 e1 e2 e3 hS1
    refine k p e s m args below meth c0 H' locs1 rl C (hR.upd hX hT.1 hT.2.1 hs ?_ e2 e3 ?_ ?_ (hW hR.2.2.2.2.2.2)) hS1 hL
    · intro b hb
      exact (h1 b (by have := hT.1; omega)).1
    · rw [cont_ob (by rw [hs]; exact hT.2.2) f9, ob_put (w := w) f10 hv hne]
      exact ⟨_, f1, t_OB.to (V := updV (vp_V (ob_ g w.2 a (fl_ c))) j (cv g v)) ⟨_, e1, q2, q3, t_set q4 hap f5 (cv g v)⟩ (fun i _ => vp_updV_set hlen (cv g v) i)⟩
    · intro b _ hb
      exact cont_congr hs (h1 b hb).1 (h1 b hb).2.1 (h1 b hb).2.2
  cases fin with
  | false =>
    unfold u_lay at hlay
    rw [if_neg (by rw [f7]; decide)] at hlay
    have h6 := u_store hfc hkC hkind hlay hi f8 hn hfit
    refine W.putK C.1 C.2.1 (f := f) ⟨hown, C.2.2.2.2.2.1 _ f6, ⟨_, _, _, hi⟩, hst⟩ (by rw [q2]; exact h6) q1 q3 (by rw [hsl]; exact k2_hasslot (q4 j f5)) rfl rfl d fun H' e1 e2 e3 => ?_
    rw [hsl] at e1 ⊢
    exact fin' H' _ e1 e2 e3 (hS.put e2 e3 (by show g.2.2.1 ≤ adr g a; rw [adr_i hT.1]; exact Nat.le_add_right _ _))
  | true =>
    unfold u_lay at hlay
    rw [if_pos f7] at hlay
    obtain ⟨g1, g2⟩ := hf rfl
    rw [f1] at g2
    have g3 : Cn = cx.1.cls := Option.some.inj g2
    have hcf : m.cls = cf := by
      obtain ⟨_, _, c', _, _, _, -, -, hf', -, -, -, hown2, -⟩ := Cond.laysFinal_spec hlay
      have e1 : c' = cf := by have := hi.symm.trans hf'; simp at this; exact this.1.symm
      rw [f12, g3] at hown2
      rw [← e1]
      exact Option.some.inj (hown.symm.trans hown2)
    have h6 := u_fits hfc hkC hkind (Or.inr hlay) hi f8 hn hfit
    refine W.putFinK C.1 C.2.1 hown (C.2.2.2.2.2.1 _ f6) hi hst hcf (C.2.2.2.2.2.2.2.2.2 g1) (by rw [q2]; exact h6) q1 q3 (by rw [hsl]; exact k2_hasslot (q4 j f5)) rfl rfl d fun H' e1 e2 e3 => ?_
    rw [hsl] at e1 ⊢
    exact fin' H' _ e1 e2 e3 (hS.put e2 e3 (by show g.2.2.1 ≤ adr g a; rw [adr_i hT.1]; exact Nat.le_add_right _ _))
end RM
