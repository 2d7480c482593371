theorem gtm1 (i : Nat) {w : Cond} (h : tables_1_1[i]? = some w) (h2 : goodWord w = true) : w ∈ gt := List.mem_filter.mpr ⟨List.mem_append_right _ (show w ∈ tables_1 from List.mem_append_left _ (List.mem_of_getElem? h)), h2⟩
theorem gtm2 (i : Nat) {w : Cond} (h : tables_1_2[i]? = some w) (h2 : goodWord w = true) : w ∈ gt := List.mem_filter.mpr ⟨List.mem_append_right _ (show w ∈ tables_1 from List.mem_append_right _ (List.mem_append_left _ (List.mem_of_getElem? h))), h2⟩
theorem gtm3 (i : Nat) {w : Cond} (h : tables_1_3[i]? = some w) (h2 : goodWord w = true) : w ∈ gt := List.mem_filter.mpr ⟨List.mem_append_right _ (show w ∈ tables_1 from List.mem_append_right _ (List.mem_append_right _ (List.mem_append_left _ (List.mem_of_getElem? h)))), h2⟩
theorem gtm4 (i : Nat) {w : Cond} (h : tables_1_4[i]? = some w) (h2 : goodWord w = true) : w ∈ gt := List.mem_filter.mpr ⟨List.mem_append_right _ (show w ∈ tables_1 from List.mem_append_right _ (List.mem_append_right _ (List.mem_append_right _ (List.mem_append_left _ (List.mem_of_getElem? h))))), h2⟩
theorem gtm5 (i : Nat) {w : Cond} (h : tables_1_5[i]? = some w) (h2 : goodWord w = true) : w ∈ gt := List.mem_filter.mpr ⟨List.mem_append_right _ (show w ∈ tables_1 from List.mem_append_right _ (List.mem_append_right _ (List.mem_append_right _ (List.mem_append_right _ (List.mem_append_left _ (List.mem_of_getElem? h)))))), h2⟩
theorem gtm6 (i : Nat) {w : Cond} (h : tables_1_6[i]? = some w) (h2 : goodWord w = true) : w ∈ gt := List.mem_filter.mpr ⟨List.mem_append_right _ (show w ∈ tables_1 from List.mem_append_right _ (List.mem_append_right _ (List.mem_append_right _ (List.mem_append_right _ (List.mem_append_right _ (List.mem_append_left _ (List.mem_of_getElem? h))))))), h2⟩
theorem gtm7 (i : Nat) {w : Cond} (h : tables_1_7[i]? = some w) (h2 : goodWord w = true) : w ∈ gt := List.mem_filter.mpr ⟨List.mem_append_right _ (show w ∈ tables_1 from List.mem_append_right _ (List.mem_append_right _ (List.mem_append_right _ (List.mem_append_right _ (List.mem_append_right _ (List.mem_append_right _ (List.mem_append_left _ (List.mem_of_getElem? h)))))))), h2⟩
theorem gtm8 (i : Nat) {w : Cond} (h : tables_1_8[i]? = some w) (h2 : goodWord w = true) : w ∈ gt := List.mem_filter.mpr ⟨List.mem_append_right _ (show w ∈ tables_1 from List.mem_append_right _ (List.mem_append_right _ (List.mem_append_right _ (List.mem_append_right _ (List.mem_append_right _ (List.mem_append_right _ (List.mem_append_right _ (List.mem_of_getElem? h)))))))), h2⟩
def imax (x y : Int32) : Int32 := if x < y then y else x
def imin (x y : Int32) : Int32 := if y < x then y else x
def lmax (x y : Int64) : Int64 := if y < x then x else y
/-! PROGRAMS AS FUNCTIONS: what the printed functions are made of -/
def itn {σ ρ : Type} (f : σ → Option (σ ⊕ ρ)) : Nat → σ → Option ρ
  | 0, _ => none
  | k + 1, s => (f s).bind fun x => match x with
    | .inl s' => itn f k s'
    | .inr r => some r
/-- a loop: its answer, if it ends -/
noncomputable def itC {σ ρ : Type} (f : σ → Option (σ ⊕ ρ)) (s : σ) : Option ρ :=
  haveI := Classical.propDecidable (∃ k, (itn f k s).isSome = true)
  if h : ∃ k, (itn f k s).isSome = true then itn f h.choose s else none
theorem itC_some {σ ρ : Type} {f : σ → Option (σ ⊕ ρ)} {s : σ} {r : ρ} (h : itC f s = some r) : ∃ k, itn f k s = some r := by
  unfold itC at h
  split at h
  · exact ⟨_, h⟩
  · cases h
theorem itn_up {σ ρ : Type} {f : σ → Option (σ ⊕ ρ)} : ∀ {k : Nat} {s : σ} {r : ρ}, itn f k s = some r → ∀ j, k ≤ j → itn f j s = some r
  | 0, _, _, h, _, _ => by cases h
  | k + 1, s, r, h, j, hj => by
    obtain ⟨j, rfl⟩ : ∃ i, j = i + 1 := ⟨j - 1, by omega⟩
    cases hf : f s with
    | none => simp [itn, hf] at h
    | some x =>
      cases x with
      | inl s' =>
        simp only [itn, hf, Option.bind_some] at h ⊢
        exact itn_up h j (by omega)
      | inr r' =>
        simp only [itn, hf, Option.bind_some] at h ⊢
        exact h
theorem itC_of {σ ρ : Type} {f : σ → Option (σ ⊕ ρ)} {s : σ} {r : ρ} (h : ∃ k, itn f k s = some r) : itC f s = some r := by
  obtain ⟨k, hk⟩ := h
  unfold itC
  rw [dif_pos ⟨k, by rw [hk]; rfl⟩]
  have h2 : ∃ k, (itn f k s).isSome = true := ⟨k, by rw [hk]; rfl⟩
  generalize hj : h2.choose = j
  have h3 : (itn f j s).isSome = true := by rw [← hj]; exact h2.choose_spec
  cases h4 : itn f j s with
  | none => rw [h4] at h3; cases h3
  | some r2 =>
    have a := itn_up hk (max k j) (Nat.le_max_left _ _)
    have b := itn_up h4 (max k j) (Nat.le_max_right _ _)
    exact b.symm.trans a
theorem itC_inl {σ ρ : Type} {f : σ → Option (σ ⊕ ρ)} {s s' : σ} (h : f s = some (.inl s')) : itC f s = itC f s' := by
  have key : ∀ r, itC f s = some r ↔ itC f s' = some r := by
    intro r
    constructor
    · intro q
      obtain ⟨k, hk⟩ := itC_some q
      cases k with
      | zero => cases hk
      | succ k => exact itC_of ⟨k, by simpa [itn, h] using hk⟩
    · intro q
      obtain ⟨k, hk⟩ := itC_some q
      exact itC_of ⟨k + 1, by simpa [itn, h] using hk⟩
  cases h1 : itC f s' with
  | some r => exact (key r).mpr h1
  | none =>
    cases h2 : itC f s with
    | none => rfl
    | some r => rw [(key r).mp h2] at h1; cases h1
theorem itC_inr {σ ρ : Type} {f : σ → Option (σ ⊕ ρ)} {s : σ} {r : ρ} (h : f s = some (.inr r)) : itC f s = some r := itC_of ⟨1, by simp [itn, h]⟩
theorem it_ind {σ ρ : Type} {f : σ → Option (σ ⊕ ρ)} {r : ρ} (P : σ → Prop) (hs : ∀ s s', f s = some (.inl s') → P s' → P s) (hx : ∀ s, f s = some (.inr r) → P s) : ∀ (k : Nat) (s : σ), itn f k s = some r → P s
  | 0, _, h => by cases h
  | k + 1, s, h => by
    cases hf : f s with
    | none => simp [itn, hf] at h
    | some x =>
      cases x with
      | inl s' =>
        simp only [itn, hf, Option.bind_some] at h
        exact hs s s' hf (it_ind P hs hx k s' h)
      | inr r' =>
        simp only [itn, hf, Option.bind_some] at h
        cases h
        exact hx s hf
def ocase {α : Type} (o : Option Nat) (a : α) (f : Nat → α) : α := match o with
  | none => a
  | some b => f b
theorem bnd {α β : Type} {o : Option α} {f : α → Option β} {x : β} (h : o.bind f = some x) : ∃ q, o = some q ∧ f q = some x := by
  cases o with
  | none => cases h
  | some q => exact ⟨q, rfl, h⟩
theorem gd {α : Type} {c : Prop} {_ : Decidable c} {a : Option α} {x : α} (h : (if c then a else none) = some x) : c ∧ a = some x := by
  by_cases hc : c
  · rw [if_pos hc] at h
    exact ⟨hc, h⟩
  · rw [if_neg hc] at h
    cases h
theorem bndR {α β : Type} {o : Option α} {f : α → Option β} {x : β} {P : Prop} (k : ∀ q, o = some q → f q = some x → P) : o.bind f = some x → P := fun h => by
  obtain ⟨q, a, b⟩ := bnd h
  exact k q a b
theorem gdR {α : Type} {c : Prop} {_ : Decidable c} {a : Option α} {x : α} {P : Prop} (k : c → a = some x → P) : (if c then a else none) = some x → P := fun h => k (gd h).1 (gd h).2
theorem ite_t {α : Type} {c : Prop} {_ : Decidable c} {a b x : α} (hc : c) (h : (if c then a else b) = x) : a = x := by rwa [if_pos hc] at h
theorem ite_f {α : Type} {c : Prop} {_ : Decidable c} {a b x : α} (hc : ¬ c) (h : (if c then a else b) = x) : b = x := by rwa [if_neg hc] at h
theorem i32_ne {x y : Int32} (h : ¬ x = y) : x.toInt ≠ y.toInt := fun q => h (Int32.toInt_inj.mp q)
section HQ
variable {l : Launch} {g : g_T} {cx : cx_T} {Rm : Room} {E : E_T} {pc : Nat} {ls : List (Nat × Value)} {st : List Value} {n z : Nat} {sh : sh_T} {I : I_T} {L : L_T} {R : R_T}
theorem Wp.topI {w : w_T} {x y : Int32} (h : x = y) (k : Wp l g cx Rm E pc ls (.int y :: st) n z w) : Wp l g cx Rm E pc ls (.int x :: st) n z w := by subst h; exact k
theorem Wp.topL {w : w_T} {x y : Int64} (h : x = y) (k : Wp l g cx Rm E pc ls (.long y :: st) n z w) : Wp l g cx Rm E pc ls (.long x :: st) n z w := by subst h; exact k
theorem Wp.memI {I' : I_T} (h : I = I') (k : Wp l g cx Rm E pc ls st n z (sh, I', L, R)) : Wp l g cx Rm E pc ls st n z (sh, I, L, R) := by subst h; exact k
theorem Wp.memL {L' : L_T} (h : L = L') (k : Wp l g cx Rm E pc ls st n z (sh, I, L', R)) : Wp l g cx Rm E pc ls st n z (sh, I, L, R) := by subst h; exact k
theorem Wp.memR {R' : R_T} (h : R = R') (k : Wp l g cx Rm E pc ls st n z (sh, I, L, R')) : Wp l g cx Rm E pc ls st n z (sh, I, L, R) := by subst h; exact k
theorem Wp.stk {w : w_T} {st' : List Value} (h : st = st') (k : Wp l g cx Rm E pc ls st' n z w) : Wp l g cx Rm E pc ls st n z w := by subst h; exact k
theorem Wp.aload_no {w : w_T} {q : Fin 4} {i : Nat} {x : Option Nat} (j : Nat) (d : decode cx.2.1 pc = .ok (.aload_n q, 1)) (hi : (q : Nat) = i) (hl : ls[j]? = some (i, va_rf x)) (k : Wp l g cx Rm E (pc + 1) ls (va_rf x :: st) n z w) : Wp l g cx Rm E pc ls st n z w := by
  cases x with
  | none => exact fun p e s m args below meth c H locs rl C hR hS hL => lv_aload_nN C.1 C.2.1 d hi (lv_at hL j (lcv_at hl)) (k p e s m args below meth c H locs rl C hR hS hL)
  | some b => exact Wp.aload_n j d hi hl k
theorem Wp.aload_o {w : w_T} {i : Nat} {x : Option Nat} (j : Nat) (d : decode cx.2.1 pc = .ok (.aload i, 2)) (hl : ls[j]? = some (i, va_rf x)) (k : Wp l g cx Rm E (pc + 2) ls (va_rf x :: st) n z w) : Wp l g cx Rm E pc ls st n z w := by
  cases x with
  | none => exact fun p e s m args below meth c H locs rl C hR hS hL => lv_aloadN C.1 C.2.1 d (lv_at hL j (lcv_at hl)) (k p e s m args below meth c H locs rl C hR hS hL)
  | some b => exact Wp.aload j d hl k
theorem Wp.astore_no {w : w_T} {q : Fin 4} {i : Nat} {x : Option Nat} {ls' : List (Nat × Value)} (d : decode cx.2.1 pc = .ok (.astore_n q, 1)) (hi : (q : Nat) = i) (hn : i < cx.2.2.1) (hl : (i, va_rf x) :: ls.filter (fun q => !(q.1 == i) && !(q.1 + 1 == i && q.2.category == 2)) = ls') (k : Wp l g cx Rm E (pc + 1) ls' st n z w) : Wp l g cx Rm E pc ls (va_rf x :: st) n z w := by
  cases x with
  | none => exact fun p e s m args below meth c H locs rl C hR hS hL => lv_astore_nN C.1 C.2.1 d hi hL hn (lcv_st1 g i .null hl) (fun rl' hL' => k p e s m args below meth c H locs rl' C hR hS hL')
  | some b => exact Wp.astore_n d hi hn hl k
theorem Wp.astore_o {w : w_T} {i : Nat} {x : Option Nat} {ls' : List (Nat × Value)} (d : decode cx.2.1 pc = .ok (.astore i, 2)) (hn : i < cx.2.2.1) (hl : (i, va_rf x) :: ls.filter (fun q => !(q.1 == i) && !(q.1 + 1 == i && q.2.category == 2)) = ls') (k : Wp l g cx Rm E (pc + 2) ls' st n z w) : Wp l g cx Rm E pc ls (va_rf x :: st) n z w := by
  cases x with
  | none => exact fun p e s m args below meth c H locs rl C hR hS hL => lv_astoreN C.1 C.2.1 d hL hn (lcv_st1 g i .null hl) (fun rl' hL' => k p e s m args below meth c H locs rl' C hR hS hL')
  | some b => exact Wp.astore d hn hl k
theorem Wq.getI {idx a c j : Nat} {ty : FieldType} {fin : Bool} (F : FL cx.1.cls idx c j 0 ty fin) (hT : Tw sh a c) (d : decode cx.2.1 pc = .ok (.getfield idx, 3)) (k : Wp l g cx Rm E (pc + 3) ls (.int (I a j) :: st) n z (sh, I, L, R)) : Wp l g cx Rm E pc ls (.ref a :: st) n z (sh, I, L, R) := Wp.getI (w := (sh, I, L, R)) F hT d k
theorem Wq.getL {idx a c j : Nat} {ty : FieldType} {fin : Bool} (F : FL cx.1.cls idx c j 1 ty fin) (hT : Tw sh a c) (d : decode cx.2.1 pc = .ok (.getfield idx, 3)) (k : Wp l g cx Rm E (pc + 3) ls (.long (L a j) :: st) n z (sh, I, L, R)) : Wp l g cx Rm E pc ls (.ref a :: st) n z (sh, I, L, R) := Wp.getL (w := (sh, I, L, R)) F hT d k
theorem Wq.getR {idx a b c c2 j : Nat} {ty : FieldType} {fin : Bool} (F : FL cx.1.cls idx c j 2 ty fin) (hc : rt_ c j = c2) (hT : Tw sh a c) (d : decode cx.2.1 pc = .ok (.getfield idx, 3)) (hb : R a j = some b) (k : Tw sh b c2 → Wp l g cx Rm E (pc + 3) ls (.ref b :: st) n z (sh, I, L, R)) : Wp l g cx Rm E pc ls (.ref a :: st) n z (sh, I, L, R) := Wp.getR (w := (sh, I, L, R)) F hc hT d hb k
theorem Wq.putI {idx a c j : Nat} {ty : FieldType} {fin : Bool} {x : Int32} (F : FL cx.1.cls idx c j 0 ty fin) (hf : fin = true → cx.1.name = "<init>" ∧ vwCl[c]?.map (fun q => q.1) = some cx.1.cls) (hT : Tw sh a c) (d : decode cx.2.1 pc = .ok (.putfield idx, 3)) (hn : narrow ty (.int x) = .int x ∧ fits ty (.int x) = true) (k : Wp l g cx Rm E (pc + 3) ls st n z (sh, up2 I a j x, L, R)) : Wp l g cx Rm E pc ls (.int x :: .ref a :: st) n z (sh, I, L, R) := Wp.putI (w := (sh, I, L, R)) F hf hT d hn k
theorem Wq.putL {idx a c j : Nat} {fin : Bool} {x : Int64} (F : FL cx.1.cls idx c j 1 .long fin) (hf : fin = true → cx.1.name = "<init>" ∧ vwCl[c]?.map (fun q => q.1) = some cx.1.cls) (hT : Tw sh a c) (d : decode cx.2.1 pc = .ok (.putfield idx, 3)) (k : Wp l g cx Rm E (pc + 3) ls st n z (sh, I, up2 L a j x, R)) : Wp l g cx Rm E pc ls (.long x :: .ref a :: st) n z (sh, I, L, R) := Wp.putL (w := (sh, I, L, R)) F hf hT d k
theorem Wq.putR {idx a b c c2 j : Nat} {ty : FieldType} {fin : Bool} (F : FL cx.1.cls idx c j 2 ty fin) (hf : fin = true → cx.1.name = "<init>" ∧ vwCl[c]?.map (fun q => q.1) = some cx.1.cls) (hc : rt_ c j = c2) (hT : Tw sh a c) (hb : Tw sh b c2) (d : decode cx.2.1 pc = .ok (.putfield idx, 3)) (hn : ∀ q : Nat, narrow ty (.ref q) = .ref q ∧ fits ty (.ref q) = true) (k : Wp l g cx Rm E (pc + 3) ls st n z (sh, I, L, up2 R a j (some b))) : Wp l g cx Rm E pc ls (.ref b :: .ref a :: st) n z (sh, I, L, R) := Wp.putR (w := (sh, I, L, R)) F hf hT (by rw [hc]; exact hb) d hn k
theorem Wq.iald {a : Nat} {i : Int32} (hT : Ty sh a 13) (d : decode cx.2.1 pc = .ok (.iaload, 1)) (hi : inb i (sh.2.2 a) = true) (k : Wp l g cx Rm E (pc + 1) ls (.int (I a i.toNatClampNeg) :: st) n z (sh, I, L, R)) : Wp l g cx Rm E pc ls (.int i :: .ref a :: st) n z (sh, I, L, R) := Wp.iald (w := (sh, I, L, R)) hT d hi k
theorem Wq.bald {a : Nat} {i : Int32} (hT : Tw sh a 12) (d : decode cx.2.1 pc = .ok (.baload, 1)) (hi : inb i (sh.2.2 a) = true) (k : Wp l g cx Rm E (pc + 1) ls (.int (I a i.toNatClampNeg) :: st) n z (sh, I, L, R)) : Wp l g cx Rm E pc ls (.int i :: .ref a :: st) n z (sh, I, L, R) := Wp.bald (w := (sh, I, L, R)) hT d hi k
theorem Wq.zald {a : Nat} {i : Int32} (hT : Tw sh a 15) (d : decode cx.2.1 pc = .ok (.baload, 1)) (hi : inb i (sh.2.2 a) = true) (k : Wp l g cx Rm E (pc + 1) ls (.int (I a i.toNatClampNeg) :: st) n z (sh, I, L, R)) : Wp l g cx Rm E pc ls (.int i :: .ref a :: st) n z (sh, I, L, R) := Wp.zald (w := (sh, I, L, R)) hT d hi k
theorem Wq.lald {a : Nat} {i : Int32} (hT : Tw sh a 14) (d : decode cx.2.1 pc = .ok (.laload, 1)) (hi : inb i (sh.2.2 a) = true) (k : Wp l g cx Rm E (pc + 1) ls (.long (L a i.toNatClampNeg) :: st) n z (sh, I, L, R)) : Wp l g cx Rm E pc ls (.int i :: .ref a :: st) n z (sh, I, L, R) := Wp.lald (w := (sh, I, L, R)) hT d hi k
theorem Wq.aald16 {a c2 : Nat} {i : Int32} {q : Option Nat} (hT : Tw sh a 16) (hc : rt_ 16 0 = c2) (d : decode cx.2.1 pc = .ok (.aaload, 1)) (hi : inb i (sh.2.2 a) = true) (hq : R a i.toNatClampNeg = q) (k : (∀ b, q = some b → Tw sh b c2) → Wp l g cx Rm E (pc + 1) ls (va_rf q :: st) n z (sh, I, L, R)) : Wp l g cx Rm E pc ls (.int i :: .ref a :: st) n z (sh, I, L, R) := by
  subst hq
  exact Wp.aald16 (w := (sh, I, L, R)) hT hc d hi k
theorem Wq.aald17 {a c2 : Nat} {i : Int32} {q : Option Nat} (hT : Tw sh a 17) (hc : rt_ 17 0 = c2) (d : decode cx.2.1 pc = .ok (.aaload, 1)) (hi : inb i (sh.2.2 a) = true) (hq : R a i.toNatClampNeg = q) (k : (∀ b, q = some b → Tw sh b c2) → Wp l g cx Rm E (pc + 1) ls (va_rf q :: st) n z (sh, I, L, R)) : Wp l g cx Rm E pc ls (.int i :: .ref a :: st) n z (sh, I, L, R) := by
  subst hq
  exact Wp.aald17 (w := (sh, I, L, R)) hT hc d hi k
theorem Wq.aald18 {a c2 : Nat} {i : Int32} {q : Option Nat} (hT : Tw sh a 18) (hc : rt_ 18 0 = c2) (d : decode cx.2.1 pc = .ok (.aaload, 1)) (hi : inb i (sh.2.2 a) = true) (hq : R a i.toNatClampNeg = q) (k : (∀ b, q = some b → Tw sh b c2) → Wp l g cx Rm E (pc + 1) ls (va_rf q :: st) n z (sh, I, L, R)) : Wp l g cx Rm E pc ls (.int i :: .ref a :: st) n z (sh, I, L, R) := by
  subst hq
  exact Wp.aald18 (w := (sh, I, L, R)) hT hc d hi k
theorem Wq.alen12 {a : Nat} (hT : Tw sh a 12) (d : decode cx.2.1 pc = .ok (.arraylength, 1)) (k : Wp l g cx Rm E (pc + 1) ls (.int (nI (sh.2.2 a)) :: st) n z (sh, I, L, R)) : Wp l g cx Rm E pc ls (.ref a :: st) n z (sh, I, L, R) := Wp.alen12 (w := (sh, I, L, R)) hT d k
theorem Wq.alen13 {a : Nat} (hT : Ty sh a 13) (d : decode cx.2.1 pc = .ok (.arraylength, 1)) (k : Wp l g cx Rm E (pc + 1) ls (.int (nI (sh.2.2 a)) :: st) n z (sh, I, L, R)) : Wp l g cx Rm E pc ls (.ref a :: st) n z (sh, I, L, R) := Wp.alen13 (w := (sh, I, L, R)) hT d k
theorem Wq.alen14 {a : Nat} (hT : Tw sh a 14) (d : decode cx.2.1 pc = .ok (.arraylength, 1)) (k : Wp l g cx Rm E (pc + 1) ls (.int (nI (sh.2.2 a)) :: st) n z (sh, I, L, R)) : Wp l g cx Rm E pc ls (.ref a :: st) n z (sh, I, L, R) := Wp.alen14 (w := (sh, I, L, R)) hT d k
theorem Wq.alen15 {a : Nat} (hT : Tw sh a 15) (d : decode cx.2.1 pc = .ok (.arraylength, 1)) (k : Wp l g cx Rm E (pc + 1) ls (.int (nI (sh.2.2 a)) :: st) n z (sh, I, L, R)) : Wp l g cx Rm E pc ls (.ref a :: st) n z (sh, I, L, R) := Wp.alen15 (w := (sh, I, L, R)) hT d k
theorem Wq.alen16 {a : Nat} (hT : Tw sh a 16) (d : decode cx.2.1 pc = .ok (.arraylength, 1)) (k : Wp l g cx Rm E (pc + 1) ls (.int (nI (sh.2.2 a)) :: st) n z (sh, I, L, R)) : Wp l g cx Rm E pc ls (.ref a :: st) n z (sh, I, L, R) := Wp.alen16 (w := (sh, I, L, R)) hT d k
theorem Wq.alen17 {a : Nat} (hT : Tw sh a 17) (d : decode cx.2.1 pc = .ok (.arraylength, 1)) (k : Wp l g cx Rm E (pc + 1) ls (.int (nI (sh.2.2 a)) :: st) n z (sh, I, L, R)) : Wp l g cx Rm E pc ls (.ref a :: st) n z (sh, I, L, R) := Wp.alen17 (w := (sh, I, L, R)) hT d k
theorem Wq.alen18 {a : Nat} (hT : Tw sh a 18) (d : decode cx.2.1 pc = .ok (.arraylength, 1)) (k : Wp l g cx Rm E (pc + 1) ls (.int (nI (sh.2.2 a)) :: st) n z (sh, I, L, R)) : Wp l g cx Rm E pc ls (.ref a :: st) n z (sh, I, L, R) := Wp.alen18 (w := (sh, I, L, R)) hT d k
theorem Wq.iast {a : Nat} {i : Int32} {x : Int32} (hT : Tw sh a 13) (d : decode cx.2.1 pc = .ok (.iastore, 1)) (hi : inb i (sh.2.2 a) = true) (k : Wp l g cx Rm E (pc + 1) ls st n z (sh, up2 I a i.toNatClampNeg x, L, R)) : Wp l g cx Rm E pc ls (.int x :: .int i :: .ref a :: st) n z (sh, I, L, R) := Wp.iast (w := (sh, I, L, R)) hT d hi k
theorem Wq.bast {a : Nat} {i : Int32} {x : Int32} (hT : Tw sh a 12) (d : decode cx.2.1 pc = .ok (.bastore, 1)) (hi : inb i (sh.2.2 a) = true) (k : Wp l g cx Rm E (pc + 1) ls st n z (sh, up2 I a i.toNatClampNeg (vp_nar .byte x), L, R)) : Wp l g cx Rm E pc ls (.int x :: .int i :: .ref a :: st) n z (sh, I, L, R) := Wp.bast (w := (sh, I, L, R)) hT d hi k
theorem Wq.zast {a : Nat} {i : Int32} {x : Int32} (hT : Tw sh a 15) (d : decode cx.2.1 pc = .ok (.bastore, 1)) (hi : inb i (sh.2.2 a) = true) (k : Wp l g cx Rm E (pc + 1) ls st n z (sh, up2 I a i.toNatClampNeg (vp_nar .boolean x), L, R)) : Wp l g cx Rm E pc ls (.int x :: .int i :: .ref a :: st) n z (sh, I, L, R) := Wp.zast (w := (sh, I, L, R)) hT d hi k
theorem Wq.last {a : Nat} {i : Int32} {x : Int64} (hT : Tw sh a 14) (d : decode cx.2.1 pc = .ok (.lastore, 1)) (hi : inb i (sh.2.2 a) = true) (k : Wp l g cx Rm E (pc + 1) ls st n z (sh, I, up2 L a i.toNatClampNeg x, R)) : Wp l g cx Rm E pc ls (.long x :: .int i :: .ref a :: st) n z (sh, I, L, R) := Wp.last (w := (sh, I, L, R)) hT d hi k
theorem Wq.aast16 {a b : Nat} {i : Int32} (hT : Tw sh a 16) (hb : Tw sh b 2) (d : decode cx.2.1 pc = .ok (.aastore, 1)) (hi : inb i (sh.2.2 a) = true) (k : Wp l g cx Rm E (pc + 1) ls st n z (sh, I, L, up2 R a i.toNatClampNeg (some b))) : Wp l g cx Rm E pc ls (.ref b :: .int i :: .ref a :: st) n z (sh, I, L, R) := Wp.aast16 (w := (sh, I, L, R)) hT hb d hi k
theorem Wq.aast17 {a b : Nat} {i : Int32} (hT : Tw sh a 17) (hb : Tw sh b 6) (d : decode cx.2.1 pc = .ok (.aastore, 1)) (hi : inb i (sh.2.2 a) = true) (k : Wp l g cx Rm E (pc + 1) ls st n z (sh, I, L, up2 R a i.toNatClampNeg (some b))) : Wp l g cx Rm E pc ls (.ref b :: .int i :: .ref a :: st) n z (sh, I, L, R) := Wp.aast17 (w := (sh, I, L, R)) hT hb d hi k
theorem Wq.aast18 {a b : Nat} {i : Int32} (hT : Tw sh a 18) (hb : Tw sh b 8) (d : decode cx.2.1 pc = .ok (.aastore, 1)) (hi : inb i (sh.2.2 a) = true) (k : Wp l g cx Rm E (pc + 1) ls st n z (sh, I, L, up2 R a i.toNatClampNeg (some b))) : Wp l g cx Rm E pc ls (.ref b :: .int i :: .ref a :: st) n z (sh, I, L, R) := Wp.aast18 (w := (sh, I, L, R)) hT hb d hi k
theorem rf_ty {o : Option Nat} {c : Nat} (h : ∀ b, some (va_rf o) = some (Value.ref b) → Tw sh b c) : ∀ b, o = some b → Tw sh b c := fun b hb => h b (by rw [hb]; rfl)
theorem Wq.callS {cy : cx_T} {idx fr lo : Nat} {A rest st' : List Value} {v : Option Value} {w' : w_T} (hM : Sp l g cy fr lo 0 0 A (sh, I, L, R) v w') (K : LKS cx.1.cls idx cy A.length) (d : decode cx.2.1 pc = .ok (.invokestatic idx, 3)) (hs : A.reverse ++ rest = st) (hw : (rest.map fun v => v.category).sum ≤ 8) (h1 : fr + 1 ≤ Rm.frames) (h2 : 8 + (cy.2.2.1 + 11) + lo ≤ Rm.locals) (h3 : n ≤ Rm.cells) (h4 : z ≤ Rm.slots) (hs' : v.toList ++ rest = st') (k : (∀ b, v = some (.ref b) → Tw w'.1 b cy.2.2.2.2) → Wp l g cx Rm E (pc + 3) ls st' n z w') : Wp l g cx Rm E pc ls st n z (sh, I, L, R) := by
  subst hs'
  exact Wp.callS hM K d hs hw h1 h2 h3 h4 k
theorem Wq.callSN {cy : cx_T} {idx fr lo : Nat} {A rest st' : List Value} {v : Option Value} {w' : w_T} (hM : Sp l g cy fr lo 0 0 A (sh, I, L, R) v w') (K : LKSN cx.1.cls idx cy A.length) (d : decode cx.2.1 pc = .ok (.invokestatic idx, 3)) (hs : A.reverse ++ rest = st) (hw : (rest.map fun v => v.category).sum ≤ 8) (h1 : fr + 1 ≤ Rm.frames) (h2 : 8 + (cy.2.2.1 + 11) + lo ≤ Rm.locals) (h3 : n ≤ Rm.cells) (h4 : z ≤ Rm.slots) (hs' : v.toList ++ rest = st') (k : (∀ b, v = some (.ref b) → Tw w'.1 b cy.2.2.2.2) → Wp l g cx Rm E (pc + 3) ls st' n z w') : Wp l g cx Rm E pc ls st n z (sh, I, L, R) := by
  subst hs'
  exact Wp.callSN hM K d hs hw h1 h2 h3 h4 k
theorem Wq.callV {cy : cx_T} {idx fr lo a c : Nat} {A rest st' : List Value} {v : Option Value} {w' : w_T} (hM : Sp l g cy fr lo 0 0 (.ref a :: A) (sh, I, L, R) v w') (K : LKV cx.1.cls idx cy A.length c) (hT : Tw sh a c) (d : decode cx.2.1 pc = .ok (.invokevirtual idx, 3)) (hs : A.reverse ++ .ref a :: rest = st) (hw : (rest.map fun v => v.category).sum ≤ 8) (h1 : fr + 1 ≤ Rm.frames) (h2 : 8 + (cy.2.2.1 + 11) + lo ≤ Rm.locals) (h3 : n ≤ Rm.cells) (h4 : z ≤ Rm.slots) (hs' : v.toList ++ rest = st') (k : (∀ b, v = some (.ref b) → Tw w'.1 b cy.2.2.2.2) → Wp l g cx Rm E (pc + 3) ls st' n z w') : Wp l g cx Rm E pc ls st n z (sh, I, L, R) := by
  subst hs'
  exact Wp.callV hM K hT d hs hw h1 h2 h3 h4 k
theorem Wq.callVN {cy : cx_T} {idx fr lo a c : Nat} {A rest st' : List Value} {v : Option Value} {w' : w_T} (hM : Sp l g cy fr lo 0 0 (.ref a :: A) (sh, I, L, R) v w') (K : LKVN cx.1.cls idx cy A.length c) (hT : Tw sh a c) (d : decode cx.2.1 pc = .ok (.invokevirtual idx, 3)) (hs : A.reverse ++ .ref a :: rest = st) (hw : (rest.map fun v => v.category).sum ≤ 8) (h1 : fr + 1 ≤ Rm.frames) (h2 : 8 + (cy.2.2.1 + 11) + lo ≤ Rm.locals) (h3 : n ≤ Rm.cells) (h4 : z ≤ Rm.slots) (hs' : v.toList ++ rest = st') (k : (∀ b, v = some (.ref b) → Tw w'.1 b cy.2.2.2.2) → Wp l g cx Rm E (pc + 3) ls st' n z w') : Wp l g cx Rm E pc ls st n z (sh, I, L, R) := by
  subst hs'
  exact Wp.callVN hM K hT d hs hw h1 h2 h3 h4 k
theorem Wp.mmax {w : w_T} {idx : Nat} {x y : Int32} (h1 : Cond.methodLink cx.1.cls idx Lib.Math.max.name ∈ gt) (h2 : Cond.static Lib.Math.max.name ∈ gt) (h5 : Cond.initialized "java/lang/Math" ∈ gt) (h6 : Cond.code Lib.Math.max.name Lib.Math.max.code 2 (some .int) ∈ gt) (d : decode cx.2.1 pc = .ok (.invokestatic idx, 3)) (hw : (st.map fun v => v.category).sum ≤ 8) (hf : 1 ≤ Rm.frames) (hl : 23 ≤ Rm.locals) (hn : n ≤ Rm.cells) (hz : z ≤ Rm.slots) (k : Wp l g cx Rm E (pc + 3) ls (.int (imax x y) :: st) n z w) : Wp l g cx Rm E pc ls (.int y :: .int x :: st) n z w := by
  intro p e s m args below meth c0 H locs rl C hR hS hL
  have hts := C.2.2.2.2.2.1
  exact va_mmax C.1 C.2.1 (C.2.2.2.1.trans hL.1.symm) C.2.2.2.2.1 (hts _ h1) (hts _ h2) (hts _ h5) (hts _ h6) hf (by rw [cv_sum]; omega) hn hz d (k p e s m args below meth c0 H locs rl C hR hS hL)
theorem Wp.mmin {w : w_T} {idx : Nat} {x y : Int32} (h1 : Cond.methodLink cx.1.cls idx Lib.Math.min.name ∈ gt) (h2 : Cond.static Lib.Math.min.name ∈ gt) (h5 : Cond.initialized "java/lang/Math" ∈ gt) (h6 : Cond.code Lib.Math.min.name Lib.Math.min.code 2 (some .int) ∈ gt) (d : decode cx.2.1 pc = .ok (.invokestatic idx, 3)) (hw : (st.map fun v => v.category).sum ≤ 8) (hf : 1 ≤ Rm.frames) (hl : 23 ≤ Rm.locals) (hn : n ≤ Rm.cells) (hz : z ≤ Rm.slots) (k : Wp l g cx Rm E (pc + 3) ls (.int (imin x y) :: st) n z w) : Wp l g cx Rm E pc ls (.int y :: .int x :: st) n z w := by
  intro p e s m args below meth c0 H locs rl C hR hS hL
  have hts := C.2.2.2.2.2.1
  exact va_mmin C.1 C.2.1 (C.2.2.2.1.trans hL.1.symm) C.2.2.2.2.1 (hts _ h1) (hts _ h2) (hts _ h5) (hts _ h6) hf (by rw [cv_sum]; omega) hn hz d (k p e s m args below meth c0 H locs rl C hR hS hL)
theorem Wp.mmaxl {w : w_T} {idx : Nat} {x y : Int64} (h1 : Cond.methodLink cx.1.cls idx Lib.MathLoose.max_long.x ∈ gt) (h2 : Cond.static Lib.MathLoose.max_long.x ∈ gt) (h5 : Cond.initialized "java/lang/Math" ∈ gt) (h6 : Cond.code Lib.MathLoose.max_long.x Lib.MathLoose.max_long.code 4 (some .long) ∈ gt) (d : decode cx.2.1 pc = .ok (.invokestatic idx, 3)) (hw : (st.map fun v => v.category).sum ≤ 8) (hf : 1 ≤ Rm.frames) (hl : 23 ≤ Rm.locals) (hn : n ≤ Rm.cells) (hz : z ≤ Rm.slots) (k : Wp l g cx Rm E (pc + 3) ls (.long (lmax x y) :: st) n z w) : Wp l g cx Rm E pc ls (.long y :: .long x :: st) n z w := by
  intro p e s m args below meth c0 H locs rl C hR hS hL
  have hts := C.2.2.2.2.2.1
  exact va_mmax_long C.1 C.2.1 (C.2.2.2.1.trans hL.1.symm) C.2.2.2.2.1 (hts _ h1) (hts _ h2) (hts _ h5) (hts _ h6) hf (by rw [cv_sum]; omega) hn hz d (k p e s m args below meth c0 H locs rl C hR hS hL)
end HQ
