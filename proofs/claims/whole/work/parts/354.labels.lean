/-! parts by labels: the model's side -/
def sm (f : Nat → Nat) : Nat → Nat
  | 0 => 0
  | n + 1 => sm f n + f n
theorem sm_le {f g : Nat → Nat} : ∀ {n : Nat}, (∀ c, c < n → f c ≤ g c) → sm f n ≤ sm g n
  | 0, _ => Nat.le_refl _
  | n + 1, h => Nat.add_le_add (sm_le (fun c hc => h c (by omega))) (h n (by omega))
theorem sm_lt {f g : Nat → Nat} {i : Nat} : ∀ {n : Nat}, (∀ c, c < n → f c ≤ g c) → i < n → f i < g i → sm f n < sm g n
  | 0, _, h, _ => by omega
  | n + 1, h, hi, q => by
    show sm f n + f n < sm g n + g n
    by_cases e : i = n
    · subst e
      have := sm_le (n := i) (fun c hc => h c (by omega))
      omega
    · have := sm_lt (n := n) (fun c hc => h c (by omega)) (by omega) q
      have := h n (by omega)
      omega
def Kd (d : ld_T) (s : Nat → Bool) (q : Bool) (i : Nat) : Bool := decide (i < cs_ d) && (s i == q)
def Lb (d : ld_T) (J0 J : I_T) (f : Nat → Nat) : Prop := (∀ a, a ≠ 91 → J a = J0 a) ∧ ∀ c, c < cs_ d → J 91 c = nI (f c)
def GI (d : ld_T) (s : Nat → Bool) (f : Nat → Nat) : Prop := ∀ c, c < cs_ d → f c ≤ c ∧ Rch d (Kd d s (s c)) c (f c)
def PI (d : ld_T) (s : Nat → Bool) (f0 f : Nat → Nat) (more : Bool) (c r : Nat) : Prop := GI d s f ∧ (∀ i, i < cs_ d → f i ≤ f0 i) ∧ (more = false → (∀ i, i < cs_ d → f i = f0 i) ∧ ∀ i r' to, i < c ∨ (i = c ∧ r' < r) → i < cs_ d → r' < 4 → nx d i r' = some to → s to = s i → f i ≤ f to) ∧ (more = true → sm f (cs_ d) < sm f0 (cs_ d))
def SoilF (Z : Nat → Nat) (J : I_T) (L : L_T) (R : R_T) (d : ld_T) (s : Nat → Bool) : Prop := ∀ J' : I_T, (∀ a, a ≠ 91 → J' a = J a) → ∀ c, c < cs_ d → D_X11_isSoil Z J' L R 68 (nI c) = some (bI (s c))
theorem bI_eq {a b : Bool} : bI a = bI b ↔ a = b := by cases a <;> cases b <;> decide
theorem oI_neg {o : Option Nat} (h : ∀ j, o = some j → j < 2 ^ 31) : oI o = -1 ↔ o = none := by
  cases o with
  | none => exact ⟨fun _ => rfl, fun _ => rfl⟩
  | some j => exact ⟨fun q => (nI_neg1 (h j rfl) q).elim, fun q => by cases q⟩
theorem lab_in {Z : Nat → Nat} {J0 I : I_T} {L : L_T} {R : R_T} {d : ld_T} {s : Nat → Bool} (hd : VD d) (r45 : R 68 45 = some 91) (z91 : Z 91 = 64) (e25 : J0 68 25 = nI (lw d)) (e26 : J0 68 26 = nI (cs_ d)) (hs : SoilF Z J0 L R d s) {f0 : Nat → Nat} {c : Nat} (hc : c < cs_ d) : ∀ k r, r + k = 4 → ∀ more J f, Lb d J0 J f → PI d s f0 f more c r → ∃ more' J' f', itC (B_X11_findParts_43 Z I L R 68 (nI c)) (bI more, nI r, J) = some (.inl (bI more', nI (c + 1), J')) ∧ Lb d J0 J' f' ∧ PI d s f0 f' more' (c + 1) 0 := by
  have h64 := cs_le hd
  intro k
  induction k with
  | zero =>
    intro r hr more J f lb pi
    have : r = 4 := by omega
    subst this
    refine ⟨more, J, f, itC_inr ?_, lb, ⟨pi.1, pi.2.1, fun q => ⟨(pi.2.2.1 q).1, fun i r' to a b c' e g => (pi.2.2.1 q).2 i r' to (by omega) b c' e g⟩, pi.2.2.2⟩⟩
    unfold B_X11_findParts_43
    rw [if_neg (show ¬ nI 4 < 4 from Int32.lt_irrefl), nI_1]
  | succ k ih =>
    intro r hr more J f lb pi
    obtain ⟨g1, g2, g3, g4⟩ := pi
    have lt : nI r < 4 := (nI_ltI (b := 4) (by omega) (by omega)).mpr (by omega)
    have f25 : J 68 25 = nI (lw d) := by rw [lb.1 68 (by omega)]; exact e25
    have f26 : J 68 26 = nI (cs_ d) := by rw [lb.1 68 (by omega)]; exact e26
    have hn := next_ok (Z := Z) (L := L) (R := R) hd f25 f26 hc (show r ≤ 4 by omega)
    have ff : ∀ i, i < cs_ d → f i < 64 := fun i hi => by have := (g1 i hi).1; omega
    have skip : (∀ to, nx d c r = some to → s to = s c → f c ≤ f to) → B_X11_findParts_43 Z I L R 68 (nI c) (bI more, nI r, J) = some (.inl (bI more, nI (r + 1), J)) → ∃ more' J' f', itC (B_X11_findParts_43 Z I L R 68 (nI c)) (bI more, nI r, J) = some (.inl (bI more', nI (c + 1), J')) ∧ Lb d J0 J' f' ∧ PI d s f0 f' more' (c + 1) 0 := fun q e => by
      obtain ⟨m', J', f', a, b⟩ := ih (r + 1) (by omega) more J f lb ⟨g1, g2, fun z => ⟨(g3 z).1, fun i r' to a b c' e2 g => by
        by_cases w : i = c ∧ r' = r
        · obtain ⟨rfl, rfl⟩ := w
          exact q to e2 g
        · exact (g3 z).2 i r' to (by omega) b c' e2 g⟩, g4⟩
      exact ⟨m', J', f', (itC_inl e).trans a, b⟩
    cases e : nx d c r with
    | none =>
      rw [e] at hn
      refine skip (fun to u => by rw [e] at u; cases u) ?_
      unfold B_X11_findParts_43
      simp only [lt, if_true, hn, bs_]
      rw [if_pos (show oI none = -1 from rfl), nI_1]
    | some to =>
      have tl := nx_lt hd hc e
      rw [e] at hn
      have hn' : D_X11_next Z J L R 68 (nI c) (nI r) = some (nI to) := hn
      have s1 := hs J lb.1 to tl
      have s2 := hs J lb.1 c hc
      have n1 : ¬ nI to = -1 := nI_neg1 (by omega)
      have i1 : inb (nI to) (Z 91) = true := inb_nI (by omega) (by omega)
      have i2 : inb (nI c) (Z 91) = true := inb_nI (by omega) (by omega)
      have l1 := lb.2 to tl
      have l2 := lb.2 c hc
      by_cases q1 : s to = s c
      · by_cases q2 : f to < f c
        · have w : ∀ i, i < cs_ d → (fun i => if i = c then f to else f i) i ≤ f i := fun i hi => by
            show (if i = c then f to else f i) ≤ f i
            by_cases z : i = c
            · rw [if_pos z, z]
              omega
            · rw [if_neg z]
              omega
          have w2 : sm (fun i => if i = c then f to else f i) (cs_ d) < sm f (cs_ d) := sm_lt w hc (by
            show (if c = c then f to else f c) < f c
            rw [if_pos rfl]
            exact q2)
          obtain ⟨m', J', f', a, b⟩ := ih (r + 1) (by omega) true (up2 J 91 c (nI (f to))) (fun i => if i = c then f to else f i) ⟨fun a ha => by rw [up2_ne ha]; exact lb.1 a ha, fun i hi => by
              by_cases z : i = c
              · subst z
                rw [up2_s]
                show nI (f to) = nI (if i = i then f to else f i)
                rw [if_pos rfl]
              · rw [up2_j z]
                show _ = nI (if i = c then f to else f i)
                rw [if_neg z]
                exact lb.2 i hi⟩ ⟨fun i hi => by
              show (if i = c then f to else f i) ≤ i ∧ Rch d (Kd d s (s i)) i (if i = c then f to else f i)
              by_cases z : i = c
              · subst z
                rw [if_pos rfl]
                have ga := (g1 i hi).1
                have gb := (g1 to tl).2
                rw [q1] at gb
                refine ⟨by omega, Rch.trans (Rch.step (.refl hi ?_) ⟨r, by omega, e⟩ ?_) gb⟩
                · unfold Kd
                  simp [hi]
                · unfold Kd
                  simp [tl, q1]
              · rw [if_neg z]
                exact g1 i hi, fun i hi => Nat.le_trans (w i hi) (g2 i hi), (fun z => by cases z), fun _ => Nat.lt_of_lt_of_le w2 (sm_le g2)⟩
          refine ⟨m', J', f', (itC_inl ?_).trans a, b⟩
          unfold B_X11_findParts_43
          simp only [lt, if_true, hn', bs_, n1, if_false, s1, s2, q1, r45, i1, i2, cl_nI (show to < 2 ^ 31 by omega), cl_nI (show c < 2 ^ 31 by omega), l1, l2]
          rw [if_pos ((nI_ltI (by have := ff to tl; omega) (by have := ff c hc; omega)).mpr q2), nI_1]
          rfl
        · refine skip (fun to' u v => by rw [e] at u; cases u; omega) ?_
          unfold B_X11_findParts_43
          simp only [lt, if_true, hn', bs_, n1, if_false, s1, s2, q1, r45, i1, i2, cl_nI (show to < 2 ^ 31 by omega), cl_nI (show c < 2 ^ 31 by omega), l1, l2]
          rw [if_neg (fun z => q2 ((nI_ltI (by have := ff to tl; omega) (by have := ff c hc; omega)).mp z)), nI_1]
      · refine skip (fun to' u v => by rw [e] at u; cases u; exact (q1 v).elim) ?_
        unfold B_X11_findParts_43
        simp only [lt, if_true, hn', bs_, n1, if_false, s1, s2]
        rw [if_neg (fun z => q1 (bI_eq.mp z)), nI_1]
theorem lab_pass {Z : Nat → Nat} {J0 I : I_T} {L : L_T} {R : R_T} {d : ld_T} {s : Nat → Bool} (hd : VD d) (r45 : R 68 45 = some 91) (z91 : Z 91 = 64) (e25 : J0 68 25 = nI (lw d)) (e26 : J0 68 26 = nI (cs_ d)) (hs : SoilF Z J0 L R d s) {f0 : Nat → Nat} : ∀ k c, c + k = cs_ d → ∀ more J f, Lb d J0 J f → PI d s f0 f more c 0 → ∃ more' J' f', itC (B_X11_findParts_33 Z I L R 68) (bI more, nI c, J) = some (.inl (bI more', J')) ∧ Lb d J0 J' f' ∧ PI d s f0 f' more' (cs_ d) 0 := by
  have h64 := cs_le hd
  intro k
  induction k with
  | zero =>
    intro c hc more J f lb pi
    have : c = cs_ d := by omega
    subst this
    have f26 : J 68 26 = nI (cs_ d) := by rw [lb.1 68 (by omega)]; exact e26
    refine ⟨more, J, f, itC_inr ?_, lb, pi⟩
    unfold B_X11_findParts_33
    simp only [f26]
    exact if_neg Int32.lt_irrefl
  | succ k ih =>
    intro c hc more J f lb pi
    have f26 : J 68 26 = nI (cs_ d) := by rw [lb.1 68 (by omega)]; exact e26
    obtain ⟨m', J', f', a, b, p⟩ := lab_in (I := J) hd r45 z91 e25 e26 hs (f0 := f0) (c := c) (by omega) 4 0 (by omega) more J f lb pi
    obtain ⟨m2, J2, f2, a2, b2⟩ := ih (c + 1) (by omega) m' J' f' b p
    refine ⟨m2, J2, f2, (itC_inl ?_).trans a2, b2⟩
    unfold B_X11_findParts_33
    simp only [f26]
    rw [if_pos ((nI_ltI (by omega) (by omega)).mpr (by omega))]
    exact a
theorem lab_out {Z : Nat → Nat} {J0 I : I_T} {L : L_T} {R : R_T} {d : ld_T} {s : Nat → Bool} (hd : VD d) (r45 : R 68 45 = some 91) (z91 : Z 91 = 64) (e25 : J0 68 25 = nI (lw d)) (e26 : J0 68 26 = nI (cs_ d)) (hs : SoilF Z J0 L R d s) : ∀ N J f, sm f (cs_ d) < N → Lb d J0 J f → GI d s f → ∃ J' f', itC (B_X11_findParts_25 Z I L R 68) (1, J) = some J' ∧ Lb d J0 J' f' ∧ GI d s f' ∧ ∀ i r to, i < cs_ d → r < 4 → nx d i r = some to → s to = s i → f' i ≤ f' to := by
  intro N
  induction N with
  | zero => intro J f h; omega
  | succ N ih =>
    intro J f hN lb gi
    obtain ⟨m', J', f', a, b, p⟩ := lab_pass (I := J) hd r45 z91 e25 e26 hs (f0 := f) (cs_ d) 0 (by omega) false J f lb ⟨gi, fun i _ => Nat.le_refl _, fun _ => ⟨fun i _ => rfl, fun i r' to q => by omega⟩, fun z => by cases z⟩
    obtain ⟨p1, p2, p3, p4⟩ := p
    have st : B_X11_findParts_25 Z I L R 68 (1, J) = some (.inl (bI m', J')) := by
      unfold B_X11_findParts_25
      rw [if_neg (show ¬ (1 : Int32) = 0 by decide)]
      exact a
    cases m' with
    | false =>
      refine ⟨J', f', (itC_inl st).trans (itC_inr ?_), b, p1, fun i r to u v w x => ?_⟩
      · unfold B_X11_findParts_25
        rw [if_pos (show bI false = 0 from rfl)]
      · exact (p3 rfl).2 i r to (by omega) u v w x
    | true =>
      obtain ⟨J2, f2, a2, b2⟩ := ih J' f' (by have := p4 rfl; omega) b p1
      exact ⟨J2, f2, (itC_inl st).trans a2, b2⟩
theorem findParts_ok {Z : Nat → Nat} {J : I_T} {L : L_T} {R : R_T} {d : ld_T} {s : Nat → Bool} (hd : VD d) (r45 : R 68 45 = some 91) (z91 : Z 91 = 64) (e25 : J 68 25 = nI (lw d)) (e26 : J 68 26 = nI (cs_ d)) (hs : SoilF Z J L R d s) : ∃ J' lab, D_X11_findParts Z J L R 68 = some J' ∧ (∀ a, a ≠ 91 → J' a = J a) ∧ (∀ c, c < cs_ d → J' 91 c = nI (lab c) ∧ lab c ≤ c) ∧ ∀ q, LabS d (Kd d s q) lab := by
  have h64 := cs_le hd
  have init : ∀ k c, c + k = cs_ d → ∀ J1 : I_T, (∀ a, a ≠ 91 → J1 a = J a) → (∀ i, i < c → J1 91 i = nI i) → ∃ J' f', itC (B_X11_findParts_2 Z J L R 68) (nI c, J1) = some J' ∧ Lb d J J' f' ∧ GI d s f' ∧ ∀ i r to, i < cs_ d → r < 4 → nx d i r = some to → s to = s i → f' i ≤ f' to := by
    intro k
    induction k with
    | zero =>
      intro c hc J1 a b
      have : c = cs_ d := by omega
      subst this
      have f26 : J1 68 26 = nI (cs_ d) := by rw [a 68 (by omega)]; exact e26
      obtain ⟨J2, f2, a2, b2⟩ := lab_out (I := J1) hd r45 z91 e25 e26 hs (sm (fun i => i) (cs_ d) + 1) J1 (fun i => i) (by omega) ⟨a, b⟩ (fun i hi => ⟨Nat.le_refl _, .refl hi (by unfold Kd; simp [hi])⟩)
      refine ⟨J2, f2, itC_inr ?_, b2⟩
      unfold B_X11_findParts_2
      simp only [f26]
      rw [if_neg Int32.lt_irrefl, D_X11_findParts_25, a2]
      rfl
    | succ k ih =>
      intro c hc J1 a b
      have f26 : J1 68 26 = nI (cs_ d) := by rw [a 68 (by omega)]; exact e26
      obtain ⟨J2, f2, a2, b2⟩ := ih (c + 1) (by omega) (up2 J1 91 c (nI c)) (fun x hx => by rw [up2_ne hx]; exact a x hx) (fun i hi => by
        by_cases z : i = c
        · subst z
          exact up2_s _ _ _ _
        · rw [up2_j z]
          exact b i (by omega))
      refine ⟨J2, f2, (itC_inl ?_).trans a2, b2⟩
      unfold B_X11_findParts_2
      simp only [f26]
      rw [if_pos ((nI_ltI (by omega) (by omega)).mpr (by omega)), r45, bs_, if_pos (inb_nI (by omega) (by omega)), bs_, cl_nI (by omega), nI_1]
  obtain ⟨J', lab, a, b, g, cl⟩ := init (cs_ d) 0 (by omega) J (fun _ _ => rfl) (fun i hi => by omega)
  refine ⟨J', lab, a, b.1, fun c hc => ⟨b.2 c hc, (g c hc).1⟩, fun q c hc kc => ?_⟩
  have sc : s c = q := by
    unfold Kd at kc
    simp only [Bool.and_eq_true, decide_eq_true_eq, beq_iff_eq] at kc
    exact kc.2
  refine ⟨by rw [← sc]; exact (g c hc).2, fun j r => ?_⟩
  have key : lab c ≤ lab j := Rch.ind (C := fun j => lab c ≤ lab j) (fun _ _ => Nat.le_refl _) (fun j k h ih u v => by
    have e := h.ends hd
    have jl := e.2.2.1
    have sj := e.2.2.2
    unfold Kd at sj v
    simp only [Bool.and_eq_true, decide_eq_true_eq, beq_iff_eq] at sj v
    obtain ⟨r, hr, er⟩ := u
    exact Nat.le_trans ih (cl j r k jl hr er (by rw [v.2, sj.2]))) r
  have := (g j (r.ends hd).2.2.1).1
  omega
