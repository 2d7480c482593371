/-! banks: the model's side -/
/-- reached within so many steps from a set -/
def Sn (d : ld_T) (W : Nat → Bool) : Nat → Nat → Prop
  | 0, c => c < cs_ d ∧ W c = true
  | t + 1, c => Sn d W t c ∨ (c < cs_ d ∧ ∃ o, adj d c o ∧ Sn d W t o)
def far_ : Nat := 1000000
def GB (d : ld_T) (W : Nat → Bool) (f : Nat → Nat) : Prop := ∀ c, c < cs_ d → (f c = far_ ∨ Sn d W (f c) c) ∧ f c ≤ far_ ∧ (W c = true → f c = 0)
def LbB (d : ld_T) (J0 J : I_T) (f : Nat → Nat) : Prop := (∀ a, a ≠ 90 → J a = J0 a) ∧ ∀ c, c < cs_ d → J 90 c = nI (f c)
def PB (d : ld_T) (W : Nat → Bool) (f0 f : Nat → Nat) (more : Bool) (c r : Nat) : Prop := GB d W f ∧ (∀ i, i < cs_ d → f i ≤ f0 i) ∧ (more = false → (∀ i, i < cs_ d → f i = f0 i) ∧ ∀ i r' to, i < c ∨ (i = c ∧ r' < r) → i < cs_ d → r' < 4 → nx d i r' = some to → f i ≤ f to + 1) ∧ (more = true → sm f (cs_ d) < sm f0 (cs_ d))
theorem bank_113 {Z : Nat → Nat} {J : I_T} {L : L_T} {R : R_T} {c r x y : Nat} (r44 : R 68 44 = some 90) (z90 : Z 90 = 64) (hc : c < 64) (hx : x ≤ far_) (hy : y ≤ far_ + 1) (e : J 90 c = nI x) (t : Int32) : D_X11_findBanks_113 Z J L R 68 (nI c) (nI r) (nI y) t = some (.inl (t, nI (r + 1), up2 J 90 c (nI (min x y)))) := by
  have hf : far_ = 1000000 := rfl
  have i1 : inb (nI c) (Z 90) = true := inb_nI (by omega) (by omega)
  rw [D_X11_findBanks_113, r44, bs_, if_pos i1, cl_nI (by omega), e, D_X11_lesser]
  by_cases q : x < y
  · rw [if_pos ((nI_ltI (by omega) (by omega)).mpr q), bs_, if_pos i1, bs_, nI_1, Nat.min_eq_left (by omega)]
  · rw [if_neg (fun z => q ((nI_ltI (by omega) (by omega)).mp z)), bs_, if_pos i1, bs_, nI_1, Nat.min_eq_right (by omega)]
theorem bank_91 {Z : Nat → Nat} {J : I_T} {L : L_T} {R : R_T} {c r x y : Nat} (r44 : R 68 44 = some 90) (z90 : Z 90 = 64) (hc : c < 64) (hx : x ≤ far_) (hy : y ≤ far_ + 1) (e : J 90 c = nI x) (more : Bool) : D_X11_findBanks_91 Z J L R 68 (bI more) (nI c) (nI r) (nI y) = some (.inl (bI (more || decide (y < x)), nI (r + 1), up2 J 90 c (nI (min x y)))) := by
  have hf : far_ = 1000000 := rfl
  have i1 : inb (nI c) (Z 90) = true := inb_nI (by omega) (by omega)
  rw [D_X11_findBanks_91]
  cases more with
  | false =>
    rw [if_pos (show bI false = 0 from rfl), r44, bs_, if_pos i1, cl_nI (by omega), e]
    by_cases q : y < x
    · rw [if_pos ((nI_ltI (by omega) (by omega)).mpr q), D_X11_findBanks_108, bank_113 r44 z90 hc hx hy e, decide_eq_true q]
      rfl
    · rw [if_neg (fun z => q ((nI_ltI (by omega) (by omega)).mp z)), bank_113 r44 z90 hc hx hy e, decide_eq_false q]
      rfl
  | true =>
    rw [if_neg (show ¬ bI true = 0 by decide), D_X11_findBanks_108, bank_113 r44 z90 hc hx hy e]
    rfl
theorem bank_in {Z : Nat → Nat} {J0 I : I_T} {L : L_T} {R : R_T} {d : ld_T} {W : Nat → Bool} (hd : VD d) (r44 : R 68 44 = some 90) (z90 : Z 90 = 64) (e25 : J0 68 25 = nI (lw d)) (e26 : J0 68 26 = nI (cs_ d)) {f0 : Nat → Nat} {c : Nat} (hc : c < cs_ d) : ∀ k r, r + k = 4 → ∀ more J f, LbB d J0 J f → PB d W f0 f more c r → ∃ more' J' f', itC (B_X11_findBanks_57 Z I L R 68 (nI c)) (bI more, nI r, J) = some (.inl (bI more', nI (c + 1), J')) ∧ LbB d J0 J' f' ∧ PB d W f0 f' more' (c + 1) 0 := by
  have h64 := cs_le hd
  have hf : far_ = 1000000 := rfl
  intro k
  induction k with
  | zero =>
    intro r hr more J f lb pi
    have : r = 4 := by omega
    subst this
    refine ⟨more, J, f, itC_inr ?_, lb, ⟨pi.1, pi.2.1, fun q => ⟨(pi.2.2.1 q).1, fun i r' to a b c' e => (pi.2.2.1 q).2 i r' to (by omega) b c' e⟩, pi.2.2.2⟩⟩
    unfold B_X11_findBanks_57
    rw [if_neg (show ¬ nI 4 < 4 from Int32.lt_irrefl), nI_1]
  | succ k ih =>
    intro r hr more J f lb pi
    obtain ⟨g1, g2, g3, g4⟩ := pi
    have lt : nI r < 4 := (nI_ltI (b := 4) (by omega) (by omega)).mpr (by omega)
    have f25 : J 68 25 = nI (lw d) := by rw [lb.1 68 (by omega)]; exact e25
    have f26 : J 68 26 = nI (cs_ d) := by rw [lb.1 68 (by omega)]; exact e26
    have hn := next_ok (Z := Z) (L := L) (R := R) hd f25 f26 hc (show r ≤ 4 by omega)
    have lc := lb.2 c hc
    have fc := (g1 c hc).2.1
    -- by is what the neighbour says
    have go : ∀ y, y ≤ far_ + 1 → (∀ to, nx d c r = some to → y = f to + 1) → (nx d c r = none → y = far_) → B_X11_findBanks_57 Z I L R 68 (nI c) (bI more, nI r, J) = D_X11_findBanks_91 Z J L R 68 (bI more) (nI c) (nI r) (nI y) → ∃ more' J' f', itC (B_X11_findBanks_57 Z I L R 68 (nI c)) (bI more, nI r, J) = some (.inl (bI more', nI (c + 1), J')) ∧ LbB d J0 J' f' ∧ PB d W f0 f' more' (c + 1) 0 := fun y hy h1 h2 e => by
      rw [bank_91 r44 z90 (by omega) fc hy lc more] at e
      by_cases q : y < f c
      · have w : ∀ i, i < cs_ d → (fun i => if i = c then y else f i) i ≤ f i := fun i hi => by
          show (if i = c then y else f i) ≤ f i
          by_cases z : i = c
          · rw [if_pos z, z]
            omega
          · rw [if_neg z]
            omega
        have w2 : sm (fun i => if i = c then y else f i) (cs_ d) < sm f (cs_ d) := sm_lt w hc (by
          show (if c = c then y else f c) < f c
          rw [if_pos rfl]
          exact q)
        rw [decide_eq_true q, Bool.or_true, Nat.min_eq_right (by omega)] at e
        obtain ⟨m', J', f', a, b⟩ := ih (r + 1) (by omega) true (up2 J 90 c (nI y)) (fun i => if i = c then y else f i) ⟨fun a ha => by rw [up2_ne ha]; exact lb.1 a ha, fun i hi => by
          by_cases z : i = c
          · subst z
            rw [up2_s]
            show nI y = nI (if i = i then y else f i)
            rw [if_pos rfl]
          · rw [up2_j z]
            show _ = nI (if i = c then y else f i)
            rw [if_neg z]
            exact lb.2 i hi⟩ ⟨fun i hi => by
          show ((if i = c then y else f i) = far_ ∨ Sn d W (if i = c then y else f i) i) ∧ (if i = c then y else f i) ≤ far_ ∧ (W i = true → (if i = c then y else f i) = 0)
          by_cases z : i = c
          · subst z
            rw [if_pos rfl]
            refine ⟨Or.inr ?_, by omega, fun u => by have := (g1 i hi).2.2 u; omega⟩
            cases en : nx d i r with
            | none => have := h2 en; omega
            | some to =>
              have e1 := h1 to en
              have tl := nx_lt hd hi en
              rcases (g1 to tl).1 with u | u
              · omega
              · rw [e1]
                exact Or.inr ⟨hi, to, ⟨r, by omega, en⟩, u⟩
          · rw [if_neg z]
            exact g1 i hi, fun i hi => Nat.le_trans (w i hi) (g2 i hi), (fun z => by cases z), fun _ => Nat.lt_of_lt_of_le w2 (sm_le g2)⟩
        exact ⟨m', J', f', (itC_inl e).trans a, b⟩
      · rw [decide_eq_false q, Bool.or_false, Nat.min_eq_left (by omega)] at e
        obtain ⟨m', J', f', a, b⟩ := ih (r + 1) (by omega) more (up2 J 90 c (nI (f c))) f ⟨fun a ha => by rw [up2_ne ha]; exact lb.1 a ha, fun i hi => by
          by_cases z : i = c
          · subst z
            rw [up2_s]
          · rw [up2_j z]
            exact lb.2 i hi⟩ ⟨g1, g2, fun z => ⟨(g3 z).1, fun i r' to a b c' e2 => by
          by_cases w : i = c ∧ r' = r
          · obtain ⟨rfl, rfl⟩ := w
            have := h1 to e2
            omega
          · exact (g3 z).2 i r' to (by omega) b c' e2⟩, g4⟩
        exact ⟨m', J', f', (itC_inl e).trans a, b⟩
    cases e : nx d c r with
    | none =>
      rw [e] at hn
      refine go far_ (by omega) (fun to u => by rw [e] at u; cases u) (fun _ => rfl) ?_
      unfold B_X11_findBanks_57
      simp only [lt, if_true, hn, bs_]
      rw [if_pos (show oI none = -1 from rfl)]
      rfl
    | some to =>
      have tl := nx_lt hd hc e
      rw [e] at hn
      have hn' : D_X11_next Z J L R 68 (nI c) (nI r) = some (nI to) := hn
      have n1 : ¬ nI to = -1 := nI_neg1 (by omega)
      have i1 : inb (nI to) (Z 90) = true := inb_nI (by omega) (by omega)
      have l1 := lb.2 to tl
      have ft := (g1 to tl).2.1
      refine go (f to + 1) (by omega) (fun to' u => by rw [e] at u; cases u; rfl) (fun u => by rw [e] at u; cases u) ?_
      unfold B_X11_findBanks_57
      simp only [lt, if_true, hn', bs_, n1, if_false, r44, i1, cl_nI (show to < 2 ^ 31 by omega), l1, nI_1]
theorem bank_pass {Z : Nat → Nat} {J0 I : I_T} {L : L_T} {R : R_T} {d : ld_T} {W : Nat → Bool} (hd : VD d) (r44 : R 68 44 = some 90) (z90 : Z 90 = 64) (e25 : J0 68 25 = nI (lw d)) (e26 : J0 68 26 = nI (cs_ d)) {f0 : Nat → Nat} : ∀ k c, c + k = cs_ d → ∀ more J f, LbB d J0 J f → PB d W f0 f more c 0 → ∃ more' J' f', itC (B_X11_findBanks_47 Z I L R 68) (bI more, nI c, J) = some (.inl (bI more', J')) ∧ LbB d J0 J' f' ∧ PB d W f0 f' more' (cs_ d) 0 := by
  have h64 := cs_le hd
  intro k
  induction k with
  | zero =>
    intro c hc more J f lb pi
    have : c = cs_ d := by omega
    subst this
    have f26 : J 68 26 = nI (cs_ d) := by rw [lb.1 68 (by omega)]; exact e26
    refine ⟨more, J, f, itC_inr ?_, lb, pi⟩
    unfold B_X11_findBanks_47
    simp only [f26]
    exact if_neg Int32.lt_irrefl
  | succ k ih =>
    intro c hc more J f lb pi
    have f26 : J 68 26 = nI (cs_ d) := by rw [lb.1 68 (by omega)]; exact e26
    obtain ⟨m', J', f', a, b, p⟩ := bank_in (I := J) (W := W) hd r44 z90 e25 e26 (f0 := f0) (c := c) (by omega) 4 0 (by omega) more J f lb pi
    obtain ⟨m2, J2, f2, a2, b2⟩ := ih (c + 1) (by omega) m' J' f' b p
    refine ⟨m2, J2, f2, (itC_inl ?_).trans a2, b2⟩
    unfold B_X11_findBanks_47
    simp only [f26]
    rw [if_pos ((nI_ltI (by omega) (by omega)).mpr (by omega))]
    exact a
theorem bank_out {Z : Nat → Nat} {J0 I : I_T} {L : L_T} {R : R_T} {d : ld_T} {W : Nat → Bool} (hd : VD d) (r44 : R 68 44 = some 90) (z90 : Z 90 = 64) (e25 : J0 68 25 = nI (lw d)) (e26 : J0 68 26 = nI (cs_ d)) : ∀ N J f, sm f (cs_ d) < N → LbB d J0 J f → GB d W f → ∃ J' f', itC (B_X11_findBanks_39 Z I L R 68) (1, J) = some J' ∧ LbB d J0 J' f' ∧ GB d W f' ∧ ∀ i r to, i < cs_ d → r < 4 → nx d i r = some to → f' i ≤ f' to + 1 := by
  intro N
  induction N with
  | zero => intro J f h; omega
  | succ N ih =>
    intro J f hN lb gi
    obtain ⟨m', J', f', a, b, p⟩ := bank_pass (I := J) (W := W) hd r44 z90 e25 e26 (f0 := f) (cs_ d) 0 (by omega) false J f lb ⟨gi, fun i _ => Nat.le_refl _, fun _ => ⟨fun i _ => rfl, fun i r' to q => by omega⟩, fun z => by cases z⟩
    obtain ⟨p1, p2, p3, p4⟩ := p
    have st : B_X11_findBanks_39 Z I L R 68 (1, J) = some (.inl (bI m', J')) := by
      unfold B_X11_findBanks_39
      rw [if_neg (show ¬ (1 : Int32) = 0 by decide)]
      exact a
    cases m' with
    | false =>
      refine ⟨J', f', (itC_inl st).trans (itC_inr ?_), b, p1, fun i r to u v w => ?_⟩
      · unfold B_X11_findBanks_39
        rw [if_pos (show bI false = 0 from rfl)]
      · exact (p3 rfl).2 i r to (by omega) u v w
    | true =>
      obtain ⟨J2, f2, a2, b2⟩ := ih J' f' (by have := p4 rfl; omega) b p1
      exact ⟨J2, f2, (itC_inl st).trans a2, b2⟩
