/-! portage: the relaxing, told of numbers -/
def wS (s : Nat → Bool) (t : Nat) : Nat := if s t = true then 1001 else 1
def rxF (d : ld_T) (s : Nat → Bool) (c r : Nat) (f : Nat → Nat) : Bool := match nx d c r with | some t => decide (f c + wS s t < f t) | none => false
def rxV (d : ld_T) (s : Nat → Bool) (c r : Nat) (f : Nat → Nat) : Nat → Nat := match nx d c r with | some t => if f c + wS s t < f t then (fun i => if i = t then f c + wS s t else f i) else f | none => f
def rwV (d : ld_T) (s : Nat → Bool) (c : Nat) (f : Nat → Nat) : Nat → Nat → Nat
  | 0 => f
  | r + 1 => rxV d s c r (rwV d s c f r)
def rwF (d : ld_T) (s : Nat → Bool) (c : Nat) (f : Nat → Nat) : Nat → Bool
  | 0 => false
  | r + 1 => rwF d s c f r || rxF d s c r (rwV d s c f r)
def psV (d : ld_T) (s : Nat → Bool) (f : Nat → Nat) : Nat → Nat → Nat
  | 0 => f
  | c + 1 => rwV d s c (psV d s f c) 4
def psF (d : ld_T) (s : Nat → Bool) (f : Nat → Nat) : Nat → Bool
  | 0 => false
  | c + 1 => psF d s f c || rwF d s c (psV d s f c) 4
def itV (d : ld_T) (s : Nat → Bool) (f : Nat → Nat) : Nat → Nat → Nat
  | 0 => f
  | k + 1 => psV d s (itV d s f k) (cs_ d)
theorem wS_pos (s : Nat → Bool) (t : Nat) : 1 ≤ wS s t ∧ wS s t ≤ 1001 := by
  unfold wS
  split <;> omega
/-- what each step keeps: values fall; every one but the first stands on a neighbour's -/
def PG (d : ld_T) (s : Nat → Bool) (a : Nat) (f : Nat → Nat) : Prop := f a = 0 ∧ ∀ c, c < cs_ d → f c ≤ far_ ∧ (f c = far_ ∨ c = a ∨ ∃ o r, o < cs_ d ∧ r < 4 ∧ nx d o r = some c ∧ f o + wS s c ≤ f c)
theorem nx_ne {d : ld_T} (hd : VD d) {c r t : Nat} (hr : r < 4) (e : nx d c r = some t) : t ≠ c := by
  have w2 := hd.1
  have : r = 0 ∨ r = 1 ∨ r = 2 ∨ r = 3 := by omega
  rcases this with rfl | rfl | rfl | rfl
  · rw [nx0] at e
    split at e
    · cases e
    · have := Option.some.inj e
      omega
  · rw [nx1] at e
    split at e
    · cases e
    · have := Option.some.inj e
      omega
  · rw [nx2] at e
    split at e
    · have := Option.some.inj e
      omega
    · cases e
  · rw [nx3] at e
    split at e
    · cases e
    · have := Option.some.inj e
      rename_i h
      have : c ≠ 0 := fun z => h (by rw [z, Nat.zero_mod])
      omega
theorem rx_ok {d : ld_T} (hd : VD d) {s : Nat → Bool} {a c r : Nat} (hc : c < cs_ d) (hr : r < 4) {f : Nat → Nat} (g : PG d s a f) : PG d s a (rxV d s c r f) ∧ (∀ i, rxV d s c r f i ≤ f i) ∧ (rxF d s c r f = false → rxV d s c r f = f) ∧ (rxF d s c r f = true → ∃ i, i < cs_ d ∧ rxV d s c r f i < f i) ∧ rxV d s c r f c = f c ∧ ∀ t, nx d c r = some t → rxV d s c r f t ≤ f c + wS s t := by
  cases e : nx d c r with
  | none =>
    have v : rxV d s c r f = f := by unfold rxV; rw [e]
    have w : rxF d s c r f = false := by unfold rxF; rw [e]
    rw [v, w]
    refine ⟨g, fun _ => Nat.le_refl _, fun _ => rfl, fun z => ?_, rfl, fun t z => ?_⟩
    · cases z
    · cases z
  | some t =>
    have tl := nx_lt hd hc e
    have tn := nx_ne hd hr e
    have v : rxV d s c r f = (if f c + wS s t < f t then (fun i => if i = t then f c + wS s t else f i) else f) := by unfold rxV; rw [e]
    have w : rxF d s c r f = decide (f c + wS s t < f t) := by unfold rxF; rw [e]
    rw [v, w]
    by_cases q : f c + wS s t < f t
    · rw [if_pos q]
      obtain ⟨g0, g1⟩ := g
      have ta : t ≠ a := fun z => by rw [z, g0] at q; omega
      have le : ∀ i, (if i = t then f c + wS s t else f i) ≤ f i := fun i => by
        by_cases z : i = t
        · rw [if_pos z, z]
          omega
        · rw [if_neg z]
          exact Nat.le_refl _
      refine ⟨⟨by show (if a = t then _ else f a) = 0; rw [if_neg (fun z => ta z.symm)]; exact g0, fun x hx => ?_⟩, le, fun z => absurd q (of_decide_eq_false z), fun _ => ⟨t, tl, by show (if t = t then _ else _) < f t; rw [if_pos rfl]; exact q⟩, by show (if c = t then _ else f c) = f c; rw [if_neg (fun z => tn z.symm)], fun t' z => by
        have := Option.some.inj z
        subst this
        show (if t = t then _ else _) ≤ _
        rw [if_pos rfl]
        exact Nat.le_refl _⟩
      obtain ⟨x1, x2⟩ := g1 x hx
      show (if x = t then f c + wS s t else f x) ≤ far_ ∧ ((if x = t then f c + wS s t else f x) = far_ ∨ x = a ∨ ∃ o r, o < cs_ d ∧ r < 4 ∧ nx d o r = some x ∧ (if o = t then f c + wS s t else f o) + wS s x ≤ (if x = t then f c + wS s t else f x))
      by_cases z : x = t
      · subst z
        rw [if_pos rfl]
        exact ⟨by omega, Or.inr (Or.inr ⟨c, r, hc, hr, e, by rw [if_neg (fun z => tn z.symm)]; exact Nat.le_refl _⟩)⟩
      · rw [if_neg z]
        refine ⟨x1, ?_⟩
        rcases x2 with x2 | x2 | ⟨o, r', o1, o2, o3, o4⟩
        · exact Or.inl x2
        · exact Or.inr (Or.inl x2)
        · exact Or.inr (Or.inr ⟨o, r', o1, o2, o3, by have := le o; omega⟩)
    · rw [if_neg q]
      exact ⟨g, fun _ => Nat.le_refl _, fun _ => rfl, fun z => absurd (of_decide_eq_true z) q, rfl, fun t' z => by
        have := Option.some.inj z
        subst this
        omega⟩
theorem rw_ok {d : ld_T} (hd : VD d) {s : Nat → Bool} {a c : Nat} (hc : c < cs_ d) {f : Nat → Nat} (g : PG d s a f) : ∀ r, r ≤ 4 → PG d s a (rwV d s c f r) ∧ (∀ i, rwV d s c f r i ≤ f i) ∧ (rwF d s c f r = false → rwV d s c f r = f) ∧ (rwF d s c f r = true → ∃ i, i < cs_ d ∧ rwV d s c f r i < f i) ∧ rwV d s c f r c = f c ∧ ∀ r' t, r' < r → nx d c r' = some t → rwV d s c f r t ≤ f c + wS s t := by
  intro r
  induction r with
  | zero => exact fun _ => ⟨g, fun _ => Nat.le_refl _, fun _ => rfl, (fun z => by cases (show false = true from z)), rfl, fun r' t h => by omega⟩
  | succ r ih =>
    intro hr
    obtain ⟨a1, a2, a3, a4, a5, a6⟩ := ih (by omega)
    obtain ⟨b1, b2, b3, b4, b5, b6⟩ := rx_ok hd hc (show r < 4 by omega) a1
    have le : ∀ i, rwV d s c f (r + 1) i ≤ f i := fun i => Nat.le_trans (b2 i) (a2 i)
    refine ⟨b1, le, fun z => ?_, fun z => ?_, b5.trans a5, fun r' t hr' e => ?_⟩
    · have z' : (rwF d s c f r || rxF d s c r (rwV d s c f r)) = false := z
      rw [Bool.or_eq_false_iff] at z'
      show rxV d s c r (rwV d s c f r) = f
      rw [b3 z'.2, a3 z'.1]
    · have z' : (rwF d s c f r || rxF d s c r (rwV d s c f r)) = true := z
      rw [Bool.or_eq_true] at z'
      rcases z' with z' | z'
      · obtain ⟨i, i1, i2⟩ := a4 z'
        exact ⟨i, i1, by have := b2 i; show rxV d s c r (rwV d s c f r) i < f i; omega⟩
      · obtain ⟨i, i1, i2⟩ := b4 z'
        exact ⟨i, i1, by have := a2 i; show rxV d s c r (rwV d s c f r) i < f i; omega⟩
    · rcases Nat.lt_or_ge r' r with z | z
      · exact Nat.le_trans (b2 t) (a6 r' t z e)
      · have : r' = r := by omega
        subst this
        have := b6 t e
        rw [a5] at this
        exact this
theorem ps_ok {d : ld_T} (hd : VD d) {s : Nat → Bool} {a : Nat} {f : Nat → Nat} (g : PG d s a f) : ∀ c, c ≤ cs_ d → PG d s a (psV d s f c) ∧ (∀ i, psV d s f c i ≤ f i) ∧ (psF d s f c = false → psV d s f c = f) ∧ (psF d s f c = true → ∃ i, i < cs_ d ∧ psV d s f c i < f i) ∧ ∀ o r' t, o < c → r' < 4 → nx d o r' = some t → psV d s f c t ≤ f o + wS s t := by
  intro c
  induction c with
  | zero => exact fun _ => ⟨g, fun _ => Nat.le_refl _, fun _ => rfl, (fun z => by cases (show false = true from z)), fun o r' t h => by omega⟩
  | succ c ih =>
    intro hc
    obtain ⟨a1, a2, a3, a4, a6⟩ := ih (by omega)
    obtain ⟨b1, b2, b3, b4, b5, b6⟩ := rw_ok hd (show c < cs_ d by omega) a1 4 (by omega)
    refine ⟨b1, fun i => Nat.le_trans (b2 i) (a2 i), fun z => ?_, fun z => ?_, fun o r' t ho hr' e => ?_⟩
    · have z' : (psF d s f c || rwF d s c (psV d s f c) 4) = false := z
      rw [Bool.or_eq_false_iff] at z'
      show rwV d s c (psV d s f c) 4 = f
      rw [b3 z'.2, a3 z'.1]
    · have z' : (psF d s f c || rwF d s c (psV d s f c) 4) = true := z
      rw [Bool.or_eq_true] at z'
      rcases z' with z' | z'
      · obtain ⟨i, i1, i2⟩ := a4 z'
        exact ⟨i, i1, by have := b2 i; show rwV d s c (psV d s f c) 4 i < f i; omega⟩
      · obtain ⟨i, i1, i2⟩ := b4 z'
        exact ⟨i, i1, by have := a2 i; show rwV d s c (psV d s f c) 4 i < f i; omega⟩
    · rcases Nat.lt_or_ge o c with z | z
      · exact Nat.le_trans (b2 t) (a6 o r' t z hr' e)
      · have : o = c := by omega
        subst this
        have := b6 r' t hr' e
        have := a2 o
        show rwV d s o (psV d s f o) 4 t ≤ _
        omega
theorem it_ok {d : ld_T} (hd : VD d) {s : Nat → Bool} {a : Nat} {f : Nat → Nat} (g : PG d s a f) : ∀ k, PG d s a (itV d s f k)
  | 0 => g
  | k + 1 => (ps_ok hd (it_ok hd g k) (cs_ d) (Nat.le_refl _)).1
theorem it_le {d : ld_T} (hd : VD d) {s : Nat → Bool} {a : Nat} {f : Nat → Nat} (g : PG d s a f) (k i : Nat) : ∀ n, itV d s f (k + n) i ≤ itV d s f k i
  | 0 => Nat.le_refl _
  | n + 1 => Nat.le_trans ((ps_ok hd (it_ok hd g (k + n)) (cs_ d) (Nat.le_refl _)).2.1 i) (it_le hd g k i n)
/-- there is a first pass that changes nothing, the 64th at the latest -/
theorem conv_ {d : ld_T} (hd : VD d) {s : Nat → Bool} {a : Nat} (ha : a < cs_ d) {f : Nat → Nat} (g : PG d s a f) (f0 : ∀ c, c < cs_ d → c ≠ a → f c = far_) : ∃ N, N ≤ 63 ∧ psF d s (itV d s f N) (cs_ d) = false ∧ ∀ j, j < N → psF d s (itV d s f j) (cs_ d) = true := by
  have h64 := cs_le hd
  -- some pass changes nothing
  have ex : ∀ m k, sm (itV d s f k) (cs_ d) < m → (∀ j, j < k → psF d s (itV d s f j) (cs_ d) = true) → ∃ N, psF d s (itV d s f N) (cs_ d) = false ∧ ∀ j, j < N → psF d s (itV d s f j) (cs_ d) = true := by
    intro m
    induction m with
    | zero => intro k hk; omega
    | succ m ih =>
      intro k hk hj
      cases e : psF d s (itV d s f k) (cs_ d) with
      | false => exact ⟨k, e, hj⟩
      | true =>
        obtain ⟨p1, p2, p3, p4, p5⟩ := ps_ok hd (it_ok hd g k) (cs_ d) (Nat.le_refl _)
        obtain ⟨i, i1, i2⟩ := p4 e
        have lt : sm (itV d s f (k + 1)) (cs_ d) < sm (itV d s f k) (cs_ d) := sm_lt (fun c _ => p2 c) i1 i2
        exact ih (k + 1) (by omega) (fun j h => by
          rcases Nat.lt_or_ge j k with z | z
          · exact hj j z
          · rw [show j = k by omega]
            exact e)
  obtain ⟨N, hN, hj⟩ := ex (sm (itV d s f 0) (cs_ d) + 1) 0 (by omega) (fun j h => by omega)
  refine ⟨N, ?_, hN, hj⟩
  rcases Nat.lt_or_ge 63 N with big | small
  · exfalso
    have gN := it_ok hd g N
    obtain ⟨q1, q2, q3, q4, q5⟩ := ps_ok hd gN (cs_ d) (Nat.le_refl _)
    rw [q3 hN] at q5
    -- by how many are below, the k-th pass has it
    have key : ∀ k c, c < cs_ d → itV d s f N c < far_ → fb_ct (fun o => decide (itV d s f N o < itV d s f N c)) (cs_ d) ≤ k → k ≤ 63 → itV d s f k c ≤ itV d s f N c := by
      intro k
      induction k with
      | zero =>
        intro c hc fin rk _
        by_cases ca : c = a
        · subst ca
          have h0 : itV d s f 0 c = 0 := g.1
          omega
        · have z := fb_ct_zero.mp (show fb_ct (fun o => decide (itV d s f N o < itV d s f N c)) (cs_ d) = 0 by omega) a ha
          have z' := of_decide_eq_false z
          rw [gN.1] at z'
          obtain ⟨_, x2⟩ := gN.2 c hc
          rcases x2 with x2 | x2 | ⟨o, r, o1, o2, o3, o4⟩
          · omega
          · exact (ca x2).elim
          · have := (wS_pos s c).1
            omega
      | succ k ih =>
        intro c hc fin rk hk
        obtain ⟨_, x2⟩ := gN.2 c hc
        rcases x2 with x2 | x2 | ⟨o, r, o1, o2, o3, o4⟩
        · omega
        · subst x2
          rw [(it_ok hd g (k + 1)).1]
          exact Nat.zero_le _
        · have wp := wS_pos s c
          have lo : itV d s f N o < itV d s f N c := by omega
          have rl : fb_ct (fun i => decide (itV d s f N i < itV d s f N o)) (cs_ d) < fb_ct (fun i => decide (itV d s f N i < itV d s f N c)) (cs_ d) := ct_less (i := o) (fun i _ h => by
            have := of_decide_eq_true h
            exact decide_eq_true (by omega)) o1 (decide_eq_false (by omega)) (decide_eq_true lo)
          have b := ih o o1 (by omega) (by omega) (by omega)
          have st := (ps_ok hd (it_ok hd g k) (cs_ d) (Nat.le_refl _)).2.2.2.2 o r c o1 o2 o3
          show psV d s (itV d s f k) (cs_ d) c ≤ _
          omega
    have all : ∀ c, c < cs_ d → itV d s f 63 c ≤ itV d s f N c := fun c hc => by
      rcases Nat.lt_or_ge (itV d s f N c) far_ with z | z
      · have rl : fb_ct (fun o => decide (itV d s f N o < itV d s f N c)) (cs_ d) < fb_ct (fun _ => true) (cs_ d) := ct_less (i := c) (fun i _ _ => rfl) hc (decide_eq_false (by omega)) rfl
        have := fb_ct_le (fun _ => true) (cs_ d)
        exact key 63 c hc z (by omega) (by omega)
      · have := ((it_ok hd g 63).2 c hc).1
        omega
    obtain ⟨i, i1, i2⟩ := (ps_ok hd (it_ok hd g 63) (cs_ d) (Nat.le_refl _)).2.2.2.1 (hj 63 big)
    have e : itV d s f N i ≤ itV d s f 64 i := by
      have := it_le hd g 64 i (N - 64)
      rwa [show 64 + (N - 64) = N by omega] at this
    have := all i i1
    have e2 : psV d s (itV d s f 63) (cs_ d) i = itV d s f 64 i := rfl
    omega
  · exact small
