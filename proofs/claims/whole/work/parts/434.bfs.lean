/-! errands: the model's order of states -/
/-- the number of a state -/
def cod_ (c on r : Nat) : Nat := 1281 * c + 21 * on + r
theorem cod_c {c on r : Nat} (ho : on ≤ 60) (hr : r ≤ 20) : cod_ c on r / 1281 = c ∧ cod_ c on r / 21 % 61 = on ∧ cod_ c on r % 21 = r := by
  unfold cod_
  refine ⟨by omega, ?_, by omega⟩
  rw [show (1281 * c + 21 * on + r) / 21 = 61 * c + on by omega]
  omega
theorem cod_s (s : Nat) : cod_ (s / 1281) (s / 21 % 61) (s % 21) = s := by
  unfold cod_
  have : s / 1281 = s / 21 / 61 := by rw [Nat.div_div_eq_div_mul]
  omega
/-- the state behind a step -/
def msuc (d : ld_T) (lim s w : Nat) : Option Nat := match nx d (s / 1281) w with
  | none => none
  | some c => match stp d lim (laf d) c (s / 21 % 61) (s % 21) with
    | none => none
    | some (a, x) => some (cod_ c a x)
theorem msuc_some {d : ld_T} {lim s w s' : Nat} (h : msuc d lim s w = some s') : ∃ c a x, nx d (s / 1281) w = some c ∧ stp d lim (laf d) c (s / 21 % 61) (s % 21) = some (a, x) ∧ s' = cod_ c a x := by
  unfold msuc at h
  cases e : nx d (s / 1281) w with
  | none =>
    rw [e] at h
    cases h
  | some c =>
    rw [e] at h
    dsimp only at h
    cases e2 : stp d lim (laf d) c (s / 21 % 61) (s % 21) with
    | none =>
      rw [e2] at h
      cases h
    | some ax =>
      obtain ⟨a, x⟩ := ax
      rw [e2] at h
      exact ⟨c, a, x, rfl, e2, (Option.some.inj h).symm⟩
/-- the invariant of the order: k states behind, e in all, w ways of the next behind -/
def BFI (d : ld_T) (lim c0 k e w : Nat) (F O G : Nat → Nat) : Prop :=
  (e = fb_ct (fun s => decide (F s ≠ 1000000)) 81984) ∧ (∀ i, i < e → O i < 81984 ∧ F (O i) = G i ∧ G i ≤ i) ∧ (∀ s, s < 81984 → F s ≤ 1000000 ∧ (F s ≠ 1000000 → ∃ i, i < e ∧ O i = s)) ∧ (∀ i j, i ≤ j → j < e → G i ≤ G j) ∧ (k < e → ∀ i, i < e → G i ≤ G k + 1) ∧ (∀ i, i < e → Rg d lim (laf d) c0 (G i) (O i / 1281) (O i / 21 % 61) (O i % 21)) ∧ (∀ i w', (i < k ∧ w' < 5 ∨ i = k ∧ w' < w) → i < e → ∀ s', msuc d lim (O i) w' = some s' → F s' ≤ G i + 1) ∧ (0 < e ∧ O 0 = cod_ c0 0 0 ∧ G 0 = 0)
theorem BFI.e_le {d : ld_T} {lim c0 k e w : Nat} {F O G : Nat → Nat} (h : BFI d lim c0 k e w F O G) : e ≤ 81984 := by
  rw [h.1]
  exact fb_ct_le _ _
theorem fb_ct_lt {p : Nat → Bool} {j : Nat} : ∀ {n : Nat}, j < n → p j = false → fb_ct p n < n
  | 0, h, _ => by omega
  | n + 1, h, e => by
    show fb_ct p n + (if p n = true then 1 else 0) < n + 1
    by_cases z : j = n
    · subst z
      rw [e, if_neg (by decide)]
      have := fb_ct_le p j
      omega
    · have := fb_ct_lt (n := n) (j := j) (by omega) e
      split <;> omega
theorem fb_ct_set {p q : Nat → Bool} {j : Nat} (hp : p j = false) (hq : q j = true) (o : ∀ i, i ≠ j → q i = p i) : ∀ n, fb_ct q n = fb_ct p n + (if j < n then 1 else 0)
  | 0 => rfl
  | n + 1 => by
    show fb_ct q n + (if q n = true then 1 else 0) = fb_ct p n + (if p n = true then 1 else 0) + _
    rw [fb_ct_set hp hq o n]
    by_cases z : j = n
    · subst z
      rw [hp, hq, if_pos rfl, if_neg (show ¬ (false = true) by decide), if_neg (show ¬ j < j by omega), if_pos (show j < j + 1 by omega)]
    · rw [o n (fun u => z u.symm)]
      by_cases y : j < n
      · rw [if_pos y, if_pos (show j < n + 1 by omega)]
        omega
      · rw [if_neg y, if_neg (show ¬ j < n + 1 by omega)]
        omega
/-- the next way leads nowhere new -/
theorem BFI.old {d : ld_T} {lim c0 k e w : Nat} {F O G : Nat → Nat} (h : BFI d lim c0 k e w F O G) (hk : k < e) (hn : ∀ s', msuc d lim (O k) w = some s' → s' < 81984 ∧ F s' ≠ 1000000) : BFI d lim c0 k e (w + 1) F O G := by
  obtain ⟨h1, h2, h3, h4, h5, h6, h7, h8⟩ := h
  refine ⟨h1, h2, h3, h4, h5, h6, fun i w' q hi s' hs => ?_, h8⟩
  by_cases z : i = k ∧ w' = w
  · obtain ⟨rfl, rfl⟩ := z
    obtain ⟨a, b⟩ := hn s' hs
    obtain ⟨j, j1, rfl⟩ := (h3 s' a).2 b
    rw [(h2 j j1).2.1]
    exact h5 hk j j1
  · exact h7 i w' (by omega) hi s' hs
/-- it leads to a new state -/
theorem BFI.new {d : ld_T} {lim c0 k e w : Nat} {F O G : Nat → Nat} (h : BFI d lim c0 k e w F O G) (hk : k < e) (hw : w < 5) (l60 : lim ≤ 60) (l20 : laf d ≤ 20) (hd : VD d) (h0 : c0 < cs_ d) {s' : Nat} (hs : msuc d lim (O k) w = some s') (hn : F s' = 1000000) (hs' : s' < 81984) : e < 81984 ∧ BFI d lim c0 k (e + 1) (w + 1) (fun s => if s = s' then G k + 1 else F s) (fun i => if i = e then s' else O i) (fun i => if i = e then G k + 1 else G i) := by
  have el := h.e_le
  obtain ⟨h1, h2, h3, h4, h5, h6, h7, h8⟩ := h
  have lt : e < 81984 := by
    rw [h1]
    exact fb_ct_lt hs' (decide_eq_false (fun u => u hn))
  have gk := (h2 k hk).2.2
  have ne : ∀ i, i < e → O i ≠ s' := fun i hi u => by
    have := h2 i hi
    rw [u, hn] at this
    omega
  refine ⟨lt, ?_, fun i hi => ?_, fun s hs => ?_, fun i j hij hj => ?_, fun _ i hi => ?_, fun i hi => ?_, fun i w' q hi s'' hs'' => ?_, ?_⟩
  · rw [fb_ct_set (p := fun s => decide (F s ≠ 1000000)) (j := s') (decide_eq_false (fun u => u hn)) (decide_eq_true (by dsimp only; rw [if_pos rfl]; omega)) (fun i hi => decide_eq_decide.mpr (by dsimp only; rw [if_neg hi])), if_pos hs', ← h1]
  · dsimp only
    by_cases z : i = e
    · rw [if_pos z, if_pos rfl, if_pos z]
      exact ⟨hs', rfl, by omega⟩
    · have := h2 i (by omega)
      rw [if_neg z, if_neg z, if_neg (ne i (by omega))]
      exact this
  · dsimp only
    by_cases z : s = s'
    · rw [if_pos z]
      exact ⟨by omega, fun _ => ⟨e, by omega, by rw [if_pos rfl, z]⟩⟩
    · rw [if_neg z]
      refine ⟨(h3 s hs).1, fun u => ?_⟩
      obtain ⟨i, i1, i2⟩ := (h3 s hs).2 u
      exact ⟨i, by omega, by rw [if_neg (by omega)]; exact i2⟩
  · dsimp only
    by_cases z : j = e
    · rw [if_pos z]
      by_cases y : i = e
      · rw [if_pos y]
        exact Nat.le_refl _
      · rw [if_neg y]
        exact h5 hk i (by omega)
    · rw [if_neg z, if_neg (by omega)]
      exact h4 i j hij (by omega)
  · dsimp only
    rw [if_neg (show ¬ k = e by omega)]
    by_cases z : i = e
    · rw [if_pos z]
      exact Nat.le_refl _
    · rw [if_neg z]
      exact h5 hk i (by omega)
  · dsimp only
    by_cases z : i = e
    · rw [if_pos z, if_pos z]
      obtain ⟨c, a, x, q1, q2, rfl⟩ := msuc_some hs
      have rk := h6 k hk
      have ri := Rg_in hd h0 _ _ _ _ rk
      have le := stp_le q2 ri.2.1
      obtain ⟨m1, m2, m3⟩ := cod_c (c := c) (on := a) (r := x) (by omega) (by omega)
      rw [m1, m2, m3]
      exact ⟨_, _, _, w, rk, hw, q1, q2⟩
    · rw [if_neg z, if_neg z]
      exact h6 i (by omega)
  · dsimp only at hs'' ⊢
    have ie : i < e := by omega
    rw [if_neg (show ¬ i = e by omega)] at hs'' ⊢
    by_cases z : s'' = s'
    · rw [if_pos z]
      by_cases y : i = k ∧ w' = w
      · rw [y.1]
        exact Nat.le_refl _
      · have a := h7 i w' (by omega) ie s'' hs''
        rw [z, hn] at a
        have := (h2 i ie).2.2
        omega
    · rw [if_neg z]
      by_cases y : i = k ∧ w' = w
      · obtain ⟨rfl, rfl⟩ := y
        rw [hs] at hs''
        exact (z (Option.some.inj hs'').symm).elim
      · exact h7 i w' (by omega) ie s'' hs''
  · refine ⟨by omega, ?_, ?_⟩
    · dsimp only
      rw [if_neg (by omega)]
      exact h8.2.1
    · dsimp only
      rw [if_neg (by omega)]
      exact h8.2.2
theorem BFI.next {d : ld_T} {lim c0 k e : Nat} {F O G : Nat → Nat} (h : BFI d lim c0 k e 5 F O G) (hk : k < e) : BFI d lim c0 (k + 1) e 0 F O G := by
  obtain ⟨h1, h2, h3, h4, h5, h6, h7, h8⟩ := h
  refine ⟨h1, h2, h3, h4, fun q i hi => ?_, h6, fun i w' q hi s' hs => h7 i w' (by omega) hi s' hs, h8⟩
  have := h5 hk i hi
  have := h4 k (k + 1) (by omega) q
  omega
/-- the soonest of the states behind -/
def TI (k : Nat) (O G T : Nat → Nat) : Prop := ∀ c, c < 64 → (T c = 1000000 ∨ ∃ i, i < k ∧ O i / 1281 = c ∧ G i = T c) ∧ ∀ i, i < k → O i / 1281 = c → T c ≤ G i
theorem BFI.all {d : ld_T} {lim c0 e : Nat} {F O G : Nat → Nat} (h : BFI d lim c0 e e 0 F O G) (l60 : lim ≤ 60) (l20 : laf d ≤ 20) (hd : VD d) (h0 : c0 < cs_ d) : ∀ t c on r, Rg d lim (laf d) c0 t c on r → ∃ i, i < e ∧ O i = cod_ c on r ∧ G i ≤ t := by
  obtain ⟨h1, h2, h3, h4, h5, h6, h7, h8⟩ := h
  have h64 := cs_le hd
  intro t
  induction t with
  | zero =>
    rintro c on r ⟨rfl, rfl, rfl⟩
    exact ⟨0, h8.1, h8.2.1, by rw [h8.2.2]; exact Nat.le_refl _⟩
  | succ t ih =>
    intro c on r hr
    have rin := Rg_in hd h0 _ _ _ _ hr
    obtain ⟨c1, on1, r1, w, q1, q2, q3, q4⟩ := hr
    have ri := Rg_in hd h0 _ _ _ _ q1
    obtain ⟨i, i1, i2, i3⟩ := ih c1 on1 r1 q1
    obtain ⟨m1, m2, m3⟩ := cod_c (c := c1) (on := on1) (r := r1) (by omega) (by omega)
    have su : msuc d lim (O i) w = some (cod_ c on r) := by
      unfold msuc
      rw [i2, m1, m2, m3, q3]
      dsimp only
      rw [q4]
    have le := h7 i w (Or.inl ⟨i1, q2⟩) i1 _ su
    have gi := (h2 i i1).2.2
    have el : e ≤ 81984 := by
      rw [h1]
      exact fb_ct_le _ _
    have ml : cod_ c on r < 81984 := by
      unfold cod_
      omega
    obtain ⟨j, j1, j2⟩ := (h3 _ ml).2 (by omega)
    refine ⟨j, j1, j2, ?_⟩
    have := (h2 j j1).2.1
    rw [j2] at this
    omega
/-- what the model's rows tell in the end: the least minute that one can be in a cell, or none -/
theorem TI.fin {d : ld_T} {lim c0 e : Nat} {F O G T : Nat → Nat} (h : BFI d lim c0 e e 0 F O G) (ti : TI e O G T) (l60 : lim ≤ 60) (l20 : laf d ≤ 20) (hd : VD d) (h0 : c0 < cs_ d) {c : Nat} (hc : c < 64) : (T c = 1000000 ∧ ∀ t, ¬ Rt d lim c0 t c) ∨ (T c < 81984 ∧ Rt d lim c0 (T c) c ∧ ∀ t, Rt d lim c0 t c → T c ≤ t) := by
  have al := h.all l60 l20 hd h0
  have el := h.e_le
  obtain ⟨h1, h2, h3, h4, h5, h6, h7, h8⟩ := h
  obtain ⟨t1, t2⟩ := ti c hc
  have le : ∀ t, Rt d lim c0 t c → T c ≤ t ∧ T c < 81984 := fun t ⟨on, r, hr⟩ => by
    obtain ⟨i, i1, i2, i3⟩ := al t c on r hr
    have ri := Rg_in hd h0 _ _ _ _ hr
    obtain ⟨m1, m2, m3⟩ := cod_c (c := c) (on := on) (r := r) (by omega) (by omega)
    have := t2 i i1 (by rw [i2]; exact m1)
    have := (h2 i i1).2.2
    omega
  rcases t1 with u | ⟨i, i1, i2, i3⟩
  · refine Or.inl ⟨u, fun t ht => ?_⟩
    have := (le t ht).2
    omega
  · have r6 := h6 i i1
    rw [i2, i3] at r6
    exact Or.inr ⟨(le _ ⟨_, _, r6⟩).2, ⟨_, _, r6⟩, fun t ht => (le t ht).1⟩
