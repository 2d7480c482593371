/-! what hangs together: the class's side -/
def Rn (d : ld_T) (P : Nat → Bool) (i : Nat) : Nat → Nat → Prop
  | 0, j => j = i ∧ i < cs_ d ∧ P i = true
  | n + 1, j => ∃ k, Rn d P i n k ∧ adj d k j ∧ P j = true
def Rch (d : ld_T) (P : Nat → Bool) (i j : Nat) : Prop := ∃ n, Rn d P i n j
theorem Rch.refl {d : ld_T} {P : Nat → Bool} {i : Nat} (h : i < cs_ d) (p : P i = true) : Rch d P i i := ⟨0, rfl, h, p⟩
theorem Rch.step {d : ld_T} {P : Nat → Bool} {i j k : Nat} (h : Rch d P i j) (a : adj d j k) (p : P k = true) : Rch d P i k := by
  obtain ⟨n, h⟩ := h
  exact ⟨n + 1, j, h, a, p⟩
theorem Rch.ind {d : ld_T} {P : Nat → Bool} {i : Nat} {C : Nat → Prop} (h0 : i < cs_ d → P i = true → C i) (hs : ∀ j k, Rch d P i j → C j → adj d j k → P k = true → C k) {j : Nat} (h : Rch d P i j) : C j := by
  obtain ⟨n, h⟩ := h
  induction n generalizing j with
  | zero =>
    obtain ⟨rfl, a, b⟩ := h
    exact h0 a b
  | succ n ih =>
    obtain ⟨k, a, b, c⟩ := h
    exact hs k j ⟨n, a⟩ (ih a) b c
theorem Rch.ends {d : ld_T} (hd : VD d) {P : Nat → Bool} {i j : Nat} (h : Rch d P i j) : i < cs_ d ∧ P i = true ∧ j < cs_ d ∧ P j = true :=
  Rch.ind (C := fun j => i < cs_ d ∧ P i = true ∧ j < cs_ d ∧ P j = true) (fun a b => ⟨a, b, a, b⟩) (fun _ _ _ ih a p => ⟨ih.1, ih.2.1, adj_lt hd ih.2.2.1 a, p⟩) h
theorem Rch.trans {d : ld_T} {P : Nat → Bool} {i j k : Nat} (h : Rch d P i j) (h2 : Rch d P j k) : Rch d P i k :=
  Rch.ind (C := fun k => Rch d P i k) (fun _ _ => h) (fun _ _ _ ih a p => ih.step a p) h2
theorem Rch.sym {d : ld_T} (hd : VD d) {P : Nat → Bool} {i j : Nat} (h : Rch d P i j) : Rch d P j i :=
  Rch.ind (C := fun j => Rch d P j i) (fun a b => .refl a b) (fun j k h ih a p => by
    have e := h.ends hd
    have l := adj_lt hd e.2.2.1 a
    exact (Rch.step (.refl l p) (adj_sym hd e.2.2.1 a) e.2.2.2).trans ih) h
theorem Rch.mono {d : ld_T} {P Q : Nat → Bool} (e : ∀ i, i < cs_ d → P i = true → Q i = true) (hd : VD d) {i j : Nat} (h : Rch d P i j) : Rch d Q i j :=
  Rch.ind (C := fun j => Rch d Q i j) (fun a b => .refl a (e _ a b)) (fun _ _ h ih a p => ih.step a (e _ (adj_lt hd (h.ends hd).2.2.1 a) p)) h
theorem ct_less {p q : Nat → Bool} {n i : Nat} (h : ∀ k, k < n → p k = true → q k = true) (hi : i < n) (a : p i = false) (b : q i = true) : fb_ct p n < fb_ct q n := by
  have h1 := fb_ct_upd p true hi
  have h2 : fb_ct (fun k => if k = i then true else p k) n ≤ fb_ct q n := fb_ct_sub (fun k hk e => by
    by_cases z : k = i
    · subst z
      exact b
    · exact h k hk (by simpa [z] using e))
  rw [a] at h1
  have h3 : fb_ct (fun k => if k = i then true else p k) n + 0 = fb_ct p n + 1 := h1
  omega
theorem tb_ne {x y : Int64} (h : ¬ x = y) : ∃ i, i < 64 ∧ tb x i ≠ tb y i := by
  apply Classical.byContradiction
  intro q
  exact h (tb_ext (fun i hi => Classical.byContradiction (fun z => q ⟨i, hi, z⟩)))
theorem part_ok {Z : Nat → Nat} {I : I_T} {L : L_T} {R : R_T} {a : Nat} {d : ld_T} (hd : VD d) (hl : CL I L a d) {x : Int64} (hx : inC d x) {m : Nat} (hm : m < cs_ d) (tm : tb x m = true) : ∃ y, D_X2_part Z I L R a (bit_ m) x = some y ∧ ∀ i, i < 64 → (tb y i = true ↔ Rch d (tb x) m i) := by
  have h64 := cs_le hd
  have key : ∀ n t, t + n = 64 → ∀ p, tb p m = true → (∀ i, i < 64 → tb p i = true → Rch d (tb x) m i) → t ≤ cnt p → ∃ y, itC (B_X2_part_8 Z I L R a x) (p, nI t) = some y ∧ ∀ i, i < 64 → (tb y i = true ↔ Rch d (tb x) m i) := by
    intro n
    induction n with
    | zero =>
      intro t ht p pm pr pc
      have t64 : t = 64 := by omega
      subst t64
      refine ⟨p, itC_inr ?_, fun i hi => ⟨pr i hi, fun _ => ?_⟩⟩
      · unfold B_X2_part_8
        exact if_neg (show ¬ nI 64 < 64 from Int32.lt_irrefl)
      · have : cnt p = 64 := Nat.le_antisymm (cnt_le p) pc
        exact fb_ct_all.mp this i hi
    | succ n ih =>
      intro t ht p pm pr pc
      have px : ∀ i, i < 64 → tb p i = true → i < cs_ d ∧ tb x i = true := fun i hi e => (pr i hi e).ends hd |>.2.2
      obtain ⟨y, hy, hb⟩ := beside_ok (Z := Z) (R := R) hd hl (x := p) (fun i hi ge => by
        cases e : tb p i with
        | false => rfl
        | true => exact absurd (px i hi e).1 (by omega))
      have lt : nI t < 64 := (nI_ltI (b := 64) (by omega) (by omega)).mpr (by omega)
      have wb : ∀ i, i < 64 → tb ((p ||| y) &&& x) i = true → Rch d (tb x) m i := fun i hi e => by
        rw [tb_and, tb_or, Bool.and_eq_true, Bool.or_eq_true] at e
        rcases e with ⟨e | e, e2⟩
        · exact pr i hi e
        · obtain ⟨il, c, ac, tc⟩ := (hb i hi).mp e
          have cl := adj_lt hd il ac
          exact (pr c (by omega) tc).step (adj_sym hd il ac) e2
      have pw : ∀ i, i < 64 → tb p i = true → tb ((p ||| y) &&& x) i = true := fun i hi e => by
        rw [tb_and, tb_or, e, (px i hi e).2]
        rfl
      by_cases q : (p ||| y) &&& x = p
      · refine ⟨p, itC_inr ?_, fun i hi => ⟨pr i hi, fun h => ?_⟩⟩
        · unfold B_X2_part_8
          simp only [lt, if_true, hy, bs_, q]
        · refine Rch.ind (C := fun i => tb p i = true) (fun _ _ => pm) (fun j k h ih2 u v => ?_) h
          have jl := (h.ends hd).2.2.1
          have kl := adj_lt hd jl u
          have ty : tb y k = true := (hb k (by omega)).mpr ⟨kl, j, adj_sym hd jl u, ih2⟩
          rw [← q, tb_and, tb_or, ty, v]
          simp
      · obtain ⟨i, hi, ne⟩ := tb_ne q
        have i1 : tb p i = false := by
          cases e : tb p i with
          | false => rfl
          | true => exact (ne (by rw [pw i hi e, e])).elim
        have i2 : tb ((p ||| y) &&& x) i = true := by
          cases e : tb ((p ||| y) &&& x) i with
          | true => rfl
          | false => exact (ne (by rw [e, i1])).elim
        have hc : cnt p < cnt ((p ||| y) &&& x) := ct_less pw hi i1 i2
        obtain ⟨z, hz, hs⟩ := ih (t + 1) (by omega) _ (pw m (by omega) pm) wb (by omega)
        refine ⟨z, (itC_inl ?_).trans hz, hs⟩
        unfold B_X2_part_8
        simp only [lt, if_true, hy, bs_, q, if_false, nI_1]
  have e : bit_ m &&& x = bit_ m := tb_ext (fun i hi => by
    rw [tb_and, tb_bit i hi]
    by_cases z : i = m
    · subst z
      simp [tm]
    · simp [z])
  obtain ⟨y, hy, hs⟩ := key 64 0 (by omega) (bit_ m) (by rw [tb_bit m (by omega)]; simp) (fun i hi e => by
    rw [tb_bit i hi] at e
    have : i = m := by simpa using e
    subst this
    exact .refl hm tm) (Nat.zero_le _)
  refine ⟨y, ?_, hs⟩
  rw [D_X2_part, e]
  exact hy
