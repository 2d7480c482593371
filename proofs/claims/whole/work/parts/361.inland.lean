/-! inland -/
def FarR (d : ld_T) (f : Nat → Nat) (r : Int32) : Prop := (r = -1 ∧ ∀ c, c < cs_ d → f c = 0) ∨ ∃ m, m < cs_ d ∧ r = nI m ∧ 0 < f m ∧ (∀ c, c < cs_ d → f c ≤ f m) ∧ ∀ c, c < m → f c < f m
theorem far_one {d : ld_T} {f : Nat → Nat} {r r' : Int32} (h : FarR d f r) (h2 : FarR d f r') : r = r' := by
  rcases h with ⟨a, b⟩ | ⟨m, m1, m2, m3, m4, m5⟩ <;> rcases h2 with ⟨a', b'⟩ | ⟨n, n1, n2, n3, n4, n5⟩
  · rw [a, a']
  · have := b n n1
    omega
  · have := b' m m1
    omega
  · have e1 := m4 n n1
    have e2 := n4 m m1
    rcases Nat.lt_trichotomy m n with q | q | q
    · have := n5 m q
      omega
    · rw [m2, n2, q]
    · have := m5 n q
      omega
theorem farC_loop {Z : Nat → Nat} {I : I_T} {L : L_T} {R : R_T} {a : Nat} {d : ld_T} (hd : VD d) (hl : CL I L a d) {l : Nat} {f : Nat → Nat} (hf : ∀ c, c < cs_ d → f c ≤ 126 ∧ Sn d (Wt d l) (f c) c ∧ ∀ t, Sn d (Wt d l) t c → f c ≤ t) : ∀ k t x far, t + k = 64 → reS d l x t → t < cnt x → ((t = 0 ∧ far = -1) ∨ ∃ m, m < cs_ d ∧ far = nI m ∧ 0 < t ∧ f m = t ∧ ∀ c, c < m → f c ≠ t) → ∃ r, itC (B_X2_farthest_22 Z I L R a) (x, far, nI (t + 1)) = some r ∧ FarR d f r := by
  have h64 := cs_le hd
  intro k
  induction k with
  | zero =>
    intro t x far ht hx hn hfar
    have := cnt_le x
    omega
  | succ k ih =>
    intro t x far ht hx hn hfar
    obtain ⟨y, hy, hs⟩ := re_s (Z := Z) (R := R) hd hl hx
    have n64 : ¬ (64 : Int32) < nI (t + 1) := fun z => by have := (nI_ltI (a := 64) (by omega) (by omega)).mp z; omega
    have xf : ∀ c, c < cs_ d → (tb x c = true ↔ f c ≤ t) := fun c hc => by
      rw [hx c (by omega)]
      exact ⟨fun u => (hf c hc).2.2 t u, fun u => (hf c hc).2.1.le u⟩
    by_cases q : x = L a 10
    · refine ⟨far, itC_inr ?_, ?_⟩
      · unfold B_X2_farthest_22
        rw [if_neg n64, if_pos q]
      · have all : ∀ c, c < cs_ d → f c ≤ t := fun c hc => (xf c hc).mp (by
          rw [q, hl.2.2.2.1 c (by omega)]
          simpa using hc)
        rcases hfar with ⟨u, v⟩ | ⟨m, m1, m2, m3, m4, m5⟩
        · exact Or.inl ⟨v, fun c hc => by have := all c hc; omega⟩
        · exact Or.inr ⟨m, m1, m2, by omega, fun c hc => by rw [m4]; exact all c hc, fun c hc => by
            have := all c (by omega)
            have := m5 c hc
            omega⟩
    · obtain ⟨i, hi, ni⟩ := tb_ne q
      have il : i < cs_ d ∧ tb x i = false := by
        rw [hl.2.2.2.1 i hi] at ni
        cases e : tb x i with
        | true =>
          have := ((hx i hi).mp e).lt
          rw [e, decide_eq_true (show i < lw d * lh d from this)] at ni
          exact (ni rfl).elim
        | false =>
          rw [e] at ni
          exact ⟨by
            rcases Nat.lt_or_ge i (cs_ d) with z | z
            · exact z
            · rw [decide_eq_false (show ¬ i < lw d * lh d from by show ¬ i < cs_ d; omega)] at ni
              exact (ni rfl).elim, rfl⟩
      have ne : ¬ x ||| y = x := fun z => by
        rw [z] at hs
        have := Sn.still hd (t := t) (W := Wt d l) (fun j sj => by
          have jl := sj.lt
          exact (hx j (by omega)).mp ((hs j (by omega)).mpr sj)) 126 i ((hf i il.1).2.1.le (by have := (hf i il.1).1; omega))
        rw [(hx i hi).mpr this] at il
        cases il.2
      obtain ⟨j, hj, nj⟩ := tb_ne ne
      have j1 : tb x j = false := by
        cases e : tb x j with
        | false => rfl
        | true => exact (nj (by rw [tb_or, e]; rfl)).elim
      have j2 : tb (x ||| y) j = true := by
        cases e : tb (x ||| y) j with
        | true => rfl
        | false => exact (nj (by rw [e, j1])).elim
      have cn : cnt x < cnt (x ||| y) := ct_less (fun j hj e => by rw [tb_or, e]; rfl) hj j1 j2
      have cz : ∀ c, c < 64 → (tb (y &&& (x ^^^ (-1))) c = true ↔ c < cs_ d ∧ f c = t + 1) := fun c hc => by
        rw [tb_and, tb_not _ hc, Bool.and_eq_true, Bool.not_eq_true']
        constructor
        · rintro ⟨u, v⟩
          have s1 := (hs c hc).mp (by rw [tb_or, u, Bool.or_true])
          have cl := s1.lt
          have le := (hf c cl).2.2 _ s1
          have : ¬ f c ≤ t := fun z => by rw [(xf c cl).mpr z] at v; cases v
          exact ⟨cl, by omega⟩
        · rintro ⟨u, v⟩
          have xc : tb x c = false := by
            cases e : tb x c with
            | false => rfl
            | true => have := (xf c u).mp e; omega
          have s1 := (hs c hc).mpr (by rw [← v]; exact (hf c u).2.1)
          rw [tb_or, xc, Bool.false_or] at s1
          exact ⟨s1, xc⟩
      have nz : ¬ y &&& (x ^^^ (-1)) = 0 := fun z => by
        have : tb (y &&& (x ^^^ (-1))) j = true := by
          rw [tb_or, j1, Bool.false_or] at j2
          rw [tb_and, tb_not _ hj, j1, j2]
          rfl
        rw [z, tb_0] at this
        cases this
      obtain ⟨m, lm⟩ := low_ex nz
      have mm := (cz m lm.1).mp lm.2.1
      have orx : x ||| (y &&& (x ^^^ (-1))) = x ||| y := tb_ext (fun c hc => by
        rw [tb_or, tb_or, tb_and, tb_not _ hc]
        cases tb x c <;> cases tb y c <;> rfl)
      obtain ⟨r, A, B⟩ := ih (t + 1) (x ||| y) (nI m) (by omega) hs (by omega) (Or.inr ⟨m, mm.1, rfl, by omega, mm.2, fun c hc z => by
        have := lm.2.2 c hc
        rw [(cz c (by have := lm.1; omega)).mpr ⟨by omega, z⟩] at this
        cases this⟩)
      refine ⟨r, (itC_inl ?_).trans A, B⟩
      unfold B_X2_farthest_22
      rw [if_neg n64, if_neg q, hy, bs_, lowest_ok lm, bs_, orx, nI_1]
