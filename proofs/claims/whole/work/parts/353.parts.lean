/-! how many parts, and the largest: the class's side -/
/-- each cell of a set has the least cell of its part -/
def LabS (d : ld_T) (p : Nat → Bool) (lab : Nat → Nat) : Prop := ∀ c, c < cs_ d → p c = true → Rch d p c (lab c) ∧ ∀ j, Rch d p c j → lab c ≤ j
def subC (d : ld_T) (p : Nat → Bool) : Prop := ∀ i, p i = true → i < cs_ d
theorem lab_eq {d : ld_T} (hd : VD d) {p : Nat → Bool} {lab : Nat → Nat} (h : LabS d p lab) {i j : Nat} (r : Rch d p i j) : lab i = lab j := by
  obtain ⟨a, b, c, e⟩ := r.ends hd
  exact Nat.le_antisymm ((h i a b).2 _ (r.trans (h j c e).1)) ((h j c e).2 _ ((r.sym hd).trans (h i a b).1))
theorem lab_idem {d : ld_T} (hd : VD d) {p : Nat → Bool} {lab : Nat → Nat} (h : LabS d p lab) {i : Nat} (hi : i < cs_ d) (pi : p i = true) : lab (lab i) = lab i := (lab_eq hd h (h i hi pi).1).symm
def lead (p : Nat → Bool) (lab : Nat → Nat) (c : Nat) : Bool := p c && decide (lab c = c)
theorem peel {Z : Nat → Nat} {I : I_T} {L : L_T} {R : R_T} {a : Nat} {d : ld_T} (hd : VD d) (hl : CL I L a d) {p : Nat → Bool} (hp : subC d p) {lab : Nat → Nat} (h : LabS d p lab) {x : Int64} {b : Nat} (hx : isS x (fun i => p i && decide (b ≤ lab i))) (x0 : ¬ x = 0) : ∃ m y, b ≤ m ∧ m < cs_ d ∧ lead p lab m = true ∧ (∀ c, b ≤ c → c < m → lead p lab c = false) ∧ D_X2_part Z I L R a (x &&& (-x)) x = some y ∧ isS y (fun i => p i && decide (lab i = m)) ∧ isS (x &&& (y ^^^ (-1))) (fun i => p i && decide (m + 1 ≤ lab i)) := by
  have h64 := cs_le hd
  replace hx : ∀ i, i < 64 → tb x i = (p i && decide (b ≤ lab i)) := hx
  obtain ⟨m, lm⟩ := low_ex x0
  have xm := lm.2.1
  rw [hx m lm.1] at xm
  simp only [Bool.and_eq_true, decide_eq_true_eq] at xm
  obtain ⟨pm, bm⟩ := xm
  have mc := hp m pm
  have inx : ∀ i, i < 64 → p i = true → b ≤ lab i → tb x i = true := fun i hi u v => by rw [hx i hi, u]; simpa using v
  have lmm : lab m = m := by
    have r := (h m mc pm).1
    have e := r.ends hd
    have le : lab m ≤ m := (h m mc pm).2 m (.refl mc pm)
    rcases Nat.lt_or_ge (lab m) m with q | q
    · have := lm.2.2 (lab m) q
      rw [inx (lab m) (by omega) e.2.2.2 (by rw [lab_idem hd h mc pm]; exact bm)] at this
      cases this
    · omega
  have nolead : ∀ c, b ≤ c → c < m → lead p lab c = false := fun c u v => by
    cases e : lead p lab c with
    | false => rfl
    | true =>
      unfold lead at e
      simp only [Bool.and_eq_true, decide_eq_true_eq] at e
      have := lm.2.2 c v
      rw [inx c (by have := lm.1; omega) e.1 (by omega)] at this
      cases this
  have inC1 : inC d x := fun i hi ge => by
    rw [hx i hi]
    cases e : p i with
    | false => rfl
    | true => exact absurd (hp i e) (by omega)
  obtain ⟨y, hy, hs⟩ := part_ok (Z := Z) (R := R) hd hl inC1 mc lm.2.1
  have ys : ∀ i, i < 64 → tb y i = (p i && decide (lab i = m)) := fun i hi => by
    show tb y i = (p i && decide (lab i = m))
    apply bt_eq
    rw [hs i hi]
    simp only [Bool.and_eq_true, decide_eq_true_eq]
    constructor
    · intro r
      have r2 : Rch d p m i := Rch.mono (fun j hj e => by
        rw [hx j (by omega)] at e
        simp only [Bool.and_eq_true] at e
        exact e.1) hd r
      exact ⟨(r2.ends hd).2.2.2, by rw [← lab_eq hd h r2, lmm]⟩
    · rintro ⟨u, v⟩
      have r2 : Rch d p m i := by
        have := (h i (hp i u) u).1
        rw [v] at this
        exact this.sym hd
      refine Rch.ind (C := fun j => Rch d (tb x) m j) (fun e _ => .refl e lm.2.1) (fun j k r ih e f => ih.step e ?_) r2
      have r3 := r.step e f
      have kl := (r3.ends hd).2.2.1
      exact inx k (by omega) f (by rw [← lab_eq hd h r3, lmm]; omega)
  refine ⟨m, y, by omega, mc, ?_, nolead, by rw [low_and lm]; exact hy, ys, fun i hi => ?_⟩
  · unfold lead
    rw [pm, lmm]
    simp
  · show tb (x &&& (y ^^^ (-1))) i = (p i && decide (m + 1 ≤ lab i))
    rw [tb_and, tb_not _ hi, hx i hi, ys i hi]
    cases e : p i with
    | false => rfl
    | true =>
      apply bt_eq
      simp only [Bool.true_and, Bool.and_eq_true, decide_eq_true_eq, Bool.not_eq_true', decide_eq_false_iff_not]
      constructor
      · rintro ⟨u, v⟩
        rcases Nat.lt_or_ge (lab i) m with q | q
        · have ie := (h i (hp i e) e).1.ends hd
          have := nolead (lab i) u q
          unfold lead at this
          rw [ie.2.2.2, lab_idem hd h (hp i e) e] at this
          simp at this
        · omega
      · intro u
        exact ⟨by omega, by omega⟩
theorem ct_gap {q : Nat → Bool} {b : Nat} : ∀ {m : Nat}, b ≤ m → (∀ c, b ≤ c → c < m → q c = false) → fb_ct q m = fb_ct q b
  | 0, h, _ => by rw [Nat.le_zero.mp h]
  | m + 1, h, k => by
    rcases Nat.lt_or_ge b (m + 1) with z | z
    · rw [fb_ct_succ, k m (by omega) (by omega), ct_gap (m := m) (by omega) (fun c u v => k c u (by omega))]
      rfl
    · rw [show m + 1 = b by omega]
theorem rest0 {d : ld_T} (hd : VD d) {p : Nat → Bool} (hp : subC d p) {lab : Nat → Nat} {x : Int64} {b : Nat} (hx : isS x (fun i => p i && decide (b ≤ lab i))) (x0 : x = 0) : ∀ c, b ≤ c → lead p lab c = false := fun c u => by
  cases e : lead p lab c with
  | false => rfl
  | true =>
    unfold lead at e
    simp only [Bool.and_eq_true, decide_eq_true_eq] at e
    have h64 := cs_le hd
    have := hp c e.1
    have t : tb x c = (p c && decide (b ≤ lab c)) := hx c (by omega)
    rw [x0, tb_0, e.1] at t
    simp at t
    omega
theorem parts_ok {Z : Nat → Nat} {I : I_T} {L : L_T} {R : R_T} {a : Nat} {d : ld_T} (hd : VD d) (hl : CL I L a d) {p : Nat → Bool} (hp : subC d p) {lab : Nat → Nat} (h : LabS d p lab) {x : Int64} (hx : isS x p) : D_X2_parts Z I L R a x = some (nI (fb_ct (lead p lab) 64)) := by
  have h64 := cs_le hd
  have key : ∀ n t, t + n = 64 → ∀ b x, t ≤ b → b ≤ 64 → isS x (fun i => p i && decide (b ≤ lab i)) → itC (B_X2_parts_8 Z I L R a) (x, nI (fb_ct (lead p lab) b), nI t) = some (nI (fb_ct (lead p lab) 64)) := by
    intro n
    induction n with
    | zero =>
      intro t ht b x tb' b64 hx
      have : t = 64 := by omega
      subst this
      have : b = 64 := by omega
      subst this
      refine itC_inr ?_
      unfold B_X2_parts_8
      exact if_neg (show ¬ nI 64 < 64 from Int32.lt_irrefl)
    | succ n ih =>
      intro t ht b x tb' b64 hx
      have lt : nI t < 64 := (nI_ltI (b := 64) (by omega) (by omega)).mpr (by omega)
      by_cases x0 : x = 0
      · refine itC_inr ?_
        unfold B_X2_parts_8
        simp only [lt, if_true, x0]
        rw [ct_gap b64 (fun c u _ => rest0 hd hp hx x0 c u)]
      · obtain ⟨m, y, bm, mc, ml, no, hy, ys, zs⟩ := peel (Z := Z) (R := R) hd hl hp h hx x0
        refine (itC_inl ?_).trans (ih (t + 1) (by omega) (m + 1) _ (by omega) (by omega) zs)
        unfold B_X2_parts_8
        simp only [lt, if_true, x0, if_false, hy, bs_, nI_1]
        rw [fb_ct_succ, ml, ct_gap bm no]
        rfl
  have := key 64 0 (by omega) 0 x (by omega) (by omega) (fun i hi => by rw [hx i hi]; simp)
  exact this
/-- the greatest of the first n -/
def mxs (f : Nat → Nat) : Nat → Nat
  | 0 => 0
  | n + 1 => max (mxs f n) (f n)
theorem mxs_gap {f : Nat → Nat} {b : Nat} : ∀ {m : Nat}, b ≤ m → (∀ c, b ≤ c → c < m → f c = 0) → mxs f m = mxs f b
  | 0, h, _ => by rw [Nat.le_zero.mp h]
  | m + 1, h, k => by
    rcases Nat.lt_or_ge b (m + 1) with z | z
    · show max (mxs f m) (f m) = _
      rw [k m (by omega) (by omega), mxs_gap (m := m) (by omega) (fun c u v => k c u (by omega)), Nat.max_zero]
    · rw [show m + 1 = b by omega]
theorem imax_nI {a b : Nat} (ha : a < 2 ^ 31) (hb : b < 2 ^ 31) : imax (nI a) (nI b) = nI (max a b) := by
  unfold imax
  by_cases h : a < b
  · rw [if_pos ((nI_ltI ha hb).mpr h), Nat.max_eq_right (by omega)]
  · rw [if_neg (fun z => h ((nI_ltI ha hb).mp z)), Nat.max_eq_left (by omega)]
def lsz (p : Nat → Bool) (lab : Nat → Nat) (c : Nat) : Nat := fb_ct (fun o => p o && decide (lab o = c)) 64
theorem lsz_le (p : Nat → Bool) (lab : Nat → Nat) (c : Nat) : lsz p lab c ≤ 64 := fb_ct_le _ 64
theorem mxs_le {f : Nat → Nat} {k : Nat} (h : ∀ c, f c ≤ k) : ∀ n, mxs f n ≤ k
  | 0 => Nat.zero_le _
  | n + 1 => Nat.max_le.mpr ⟨mxs_le h n, h n⟩
theorem lsz_no {d : ld_T} (hd : VD d) {p : Nat → Bool} (hp : subC d p) {lab : Nat → Nat} (h : LabS d p lab) {c : Nat} (hc : lead p lab c = false) : lsz p lab c = 0 := by
  refine fb_ct_zero.mpr (fun o _ => ?_)
  cases e : p o with
  | false => rfl
  | true =>
    by_cases z : lab o = c
    · have r := (h o (hp o e) e).1.ends hd
      unfold lead at hc
      rw [← z, r.2.2.2, lab_idem hd h (hp o e) e] at hc
      simp at hc
    · simp [z]
theorem largest_ok {Z : Nat → Nat} {I : I_T} {L : L_T} {R : R_T} {a : Nat} {d : ld_T} (hd : VD d) (hl : CL I L a d) {p : Nat → Bool} (hp : subC d p) {lab : Nat → Nat} (h : LabS d p lab) {x : Int64} (hx : isS x p) : D_X2_largest Z I L R a x = some (nI (mxs (lsz p lab) 64)) := by
  have h64 := cs_le hd
  have key : ∀ n t, t + n = 64 → ∀ b x, t ≤ b → b ≤ 64 → isS x (fun i => p i && decide (b ≤ lab i)) → itC (B_X2_largest_8 Z I L R a) (x, nI (mxs (lsz p lab) b), nI t) = some (nI (mxs (lsz p lab) 64)) := by
    intro n
    induction n with
    | zero =>
      intro t ht b x tb' b64 hx
      have : t = 64 := by omega
      subst this
      have : b = 64 := by omega
      subst this
      refine itC_inr ?_
      unfold B_X2_largest_8
      exact if_neg (show ¬ nI 64 < 64 from Int32.lt_irrefl)
    | succ n ih =>
      intro t ht b x tb' b64 hx
      have lt : nI t < 64 := (nI_ltI (b := 64) (by omega) (by omega)).mpr (by omega)
      by_cases x0 : x = 0
      · refine itC_inr ?_
        unfold B_X2_largest_8
        simp only [lt, if_true, x0]
        rw [mxs_gap b64 (fun c u _ => lsz_no hd hp h (rest0 hd hp hx x0 c u))]
      · obtain ⟨m, y, bm, mc, ml, no, hy, ys, zs⟩ := peel (Z := Z) (R := R) hd hl hp h hx x0
        have cy : cnt y = lsz p lab m := fb_ct_cong ys
        have l1 := lsz_le p lab m
        have l2 := mxs_le (lsz_le p lab) b
        refine (itC_inl ?_).trans (ih (t + 1) (by omega) (m + 1) _ (by omega) (by omega) zs)
        unfold B_X2_largest_8
        simp only [lt, if_true, x0, if_false, hy, bs_, nI_1, pop_ok, cy]
        rw [imax_nI (by omega) (by omega)]
        show _ = some (Sum.inl (_, nI (max (mxs (lsz p lab) m) (lsz p lab m)), _))
        rw [mxs_gap bm (fun c u v => lsz_no hd hp h (no c u v))]
  have := key 64 0 (by omega) 0 x (by omega) (by omega) (fun i hi => by rw [hx i hi]; simp)
  exact this
