/-! water, soil, neighbours of a set, parts -/
theorem bt_eq {x y : Bool} (h : x = true ↔ y = true) : x = y := by
  cases x <;> cases y <;> simp_all
def wat (d : ld_T) (l c : Nat) : Bool := decide (c < cs_ d) && decide (d 6 c ≤ l)
/-- the set of a class's word is that of a predicate -/
def isS (x : Int64) (p : Nat → Bool) : Prop := ∀ i, i < 64 → tb x i = p i
theorem water_ok {Z : Nat → Nat} {I : I_T} {L : L_T} {R : R_T} {a : Nat} {d : ld_T} (hd : VD d) (hl : CL I L a d) (lz : LZ Z R a) {l : Nat} (hl9 : l ≤ 9) : ∃ x, D_X2_water Z I L R a (nI l) = some x ∧ isS x (wat d l) := by
  have h64 := cs_le hd
  obtain ⟨c1, c2, c3, c4, c5, c6⟩ := hl
  have e0 : I a 0 = nI (lw d) := c1 0 (by omega)
  have e1 : I a 1 = nI (lh d) := c1 1 (by omega)
  have key : ∀ n, n ≤ cs_ d → ∀ x, isS x (fun i => decide (i < cs_ d - n) && decide (d 6 i ≤ l)) → ∃ y, itC (B_X2_water_5 Z I L R a (nI l)) (x, nI (cs_ d - n)) = some y ∧ isS y (wat d l) := by
    intro n
    induction n with
    | zero =>
      intro _ x hx
      refine ⟨x, itC_inr ?_, hx⟩
      unfold B_X2_water_5
      simp only [e0, e1, nI_mul, Nat.sub_zero]
      exact if_neg Int32.lt_irrefl
    | succ n ih =>
      intro hn x hx
      have hlt : cs_ d - (n + 1) < cs_ d := by omega
      have es : cs_ d - (n + 1) + 1 = cs_ d - n := by omega
      have g : D_X10_get Z I L R (a + 1) (nI (cs_ d - (n + 1))) = some (nI (d 6 (cs_ d - (n + 1)))) := by
        rw [get_ok (by rw [lz.2.2.2.2.1]; omega) (by rw [lz.2.2.2.2.1]; decide), (c2 _ hlt).1]
      have d9 := (hd.2.2.2.2.2.2.2.2.2.1 (cs_ d - (n + 1))).1
      by_cases q : d 6 (cs_ d - (n + 1)) ≤ l
      · obtain ⟨y, hy, hs⟩ := ih (by omega) (x ||| bit_ (cs_ d - (n + 1))) (fun i hi => by
          rw [tb_or, hx i hi, tb_bit i hi]
          apply bt_eq
          simp only [Bool.or_eq_true, Bool.and_eq_true, decide_eq_true_eq]
          constructor
          · rintro (⟨u, v⟩ | u)
            · exact ⟨by omega, v⟩
            · subst u
              exact ⟨by omega, q⟩
          · rintro ⟨u, v⟩
            by_cases w : i = cs_ d - (n + 1)
            · exact Or.inr w
            · exact Or.inl ⟨by omega, v⟩)
        refine ⟨y, (itC_inl ?_).trans hy, hs⟩
        unfold B_X2_water_5
        simp only [e0, e1, nI_mul]
        rw [if_pos ((nI_ltI (by omega) (by omega)).mpr hlt), lz.1, bs_, g, bs_, if_neg (fun z => by have := (nI_ltI (by omega) (by omega)).mp z; omega), bit_ok (by omega), bs_, nI_1, es]
      · obtain ⟨y, hy, hs⟩ := ih (by omega) x (fun i hi => by
          rw [hx i hi]
          apply bt_eq
          simp only [Bool.and_eq_true, decide_eq_true_eq]
          constructor
          · rintro ⟨u, v⟩
            exact ⟨by omega, v⟩
          · rintro ⟨u, v⟩
            by_cases w : i = cs_ d - (n + 1)
            · subst w
              exact (q v).elim
            · exact ⟨by omega, v⟩)
        refine ⟨y, (itC_inl ?_).trans hy, hs⟩
        unfold B_X2_water_5
        simp only [e0, e1, nI_mul]
        rw [if_pos ((nI_ltI (by omega) (by omega)).mpr hlt), lz.1, bs_, g, bs_, if_pos ((nI_ltI (by omega) (by omega)).mpr (by omega)), nI_1, es]
  obtain ⟨y, hy, hs⟩ := key (cs_ d) (Nat.le_refl _) 0 (fun i hi => by rw [tb_0, Nat.sub_self]; simp)
  rw [Nat.sub_self] at hy
  exact ⟨y, hy, hs⟩
theorem soil_ok {sh : sh_T} {I J : I_T} {L : L_T} {R : R_T} (h : Inv sh I L R) {d : ld_T} (hd : VD d) {l c : Nat} (hl9 : l ≤ 9) (hc : c < cs_ d) (e27 : J 68 27 = nI l) (e31 : J 68 31 = -1) (e80 : J 80 c = nI (d 6 c)) {L' : L_T} : D_X11_isSoil sh.2.2 J L' R 68 (nI c) = some (bI (decide (l < d 6 c))) := by
  have h64 := cs_le hd
  have d9 := (hd.2.2.2.2.2.2.2.2.2.1 c).1
  rw [D_X11_isSoil, e31, if_neg (nI_neg1 (by omega)), h.r 68 33 80 rfl, bs_, if_pos (inb_nI (by rw [h.z 80 64 rfl]; omega) (by omega)), cl_nI (by omega), e27, e80]
  by_cases q : l < d 6 c
  · rw [if_pos ((nI_ltI (by omega) (by omega)).mpr q), decide_eq_true q]
    rfl
  · rw [if_neg (fun z => q ((nI_ltI (by omega) (by omega)).mp z)), decide_eq_false q]
    rfl
def adj (d : ld_T) (i c : Nat) : Prop := ∃ r, r < 4 ∧ nx d i r = some c
theorem op_lt {r : Nat} (h : r < 4) : op_ r < 4 := by unfold op_; split <;> (try split) <;> (try split) <;> omega
theorem adj_sym {d : ld_T} (hd : VD d) {i c : Nat} (hi : i < cs_ d) (h : adj d i c) : adj d c i := by
  obtain ⟨r, hr, e⟩ := h
  exact ⟨op_ r, op_lt hr, (nx_inv hd hr hi (nx_lt hd hi e)).mpr e⟩
theorem adj_lt {d : ld_T} (hd : VD d) {i c : Nat} (hi : i < cs_ d) (h : adj d i c) : c < cs_ d := by
  obtain ⟨r, hr, e⟩ := h
  exact nx_lt hd hi e
theorem sb_iff {x : Int64} {o : Option Nat} : sb x o = true ↔ ∃ c, o = some c ∧ tb x c = true := by
  cases o with
  | none => simp [sb]
  | some c => simp [sb]
theorem beside_ok {Z : Nat → Nat} {I : I_T} {L : L_T} {R : R_T} {a : Nat} {d : ld_T} (hd : VD d) (hl : CL I L a d) {x : Int64} (hx : inC d x) : ∃ y, D_X2_beside Z I L R a x = some y ∧ ∀ i, i < 64 → (tb y i = true ↔ i < cs_ d ∧ ∃ c, adj d i c ∧ tb x c = true) := by
  obtain ⟨y0, h0, b0⟩ := shift_ok (Z := Z) (R := R) hd hl hx (r := 0) (by omega)
  obtain ⟨y1, h1, b1⟩ := shift_ok (Z := Z) (R := R) hd hl hx (r := 1) (by omega)
  obtain ⟨y2, h2, b2⟩ := shift_ok (Z := Z) (R := R) hd hl hx (r := 2) (by omega)
  obtain ⟨y3, h3, b3⟩ := shift_ok (Z := Z) (R := R) hd hl hx (r := 3) (by omega)
  have h0' : D_X2_shift Z I L R a x 0 = some y0 := h0
  have h1' : D_X2_shift Z I L R a x 1 = some y1 := h1
  have h2' : D_X2_shift Z I L R a x 2 = some y2 := h2
  have h3' : D_X2_shift Z I L R a x 3 = some y3 := h3
  refine ⟨_, by rw [D_X2_beside, h0', bs_, h1', bs_, h2', bs_, h3', bs_], fun i hi => ?_⟩
  rw [tb_or, tb_or, tb_or, b0 i hi, b1 i hi, b2 i hi, b3 i hi]
  show (decide (i < cs_ d) && sb x (nx d i 2) || decide (i < cs_ d) && sb x (nx d i 3) || decide (i < cs_ d) && sb x (nx d i 0) || decide (i < cs_ d) && sb x (nx d i 1)) = true ↔ _
  simp only [Bool.or_eq_true, Bool.and_eq_true, decide_eq_true_eq, sb_iff]
  constructor
  · rintro (((⟨u, c, v, w⟩ | ⟨u, c, v, w⟩) | ⟨u, c, v, w⟩) | ⟨u, c, v, w⟩)
    · exact ⟨u, c, ⟨2, by omega, v⟩, w⟩
    · exact ⟨u, c, ⟨3, by omega, v⟩, w⟩
    · exact ⟨u, c, ⟨0, by omega, v⟩, w⟩
    · exact ⟨u, c, ⟨1, by omega, v⟩, w⟩
  · rintro ⟨u, c, ⟨r, hr, v⟩, w⟩
    have : r = 0 ∨ r = 1 ∨ r = 2 ∨ r = 3 := by omega
    rcases this with rfl | rfl | rfl | rfl
    · exact Or.inl (Or.inr ⟨u, c, v, w⟩)
    · exact Or.inr ⟨u, c, v, w⟩
    · exact Or.inl (Or.inl (Or.inl ⟨u, c, v, w⟩))
    · exact Or.inl (Or.inl (Or.inr ⟨u, c, v, w⟩))
