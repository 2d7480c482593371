/-! sights: who was where, both sides -/
theorem opm_t : opm true = fun x y => x ||| y := by
  funext x y
  exact if_pos rfl
theorem tb_some {x : Int64} : x ≠ 0 ↔ ∃ c, c < 64 ∧ tb x c = true := by
  constructor
  · intro h
    refine Classical.byContradiction fun no => h (tb_zero.mpr fun i hi => Bool.not_eq_true _ |>.mp fun u => no ⟨i, hi, u⟩)
  · rintro ⟨c, hc, u⟩ z
    have := tb_zero.mp z c hc
    rw [u] at this
    cases this
theorem stK_on {P : Nat → Nat → Option Nat} {V : Nat → Int64} {n j : Nat} : stK (opm true) P V n j ≠ 0 ↔ ∃ k w, k < n ∧ w < 5 ∧ P k w = some j ∧ V k ≠ 0 := by
  rw [opm_t, tb_some]
  constructor
  · rintro ⟨c, hc, u⟩
    obtain ⟨k, w, a, b, p, q⟩ := (stK_or n j).mp u
    exact ⟨k, w, a, b, p, tb_some.mpr ⟨c, hc, q⟩⟩
  · rintro ⟨k, w, a, b, p, q⟩
    obtain ⟨c, hc, u⟩ := tb_some.mp q
    exact ⟨c, hc, (stK_or n j).mpr ⟨k, w, a, b, p, u⟩⟩
theorem V0_ne {s : Nat → Bool} {ok : Nat → Nat → Bool} {c0 k : Nat} : V0_ s ok c0 k ≠ 0 ↔ W0_ s ok c0 k ≠ 0 := by
  unfold V0_ W0_
  by_cases z : ok 0 c0 = true ∧ k = 14 * c0 + now_ s c0 0
  · rw [if_pos z, if_pos z]
    exact ⟨fun _ => by decide, fun _ => by decide⟩
  · rw [if_neg z, if_neg z]
    exact ⟨fun u => (u rfl).elim, fun u => (u rfl).elim⟩
theorem vs_ne {d : ld_T} {s : Nat → Bool} {ok : Nat → Nat → Bool} {c0 : Nat} {m : Nat → Bool} : ∀ t k, k < 896 → (vs true m (PT d s ok) (V0_ s ok c0) t k ≠ 0 ↔ wY d s ok c0 t k ≠ 0)
  | 0, k, hk => (mk1_ne hk).trans V0_ne
  | t + 1, k, hk => by
    refine (mk1_ne hk).trans (stK_on.trans (Iff.trans ?_ wy_pos.symm))
    constructor
    · rintro ⟨k', w, a, b, p, q⟩
      exact ⟨k', w, a, b, p, (vs_ne t k' a).mp q⟩
    · rintro ⟨k', w, a, b, p, q⟩
      exact ⟨k', w, a, b, p, (vs_ne t k' a).mpr q⟩
/-- the minute that is asked about -/
def atM (mm : Nat) (t : Nat) : Bool := decide (t = mm)
theorem vs_at {d : ld_T} {s : Nat → Bool} {ok : Nat → Nat → Bool} {c0 mm k c : Nat} (hk : k < 896) (hc : c < 64) : tb (vs true (atM mm) (PT d s ok) (V0_ s ok c0) mm k) c = true ↔ wY d s ok c0 mm k ≠ 0 ∧ c = k / 14 := by
  have e : ∃ r : Nat → Int64, vs true (atM mm) (PT d s ok) (V0_ s ok c0) mm = mk1 true r := by
    have a : atM mm mm = true := decide_eq_true rfl
    cases mm with
    | zero => exact ⟨V0_ s ok c0, by rw [← a]; rfl⟩
    | succ t => exact ⟨stK (opm true) (PT d s ok t) (vs true (atM (t + 1)) (PT d s ok) (V0_ s ok c0) t) 896, by rw [← a]; rfl⟩
  have ne := vs_ne (d := d) (s := s) (ok := ok) (c0 := c0) (m := atM mm) mm k hk
  obtain ⟨r, e⟩ := e
  rw [← ne, e]
  have m1 : mk1 true r k = if r k = 0 then 0 else bit_ (k / 14) := if_pos rfl
  by_cases z : r k = 0
  · rw [m1, if_pos z, tb_0]
    exact ⟨(fun u => by cases u), fun u => (u.1 rfl).elim⟩
  · rw [m1, if_neg z, tb_bit c hc, decide_eq_true_eq]
    exact ⟨fun u => ⟨bit_ne (by omega), u⟩, fun u => u.2⟩
theorem vs_on {d : ld_T} {s : Nat → Bool} {ok : Nat → Nat → Bool} {c0 mm t k c : Nat} (ht : mm ≤ t) : tb (vs true (atM mm) (PT d s ok) (V0_ s ok c0) (t + 1) k) c = true ↔ ∃ k' w, k' < 896 ∧ w < 5 ∧ PT d s ok t k' w = some k ∧ tb (vs true (atM mm) (PT d s ok) (V0_ s ok c0) t k') c = true := by
  have a : atM mm (t + 1) = false := decide_eq_false (by omega)
  have e : vs true (atM mm) (PT d s ok) (V0_ s ok c0) (t + 1) k = stK (fun x y => x ||| y) (PT d s ok t) (vs true (atM mm) (PT d s ok) (V0_ s ok c0) t) 896 k := by
    show mk1 (atM mm (t + 1)) (stK (opm true) (PT d s ok t) (vs true (atM mm) (PT d s ok) (V0_ s ok c0) t) 896) k = _
    rw [a, opm_t]
    exact if_neg (by decide)
  rw [e]
  exact stK_or 896 k
theorem through {d : ld_T} (hd : VD d) {s : Nat → Bool} {ok : Nat → Nat → Bool} {c0 mm n c : Nat} (hc : c < 64) : ∀ i t, t = mm + i → t ≤ n → ((∃ k, k < 896 ∧ tb (vs true (atM mm) (PT d s ok) (V0_ s ok c0) t k) c = true ∧ ow (PT d s ok) (n - t) t k ≠ 0) ↔ thr d s ok c0 n mm c ≠ 0)
  | 0, t, ht, hn => by
    have : t = mm := by omega
    subst this
    constructor
    · rintro ⟨k, hk, a, b⟩ z
      obtain ⟨a1, a2⟩ := (vs_at hk hc).mp a
      have q := sm_eq0.mp z (k % 14) (by omega)
      rw [show 14 * c + k % 14 = k by omega] at q
      rcases Nat.mul_eq_zero.mp q with u | u
      · exact a1 u
      · exact b u
    · intro z
      refine Classical.byContradiction fun no => z (sm_eq0.mpr fun o ho => Classical.byContradiction fun u => no ⟨14 * c + o, by omega, (vs_at (by omega) hc).mpr ⟨fun y => u (by rw [y, Nat.zero_mul]), by omega⟩, fun y => u (by rw [y, Nat.mul_zero])⟩)
  | i + 1, t, ht, hn => by
    obtain ⟨t, rfl⟩ : ∃ t', t = t' + 1 := ⟨t - 1, by omega⟩
    refine Iff.trans ?_ (through hd hc i t (by omega) (by omega))
    have e1 : n - t = (n - (t + 1)) + 1 := by omega
    rw [e1]
    constructor
    · rintro ⟨k, hk, a, b⟩
      obtain ⟨k', w, p1, p2, p3, p4⟩ := (vs_on (by omega)).mp a
      exact ⟨k', p1, p4, ow_pos.mpr ⟨w, k, p2, p3, b⟩⟩
    · rintro ⟨k', p1, p4, b⟩
      obtain ⟨w, k, p2, p3, q⟩ := ow_pos.mp b
      exact ⟨k, PT_896 hd _ _ _ _ p3, (vs_on (by omega)).mpr ⟨k', w, p1, p2, p3, p4⟩, q⟩
/-- all the marks together -/
def orr (V : Nat → Int64) : Nat → Int64
  | 0 => 0
  | k + 1 => orr V k ||| V k
theorem tb_orr {V : Nat → Int64} {c : Nat} : ∀ n, tb (orr V n) c = true ↔ ∃ k, k < n ∧ tb (V k) c = true
  | 0 => by
    show tb 0 c = true ↔ _
    rw [tb_0]
    exact ⟨(fun u => by cases u), fun ⟨k, hk, _⟩ => by omega⟩
  | n + 1 => by
    show tb (orr V n ||| V n) c = true ↔ _
    rw [tb_or, Bool.or_eq_true, tb_orr n]
    constructor
    · rintro (⟨k, a, b⟩ | b)
      · exact ⟨k, by omega, b⟩
      · exact ⟨n, by omega, b⟩
    · rintro ⟨k, a, b⟩
      by_cases z : k = n
      · subst z
        exact Or.inr b
      · exact Or.inl ⟨k, by omega, b⟩
theorem cnt_sm (x : Int64) : ∀ n, fb_ct (tb x) n = sm (fun i => if tb x i = true then 1 else 0) n
  | 0 => rfl
  | n + 1 => by
    show fb_ct (tb x) n + (if tb x n = true then 1 else 0) = sm _ n + (if tb x n = true then 1 else 0)
    rw [cnt_sm x n]
theorem onlyPlace_run {Z : Nat → Nat} {I : I_T} {L : L_T} {R : R_T} {p : Nat} (r1 : R 59 1 = some p) (zp : Z p = 896) : D_X7_onlyPlace Z I L R 59 = if cnt (orr (L p) 896) = 1 then (D_X10_lowest Z I L R (orr (L p) 896)) else some (-1) := by
  have key : ∀ r : Int32, (if cnt (orr (L p) 896) = 1 then (D_X10_lowest Z I L R (orr (L p) 896)) else some (-1)) = some r → D_X7_onlyPlace Z I L R 59 = some r := fun r hr => by
    refine itC_count (f := B_X7_onlyPlace_4 Z I L R 59) (fun k => (orr (L p) k, nI k)) (n := 896) (fun k hk => ?_) ?_
    · unfold B_X7_onlyPlace_4
      dsimp only
      rw [r1, bs_, zp, if_pos ((nI_ltI (by omega) (by omega)).mpr hk), if_pos (inb_nI (by omega) (by omega)), cl_nI (by omega), nI_1]
      rfl
    · unfold B_X7_onlyPlace_4
      dsimp only
      rw [r1, bs_, zp, if_neg Int32.lt_irrefl, pop_ok, bs_]
      have c64 := cnt_le (orr (L p) 896)
      by_cases z : cnt (orr (L p) 896) = 1
      · rw [if_pos z] at hr
        rw [if_pos (show nI (cnt (orr (L p) 896)) = 1 from congrArg nI z), hr, bs_]
      · rw [if_neg z] at hr
        rw [if_neg (show ¬ nI (cnt (orr (L p) 896)) = 1 from fun u => z ((nI_eq (b := 1) (by omega) (by omega)).mp u)), Option.some.inj hr]
  have ex : ∃ r : Int32, (if cnt (orr (L p) 896) = 1 then (D_X10_lowest Z I L R (orr (L p) 896)) else some (-1)) = some r := by
    by_cases z : cnt (orr (L p) 896) = 1
    · rw [if_pos z]
      by_cases y : orr (L p) 896 = 0
      · rw [y]
        exact ⟨_, lowest_no⟩
      · obtain ⟨c, hc⟩ := low_ex y
        exact ⟨_, lowest_ok hc⟩
    · rw [if_neg z]
      exact ⟨_, rfl⟩
  obtain ⟨r, hr⟩ := ex
  rw [hr, key r hr]
/-- both sides' answer of one minute: the cell that all walks go through -/
theorem onlyPlace_ok {Z : Nat → Nat} {I : I_T} {L : L_T} {R : R_T} {p : Nat} (r1 : R 59 1 = some p) (zp : Z p = 896) {T : Nat → Nat} {A : Nat} (hX : ∀ c, c < 64 → ((∃ k, k < 896 ∧ tb (L p k) c = true) ↔ T c ≠ 0)) (hs : sm T 64 = A) : (∀ c, c < 64 → T c = A → A ≠ 0 → D_X7_onlyPlace Z I L R 59 = some (nI c)) ∧ ((∀ c, c < 64 → T c = A → A = 0) → D_X7_onlyPlace Z I L R 59 = some (-1)) := by
  have tx : ∀ c, c < 64 → (tb (orr (L p) 896) c = true ↔ T c ≠ 0) := fun c hc => (tb_orr 896).trans (hX c hc)
  have cx : cnt (orr (L p) 896) = sm (fun i => if tb (orr (L p) 896) i = true then 1 else 0) 64 := cnt_sm _ 64
  have run := onlyPlace_run (Z := Z) (I := I) (L := L) r1 zp
  generalize orr (L p) 896 = X at tx cx run
  constructor
  · intro c hc e A0
    have oth : ∀ i, i < 64 → i ≠ c → T i = 0 := fun i hi ne => by
      have := sm_le2 (f := T) hi hc ne
      omega
    have bx : ∀ i, i < 64 → (tb X i = true ↔ i = c) := fun i hi => by
      rw [tx i hi]
      exact ⟨fun u => Classical.byContradiction fun v => u (oth i hi v), fun u => by rw [u, e]; exact A0⟩
    have c1 : cnt X = 1 := by
      rw [cx, sm_one' (j := c) hc (fun i hi ne => if_neg (fun u => ne ((bx i hi).mp u))), if_pos ((bx c hc).mpr rfl)]
    rw [run, if_pos c1]
    exact lowest_ok ⟨hc, (bx c hc).mpr rfl, fun i hi => Bool.not_eq_true _ |>.mp fun u => by
      have := (bx i (by omega)).mp u
      omega⟩
  · intro no
    have c1 : cnt X ≠ 1 := fun u => by
      rw [cx] at u
      have e1 : ∃ c, c < 64 ∧ tb X c = true := Classical.byContradiction fun w => by
        rw [sm_eq0.mpr (fun i hi => if_neg (fun v => w ⟨i, hi, v⟩))] at u
        cases u
      obtain ⟨c, hc, t⟩ := e1
      have oth : ∀ i, i < 64 → i ≠ c → T i = 0 := fun i hi ne => Classical.byContradiction fun v => by
        have := sm_le2 (f := fun i => if tb X i = true then 1 else 0) hi hc ne
        rw [if_pos ((tx i hi).mpr v), if_pos t] at this
        omega
      have e : T c = A := by rw [← hs, sm_one' hc oth]
      have := no c hc e
      exact (tx c hc).mp t (by rw [e, this])
    rw [run, if_neg c1]
/-- the model's -/
theorem msure_ok {sh : sh_T} {I J : I_T} {R : R_T} {L : L_T} {j : Nat} {d : ld_T} {s : Nat → Bool} {n0 x y : Nat} {e : Nat → Nat → Int32} {ok : Nat → Nat → Bool} (h : MSt sh I J R L j d s n0 x y e ok) {n mm : Nat} (hn : n ≤ 12) (hm : mm ≤ n) {M : L_T} (hf : ∀ t, t ≤ n → ∀ k, k < 896 → M 98 (896 * t + k) = lN (wY d s ok (lw d * y + x) t k)) (hb : ∀ t, t ≤ n → ∀ i, i < 14 * cs_ d → M 99 (896 * t + i) = lN (ow (PT d s ok) (n - t) t i)) (A0 : wAll d s ok (lw d * y + x) n ≠ 0) : (∀ c, c < 64 → thr d s ok (lw d * y + x) n mm c = wAll d s ok (lw d * y + x) n → itC (B_X11_sure_58 sh.2.2 J M R 68 (nI mm)) 0 = some (nI c, J, M)) ∧ ((∀ c, c < 64 → thr d s ok (lw d * y + x) n mm c ≠ wAll d s ok (lw d * y + x) n) → itC (B_X11_sure_58 sh.2.2 J M R 68 (nI mm)) 0 = some (-1, J, M)) := by
  have h64 := cs_le h.hd
  have aw := allWalks2_ok h hn hf hb
  have A1 : wAll d s ok (lw d * y + x) n ≤ 244140625 := wY_le h.hd h.c0 hn
  have hle : ∀ c, thr d s ok (lw d * y + x) n mm c ≤ wAll d s ok (lw d * y + x) n := fun c => thr_le h.hd h.c0 hm
  have out : ∀ c, cs_ d ≤ c → thr d s ok (lw d * y + x) n mm c = 0 := fun c hc => thr_out h.hd h.c0 hc
  have sum := thr_all h.hd (s := s) (ok := ok) (c0 := lw d * y + x) hm
  have wb : ∀ c, c < cs_ d → D_X11_walksBy sh.2.2 J M R 68 (nI mm) (nI c) = some (lN (thr d s ok (lw d * y + x) n mm c)) := fun c hc => walksBy2_ok h hn hm hc hf hb
  generalize thr d s ok (lw d * y + x) n mm = T at *
  generalize wAll d s ok (lw d * y + x) n = A at *
  have stp : ∀ c, c < cs_ d → T c ≠ A → B_X11_sure_58 sh.2.2 J M R 68 (nI mm) (nI c) = some (.inl (nI (c + 1))) := fun c hc ne => by
    have := hle c
    unfold B_X11_sure_58
    rw [h.e26, if_pos ((nI_ltI (by omega) (by omega)).mpr hc), wb c hc, bs_, aw, bs_, if_neg (fun u => ne ((lN_inj (by omega) (by omega)).mp u)), nI_1]
  constructor
  · intro c hc ec
    have cc : c < cs_ d := Classical.byContradiction fun u => A0 (by rw [← ec]; exact out c (by omega))
    refine itC_count (f := B_X11_sure_58 sh.2.2 J M R 68 (nI mm)) (fun c => nI c) (n := c) (fun i hi => stp i (by omega) fun u => ?_) ?_
    · have := sm_le2 (f := T) (i := i) (j := c) (n := 64) (by omega) hc (by omega)
      omega
    · unfold B_X11_sure_58
      rw [h.e26, if_pos ((nI_ltI (by omega) (by omega)).mpr cc), wb c cc, bs_, aw, bs_, ec, if_pos rfl]
  · intro no
    refine itC_count (f := B_X11_sure_58 sh.2.2 J M R 68 (nI mm)) (fun c => nI c) (n := cs_ d) (fun i hi => stp i hi (no i (by omega))) ?_
    unfold B_X11_sure_58
    rw [h.e26, if_neg Int32.lt_irrefl]
