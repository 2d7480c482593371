/-! routes: where one is at a minute; the class's walker -/
def dj (e : Nat → Nat → Int32) (j : Nat) : Nat := (e j 0).toNatClampNeg
def mj (e : Nat → Nat → Int32) (j : Nat) : Nat := (e j 1).toNatClampNeg
theorem VRoute.leg {n x y : Nat} {e : Nat → Nat → Int32} (h : VRoute n x y e) {j : Nat} (hj : j < n) : e j 0 = nI (dj e j) ∧ dj e j ≤ 4 ∧ e j 1 = nI (mj e j) ∧ 1 ≤ mj e j ∧ mj e j ≤ 20 := by
  obtain ⟨⟨q, q1, q2⟩, p, p1, p2, p3⟩ := h.2.2.2 j hj
  unfold dj mj
  rw [q2, p3, cl_nI (by omega), cl_nI (by omega)]
  exact ⟨rfl, q1, rfl, p1, p2⟩
/-- the cell one goes to; at an edge he stays -/
def go_ (d : ld_T) (c r : Nat) : Nat := match nx d c r with | some j => j | none => c
theorem go_lt {d : ld_T} (hd : VD d) {c r : Nat} (hc : c < cs_ d) : go_ d c r < cs_ d := by
  unfold go_
  cases e : nx d c r with
  | none => exact hc
  | some j => exact nx_lt hd hc e
def lg (n : Nat) (e : Nat → Nat → Int32) (l g : Nat) : Nat × Nat := if 0 < n ∧ g + 1 = mj e l then ((if l + 1 = n then 0 else l + 1), 0) else (l, g + 1)
/-- cell, leg, minutes of it that are gone -/
def rs (d : ld_T) (n x y : Nat) (e : Nat → Nat → Int32) : Nat → Nat × Nat × Nat
  | 0 => (y * lw d + x, 0, 0)
  | t + 1 => let s := rs d n x y e t
    (if n = 0 then s.1 else go_ d s.1 (dj e s.2.1), lg n e s.2.1 s.2.2)
theorem rs_ok {d : ld_T} (hd : VD d) {n x y : Nat} {e : Nat → Nat → Int32} (v : VRoute n x y e) (hx : x < lw d) (hy : y < lh d) : ∀ t, (rs d n x y e t).1 < cs_ d ∧ (0 < n → (rs d n x y e t).2.1 < n ∧ (rs d n x y e t).2.2 < mj e (rs d n x y e t).2.1) ∧ (n = 0 → (rs d n x y e t).2.1 = 0) ∧ (rs d n x y e t).2.2 ≤ t := by
  intro t
  induction t with
  | zero =>
    refine ⟨?_, fun hn => ⟨hn, ?_⟩, fun _ => rfl, Nat.le_refl _⟩
    · show y * lw d + x < lw d * lh d
      have : (y + 1) * lw d ≤ lh d * lw d := Nat.mul_le_mul_right _ hy
      rw [Nat.add_mul, Nat.one_mul] at this
      rw [Nat.mul_comm (lw d)]
      omega
    · have := (v.leg hn).2.2.2.1
      show 0 < mj e 0
      omega
  | succ t ih =>
    obtain ⟨a, b, c, f⟩ := ih
    refine ⟨?_, fun hn => ?_, fun hn => ?_, ?_⟩
    · show (if n = 0 then _ else _) < _
      split
      · exact a
      · exact go_lt hd a
    · obtain ⟨b1, b2⟩ := b hn
      show (lg n e (rs d n x y e t).2.1 (rs d n x y e t).2.2).1 < n ∧ (lg n e (rs d n x y e t).2.1 (rs d n x y e t).2.2).2 < mj e (lg n e (rs d n x y e t).2.1 (rs d n x y e t).2.2).1
      unfold lg
      by_cases z : (rs d n x y e t).2.2 + 1 = mj e (rs d n x y e t).2.1
      · rw [if_pos ⟨hn, z⟩]
        show (if _ then 0 else _) < n ∧ 0 < mj e (if _ then 0 else _)
        by_cases w : (rs d n x y e t).2.1 + 1 = n
        · rw [if_pos w]
          exact ⟨hn, by have := (v.leg hn).2.2.2.1; omega⟩
        · rw [if_neg w]
          exact ⟨by omega, by have := (v.leg (j := (rs d n x y e t).2.1 + 1) (by omega)).2.2.2.1; omega⟩
      · rw [if_neg (fun w => z w.2)]
        exact ⟨b1, by show (rs d n x y e t).2.2 + 1 < mj e (rs d n x y e t).2.1; omega⟩
    · show (lg n e (rs d n x y e t).2.1 (rs d n x y e t).2.2).1 = 0
      unfold lg
      rw [if_neg (fun w => by omega)]
      exact c hn
    · show (lg n e (rs d n x y e t).2.1 (rs d n x y e t).2.2).2 ≤ t + 1
      unfold lg
      split
      · exact Nat.zero_le _
      · show _ + 1 ≤ t + 1
        omega
theorem cellOf_ok {Z : Nat → Nat} {I : I_T} {L : L_T} {R : R_T} {a : Nat} {d : ld_T} (hd : VD d) (e0 : I a 0 = nI (lw d)) (e1 : I a 1 = nI (lh d)) {x y : Nat} (hx : x < 2 ^ 31) (hy : y < 2 ^ 31) : D_X2_cellOf Z I L R a (nI x) (nI y) = some (if x < lw d ∧ y < lh d then nI (y * lw d + x) else -1) := by
  have w8 := hd.2.1
  have h8 := hd.2.2.2.1
  have no : D_X2_cellOf_28 Z I L R a (nI x) (nI y) = some (-1) := by rw [D_X2_cellOf_28, D_X2_cellOf_29, if_pos rfl]
  rw [D_X2_cellOf, if_neg (nI_pos hx), if_neg (nI_pos hy), e0, e1, no]
  by_cases p : x < lw d
  · rw [if_pos ((nI_ltI hx (by omega)).mpr p)]
    by_cases q : y < lh d
    · rw [if_pos ((nI_ltI hy (by omega)).mpr q), if_pos ⟨p, q⟩, D_X2_cellOf_29, if_neg (show ¬ (1 : Int32) = 0 by decide), e0, nI_mul, nI_add]
    · rw [if_neg (fun u => q ((nI_ltI hy (by omega)).mp u)), if_neg (fun u => q u.2)]
  · rw [if_neg (fun u => p ((nI_ltI hx (by omega)).mp u)), if_neg (fun u => p u.1)]
theorem isStart_ok {Z : Nat → Nat} {I : I_T} {L : L_T} {R : R_T} {a b : Nat} {d : ld_T} (hd : VD d) (e0 : I a 0 = nI (lw d)) (e1 : I a 1 = nI (lh d)) {x y : Nat} (hx : x < 2 ^ 31) (hy : y < 2 ^ 31) (ex : I b 1 = nI x) (ey : I b 2 = nI y) : D_X2_isStart Z I L R a b = some (bI (decide (x < lw d ∧ y < lh d))) := by
  have w8 := hd.2.1
  have h8 := hd.2.2.2.1
  rw [D_X2_isStart, ex, ey, cellOf_ok hd e0 e1 hx hy, bs_]
  by_cases z : x < lw d ∧ y < lh d
  · have : y * lw d ≤ 8 * 8 := Nat.mul_le_mul (by omega) w8
    rw [if_pos z, if_neg (nI_neg1 (by omega)), decide_eq_true z]
    rfl
  · rw [if_neg z, if_pos rfl, decide_eq_false z]
    rfl
/-- a walker stands where the route has it -/
def WS (I : I_T) (w : Nat) (d : ld_T) (n x y : Nat) (e : Nat → Nat → Int32) (t : Nat) : Prop := I w 0 = nI (rs d n x y e t).1 ∧ (0 < n → I w 1 = nI (rs d n x y e t).2.1 ∧ I w 2 = nI (mj e (rs d n x y e t).2.1 - (rs d n x y e t).2.2))
theorem wstart_ok {Z : Nat → Nat} {I : I_T} {L : L_T} {R : R_T} {a b w : Nat} {d : ld_T} (hd : VD d) (e0 : I a 0 = nI (lw d)) (e1 : I a 1 = nI (lh d)) {n x y : Nat} {e : Nat → Nat → Int32} (v : VRoute n x y e) (hb : CS I b n x y e) (rb : R b 0 = some (b + 1)) (zb : Z (b + 1) = 40) (hx : x < lw d) (hy : y < lh d) (wb : w ≠ b) (wb1 : w ≠ b + 1) : ∃ I', D_X9_start Z I L R w a b = some I' ∧ (∀ i, i ≠ w → I' i = I i) ∧ WS I' w d n x y e 0 := by
  have n10 := v.1
  have w8 := hd.2.1
  have h8 := hd.2.2.2.1
  rw [D_X9_start, hb.1, hb.2.1, cellOf_ok hd e0 e1 (by omega) (by omega), bs_, if_pos ⟨hx, hy⟩, bs_, bs_]
  generalize hJ : up2 (up2 I w 0 (nI (y * lw d + x))) w 1 0 = J
  have fr : ∀ i, i ≠ w → J i = I i := fun i hi => by rw [← hJ, up2_ne hi, up2_ne hi]
  have hbJ : CS J b n x y e := hb.keep (fr b (Ne.symm wb)) (fr _ (Ne.symm wb1))
  have j0 : J w 0 = nI (y * lw d + x) := by rw [← hJ, up2_j (by omega), up2_s]
  have j1 : J w 1 = 0 := by rw [← hJ, up2_s]
  by_cases hn : 0 < n
  · have vo : D_X6_value Z J L R b 0 1 = some (e 0 1) := value_ok (j := 0) (q := 1) hbJ rb (by omega) (by omega) (by omega) hn (by omega)
    rw [vo, bs_, bs_]
    refine ⟨_, rfl, fun i hi => by rw [up2_ne hi]; exact fr i hi, by rw [up2_j (by omega)]; exact j0, fun _ => ⟨by rw [up2_j (by omega)]; exact j1, ?_⟩⟩
    rw [up2_s, (v.leg hn).2.2.1]
    rfl
  · have vo : D_X6_value Z J L R b 0 1 = some 0 := value_no (j := 0) hbJ (by omega) (by omega) (by omega) 1
    rw [vo, bs_, bs_]
    exact ⟨_, rfl, fun i hi => by rw [up2_ne hi]; exact fr i hi, by rw [up2_j (by omega)]; exact j0, fun z => (hn z).elim⟩
theorem wstep_ok {Z : Nat → Nat} {I : I_T} {L : L_T} {R : R_T} {a b w : Nat} {d : ld_T} (hd : VD d) (hl : CL I L a d) {n x y : Nat} {e : Nat → Nat → Int32} (v : VRoute n x y e) (hb : CS I b n x y e) (rb : R b 0 = some (b + 1)) (zb : Z (b + 1) = 40) (hx : x < lw d) (hy : y < lh d) (wb : w ≠ b) (wb1 : w ≠ b + 1) {t : Nat} (hw : WS I w d n x y e t) : ∃ I', D_X9_step Z I L R w a b = some I' ∧ (∀ i, i ≠ w → I' i = I i) ∧ WS I' w d n x y e (t + 1) := by
  have n10 := v.1
  have h64 := cs_le hd
  obtain ⟨r1, r2, r3, r4⟩ := rs_ok hd v hx hy t
  obtain ⟨w0, w1⟩ := hw
  have e3 : I b 3 = nI n := hb.2.2.1
  unfold WS
  show ∃ I', D_X9_step Z I L R w a b = some I' ∧ (∀ i, i ≠ w → I' i = I i) ∧ I' w 0 = nI (if n = 0 then (rs d n x y e t).1 else go_ d (rs d n x y e t).1 (dj e (rs d n x y e t).2.1)) ∧ (0 < n → I' w 1 = nI (lg n e (rs d n x y e t).2.1 (rs d n x y e t).2.2).1 ∧ I' w 2 = nI (mj e (lg n e (rs d n x y e t).2.1 (rs d n x y e t).2.2).1 - (lg n e (rs d n x y e t).2.1 (rs d n x y e t).2.2).2))
  generalize (rs d n x y e t).1 = c at *
  generalize (rs d n x y e t).2.1 = l at *
  generalize (rs d n x y e t).2.2 = g at *
  by_cases hn : 0 < n
  · obtain ⟨l1, l2⟩ := r2 hn
    obtain ⟨w2, w3⟩ := w1 hn
    obtain ⟨v1, v2, v3, v4, v5⟩ := v.leg l1
    have s36 : ∀ J : I_T, (∀ i, i ≠ w → J i = I i) → J w 1 = nI l → J w 2 = nI (mj e l - g) → ∃ I', D_X9_step_36 Z J L R w b = some I' ∧ (∀ i, i ≠ w → I' i = I i) ∧ I' w 0 = J w 0 ∧ I' w 1 = nI (lg n e l g).1 ∧ I' w 2 = nI (mj e (lg n e l g).1 - (lg n e l g).2) := fun J fr j1 j2 => by
      have s1 : J w 2 - 1 = nI (mj e l - g - 1) := by rw [j2, show (1 : Int32) = nI 1 from rfl, nI_sub (by omega)]
      rw [D_X9_step_36, bs_, s1, up2_s]
      generalize hK : up2 J w 2 (nI (mj e l - g - 1)) = K
      have k0 : K w 0 = J w 0 := by rw [← hK, up2_j (by omega)]
      have k1 : K w 1 = nI l := by rw [← hK, up2_j (by omega)]; exact j1
      have k2 : K w 2 = nI (mj e l - g - 1) := by rw [← hK, up2_s]
      have kf : ∀ i, i ≠ w → K i = I i := fun i hi => by rw [← hK, up2_ne hi]; exact fr i hi
      by_cases z : g + 1 = mj e l
      · have z0 : ¬ (0 : Int32) < nI (mj e l - g - 1) := fun u => by
          have := (ln_lt (k := 0) (j := 0) rfl (by omega) (by omega)).mp u
          omega
        have kb : K b 3 = nI n := by rw [kf b (Ne.symm wb)]; exact e3
        have lz : lg n e l g = ((if l + 1 = n then 0 else l + 1), 0) := by
          unfold lg
          rw [if_pos ⟨hn, z⟩]
        rw [if_neg z0, lz, k1, kb, show (1 : Int32) = nI 1 from rfl, nI_add]
        have s77 : ∀ l', l' < n → ∃ I', D_X9_step_77 Z K L R w b (nI l') w = some I' ∧ (∀ i, i ≠ w → I' i = I i) ∧ I' w 0 = J w 0 ∧ I' w 1 = nI l' ∧ I' w 2 = nI (mj e l' - 0) := fun l' hl' => by
          have hbK : CS (up2 K w 1 (nI l')) b n x y e := hb.keep (by rw [up2_ne (Ne.symm wb)]; exact kf b (Ne.symm wb)) (by rw [up2_ne (Ne.symm wb1)]; exact kf _ (Ne.symm wb1))
          have vo : D_X6_value Z (up2 K w 1 (nI l')) L R b (nI l') 1 = some (e l' 1) := value_ok (q := 1) hbK rb (by omega) (by omega) (by omega) hl' (by omega)
          rw [D_X9_step_77, bs_, up2_s, vo, bs_, bs_]
          refine ⟨_, rfl, fun i hi => by rw [up2_ne hi, up2_ne hi]; exact kf i hi, by rw [up2_j (by omega), up2_j (by omega)]; exact k0, by rw [up2_j (by omega), up2_s], ?_⟩
          rw [up2_s, (v.leg hl').2.2.1]
          rfl
        by_cases q : l + 1 = n
        · rw [if_neg (fun u => by have := (nI_ltI (by omega) (by omega)).mp u; omega), if_pos q]
          exact s77 0 hn
        · rw [if_pos ((nI_ltI (by omega) (by omega)).mpr (by omega)), if_neg q]
          exact s77 (l + 1) (by omega)
      · have z0 : (0 : Int32) < nI (mj e l - g - 1) := (ln_lt (k := 0) (j := 0) rfl (by omega) (by omega)).mpr (by omega)
        have lz : lg n e l g = (l, g + 1) := by
          unfold lg
          rw [if_neg (fun u => z u.2)]
        rw [if_pos z0, lz]
        exact ⟨K, rfl, kf, k0, k1, by rw [k2, Nat.sub_sub]⟩
    have vo : D_X6_value Z I L R b (nI l) 0 = some (nI (dj e l)) := by
      rw [← v1]
      exact value_ok (q := 0) hb rb (by omega) (by omega) (by omega) l1 (by omega)
    rw [D_X9_step, e3, if_pos ((ln_lt (k := 0) (j := 0) rfl (by omega) (by omega)).mpr hn), w2, vo, bs_, w0, nextC_ok hd hl r1 v2, bs_]
    cases q : nx d c (dj e l) with
    | none =>
      obtain ⟨I', p1, p2, p3, p4, p5⟩ := s36 I (fun _ _ => rfl) w2 w3
      refine ⟨I', by rw [if_pos (show oI none = -1 from rfl)]; exact p1, p2, ?_, fun _ => ⟨p4, p5⟩⟩
      rw [p3, w0, if_neg (by omega)]
      unfold go_
      rw [q]
    | some j =>
      have jl := nx_lt hd r1 q
      obtain ⟨I', p1, p2, p3, p4, p5⟩ := s36 (up2 I w 0 (nI j)) (fun i hi => up2_ne hi) (by rw [up2_j (by omega)]; exact w2) (by rw [up2_j (by omega)]; exact w3)
      refine ⟨I', by rw [if_neg (show ¬ oI (some j) = -1 from nI_neg1 (by omega)), bs_]; exact p1, p2, ?_, fun _ => ⟨p4, p5⟩⟩
      rw [p3, up2_s, if_neg (by omega)]
      unfold go_
      rw [q]
  · refine ⟨I, ?_, fun _ _ => rfl, ?_, fun z => (hn z).elim⟩
    · rw [D_X9_step, e3, if_neg (fun u => hn ((ln_lt (k := 0) (j := 0) rfl (by omega) (by omega)).mp u))]
    · rw [if_pos (by omega)]
      exact w0
