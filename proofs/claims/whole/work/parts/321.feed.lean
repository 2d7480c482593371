/-- the byte at a shift -/
def by_ (v : Int32) (s : Nat) : Int32 := (v >>> (nI s &&& 31)).toInt8.toInt32
theorem by_u (v : Int32) (s : Nat) (h : s = 24 ∨ s = 16 ∨ s = 8 ∨ s = 0) : ((v.toUInt32 >>> ((nI s).toUInt32 &&& Int32.toUInt32 31)).toInt32).toInt8.toInt32 = by_ v s := by
  unfold by_
  congr 1
  apply Int8.toBitVec_inj.mp
  apply BitVec.eq_of_getLsbD_eq
  intro i hi
  have h1 : ∀ x : Int32, x.toInt8.toBitVec.getLsbD i = bt x i := fun x => by
    rw [Int32.toBitVec_toInt8, BitVec.getLsbD_signExtend]
    simp [hi, bt, show i < 32 by omega]
  rw [h1, h1, b_ushr s (by omega), b_sshr s (by omega) v (by omega), if_pos (by omega)]
theorem by_n (v : Int32) (s : Nat) : vp_nar .byte (by_ v s) = by_ v s := by
  rw [vp_nar_byte]
  unfold by_
  exact fb_byte_twice _
/-- bytes come behind -/
def pb_ (I : I_T) (t a c n : Nat) (x : Int32) : I_T := up2 (up2 I t n x) a c (nI (n + 1))
def pbs (I : I_T) (t a c n : Nat) (v : Int32) : Nat → I_T
  | 0 => I
  | k + 1 => pb_ (pbs I t a c n v k) t a c (n + k) (by_ v (24 - 8 * k))
theorem pbs_n {I : I_T} {t a c n : Nat} {v : Int32} (h : I a c = nI n) : ∀ k, pbs I t a c n v k a c = nI (n + k)
  | 0 => h
  | k + 1 => up2_s _ _ _ _
theorem push_st {Z : Nat → Nat} {I : I_T} {L : L_T} {R : R_T} {a n : Nat} {v : Int32} {s : Nat} (h : s = 24 ∨ s = 16 ∨ s = 8 ∨ s = 0) (hr : R a 0 = some (a + 1)) (hz : Z (a + 1) = 600) (hn : I a 1 = nI n) (hn2 : n < 600) : B_X8_push_3 Z I L R a v (nI s, I) = some (.inl (nI s + -8, pb_ I (a + 1) a 1 n (by_ v s))) := by
  have h1 : ¬ nI s < 0 := nI_pos (by omega)
  have h2 : ¬ nI n < 0 := nI_pos (by omega)
  have h3 : nI n < nI 600 := (nI_ltI (by omega) (by decide)).mpr hn2
  unfold B_X8_push_3
  simp only [h1, hn, h2, if_false, hr, bs_, hz, h3, if_true, inb_nI hn2 (show n < 2 ^ 31 by omega), cl_nI (show n < 2 ^ 31 by omega), by_u v s h, by_n]
  have e : up2 I (a + 1) n (by_ v s) a 1 = nI n := by rw [up2_a (by omega)]; exact hn
  rw [e, nI_1]
  rfl
theorem push_ok {Z : Nat → Nat} {I : I_T} {L : L_T} {R : R_T} {a n : Nat} {v : Int32} (hr : R a 0 = some (a + 1)) (hz : Z (a + 1) = 600) (hn : I a 1 = nI n) (hn2 : n + 4 ≤ 600) : D_X8_push Z I L R a v = some (pbs I (a + 1) a 1 n v 4) := by
  rw [D_X8_push, D_X8_push_3, show (24 : Int32) = nI 24 from rfl]
  show itC (B_X8_push_3 Z I L R a v) (nI 24, pbs I (a + 1) a 1 n v 0) = _
  refine (itC_inl (show B_X8_push_3 Z I L R a v (nI 24, pbs I (a + 1) a 1 n v 0) = _ from push_st (L := L) (s := 24) (by decide) hr hz (pbs_n (t := a + 1) (v := v) hn 0) (by omega))).trans ?_
  show itC (B_X8_push_3 Z I L R a v) (nI 16, pbs I (a + 1) a 1 n v 1) = _
  refine (itC_inl (show B_X8_push_3 Z I L R a v (nI 16, pbs I (a + 1) a 1 n v 1) = _ from push_st (L := L) (s := 16) (by decide) hr hz (pbs_n (t := a + 1) (v := v) hn 1) (by omega))).trans ?_
  show itC (B_X8_push_3 Z I L R a v) (nI 8, pbs I (a + 1) a 1 n v 2) = _
  refine (itC_inl (show B_X8_push_3 Z I L R a v (nI 8, pbs I (a + 1) a 1 n v 2) = _ from push_st (L := L) (s := 8) (by decide) hr hz (pbs_n (t := a + 1) (v := v) hn 2) (by omega))).trans ?_
  show itC (B_X8_push_3 Z I L R a v) (nI 0, pbs I (a + 1) a 1 n v 3) = _
  refine (itC_inl (show B_X8_push_3 Z I L R a v (nI 0, pbs I (a + 1) a 1 n v 3) = _ from push_st (L := L) (s := 0) (by decide) hr hz (pbs_n (t := a + 1) (v := v) hn 3) (by omega))).trans ?_
  show itC (B_X8_push_3 Z I L R a v) (-8, pbs I (a + 1) a 1 n v 4) = _
  exact itC_inr (by unfold B_X8_push_3; rw [if_pos (show ((-8 : Int32)) < 0 by decide)])
theorem four_st {Z : Nat → Nat} {I : I_T} {L : L_T} {R : R_T} {n : Nat} {v : Int32} {s : Nat} (h : s = 24 ∨ s = 16 ∨ s = 8 ∨ s = 0) (r1 : R 68 1 = some 69) (r2 : R 68 2 = some 70) (z1 : Z 69 = 2400) (z2 : Z 70 = 4) (hn : I 70 0 = nI n) (hn2 : n < 600) : B_X11_four_3 Z I L R 68 v (nI s, I) = some (.inl (nI s + -8, pb_ I 69 70 0 n (by_ v s))) := by
  have h1 : ¬ nI s < 0 := nI_pos (by omega)
  have i0 : inb 0 4 = true := rfl
  unfold B_X11_four_3
  simp only [h1, hn, if_false, r1, r2, bs_, z1, z2, i0, if_true, cl_0, inb_nI (show n < 2400 by omega) (show n < 2 ^ 31 by omega), cl_nI (show n < 2 ^ 31 by omega)]
  have e : ∀ x, up2 I 69 n x 70 0 = nI n := fun x => by rw [up2_a (by omega)]; exact hn
  rw [e, nI_1]
  have e2 := by_n v s
  unfold by_ at e2
  rw [e2]
  rfl
theorem four_ok {Z : Nat → Nat} {I : I_T} {L : L_T} {R : R_T} {n : Nat} {v : Int32} (r1 : R 68 1 = some 69) (r2 : R 68 2 = some 70) (z1 : Z 69 = 2400) (z2 : Z 70 = 4) (hn : I 70 0 = nI n) (hn2 : n + 4 ≤ 600) : D_X11_four Z I L R 68 v = some (pbs I 69 70 0 n v 4) := by
  rw [D_X11_four, D_X11_four_3, show (24 : Int32) = nI 24 from rfl]
  show itC (B_X11_four_3 Z I L R 68 v) (nI 24, pbs I 69 70 0 n v 0) = _
  refine (itC_inl (show B_X11_four_3 Z I L R 68 v (nI 24, pbs I 69 70 0 n v 0) = _ from four_st (L := L) (s := 24) (by decide) r1 r2 z1 z2 (pbs_n (t := 69) (v := v) hn 0) (by omega))).trans ?_
  show itC (B_X11_four_3 Z I L R 68 v) (nI 16, pbs I 69 70 0 n v 1) = _
  refine (itC_inl (show B_X11_four_3 Z I L R 68 v (nI 16, pbs I 69 70 0 n v 1) = _ from four_st (L := L) (s := 16) (by decide) r1 r2 z1 z2 (pbs_n (t := 69) (v := v) hn 1) (by omega))).trans ?_
  show itC (B_X11_four_3 Z I L R 68 v) (nI 8, pbs I 69 70 0 n v 2) = _
  refine (itC_inl (show B_X11_four_3 Z I L R 68 v (nI 8, pbs I 69 70 0 n v 2) = _ from four_st (L := L) (s := 8) (by decide) r1 r2 z1 z2 (pbs_n (t := 69) (v := v) hn 2) (by omega))).trans ?_
  show itC (B_X11_four_3 Z I L R 68 v) (nI 0, pbs I 69 70 0 n v 3) = _
  refine (itC_inl (show B_X11_four_3 Z I L R 68 v (nI 0, pbs I 69 70 0 n v 3) = _ from four_st (L := L) (s := 0) (by decide) r1 r2 z1 z2 (pbs_n (t := 69) (v := v) hn 3) (by omega))).trans ?_
  show itC (B_X11_four_3 Z I L R 68 v) (-8, pbs I 69 70 0 n v 4) = _
  exact itC_inr (by unfold B_X11_four_3; rw [if_pos (show ((-8 : Int32)) < 0 by decide)])
theorem pbs_t {I : I_T} {t a c n : Nat} {v : Int32} (h : t ≠ a) : ∀ k i, pbs I t a c n v k t i = if n ≤ i ∧ i < n + k then by_ v (24 - 8 * (i - n)) else I t i
  | 0, i => by rw [if_neg (by omega)]; rfl
  | k + 1, i => by
    show up2 (up2 (pbs I t a c n v k) t (n + k) _) a c _ t i = _
    rw [up2_a h]
    by_cases e : i = n + k
    · subst e
      rw [up2_s, if_pos (by omega), show n + k - n = k by omega]
    · rw [up2_j e, pbs_t h k i]
      by_cases q : n ≤ i ∧ i < n + k
      · rw [if_pos q, if_pos (by omega)]
      · rw [if_neg q, if_neg (by omega)]
theorem pbs_o {I : I_T} {t a c n : Nat} {v : Int32} {b : Nat} (h1 : b ≠ t) (h2 : b ≠ a) : ∀ k, pbs I t a c n v k b = I b
  | 0 => rfl
  | k + 1 => by
    show up2 (up2 (pbs I t a c n v k) t (n + k) _) a c _ b = _
    rw [up2_ne h2, up2_ne h1, pbs_o h1 h2 k]
theorem pbs_a {I : I_T} {t a c n : Nat} {v : Int32} {j : Nat} (h1 : a ≠ t) (h2 : j ≠ c) : ∀ k, pbs I t a c n v k a j = I a j
  | 0 => rfl
  | k + 1 => by
    show up2 (up2 (pbs I t a c n v k) t (n + k) _) a c _ a j = _
    rw [up2_j h2, up2_a h1, pbs_a h1 h2 k]
/-- the five, one behind the other -/
def pb5 (I : I_T) (t a c n : Nat) (f : Nat → Int32) : Nat → I_T
  | 0 => I
  | k + 1 => pbs (pb5 I t a c n f k) t a c (n + 4 * k) (f k) 4
theorem pb5_n {I : I_T} {t a c n : Nat} {f : Nat → Int32} (h : I a c = nI n) : ∀ k, pb5 I t a c n f k a c = nI (n + 4 * k)
  | 0 => h
  | k + 1 => (pbs_n (pb5_n h k) 4).trans (by rw [Nat.mul_succ, Nat.add_assoc])
theorem pb5_t {I : I_T} {t a c n : Nat} {f : Nat → Int32} (h : t ≠ a) : ∀ k i, pb5 I t a c n f k t i = if n ≤ i ∧ i < n + 4 * k then by_ (f ((i - n) / 4)) (24 - 8 * ((i - n) % 4)) else I t i
  | 0, i => by rw [if_neg (by omega)]; rfl
  | k + 1, i => by
    show pbs (pb5 I t a c n f k) t a c (n + 4 * k) (f k) 4 t i = _
    rw [pbs_t h]
    by_cases q : n + 4 * k ≤ i ∧ i < n + 4 * k + 4
    · rw [if_pos q, if_pos (by omega), show (i - n) / 4 = k by omega, show (i - n) % 4 = i - (n + 4 * k) by omega]
    · rw [if_neg q, pb5_t h k i]
      by_cases q2 : n ≤ i ∧ i < n + 4 * k
      · rw [if_pos q2, if_pos (by omega)]
      · rw [if_neg q2, if_neg (by omega)]
theorem pb5_o {I : I_T} {t a c n : Nat} {f : Nat → Int32} {b : Nat} (h1 : b ≠ t) (h2 : b ≠ a) : ∀ k, pb5 I t a c n f k b = I b
  | 0 => rfl
  | k + 1 => (pbs_o h1 h2 4).trans (pb5_o h1 h2 k)
theorem pb5_a {I : I_T} {t a c n : Nat} {f : Nat → Int32} {j : Nat} (h1 : a ≠ t) (h2 : j ≠ c) : ∀ k, pb5 I t a c n f k a j = I a j
  | 0 => rfl
  | k + 1 => (pbs_a h1 h2 4).trans (pb5_a h1 h2 k)
theorem q_feed {sh : sh_T} {I : I_T} {L : L_T} {R : R_T} (h : Inv sh I L R) (x1 x2 x3 x4 x5 : Int32) : ∃ r I1 I2, D_X10_feed sh.2.2 I L R 6 x1 x2 x3 x4 x5 = some (r, I1) ∧ D_X11_feed sh.2.2 I1 L R 68 x1 x2 x3 x4 x5 = some (r, I2) ∧ Inv sh I2 L R := by
  obtain ⟨⟨n, t1, t2, t3, t4⟩, t5, t6, t7⟩ := id h.t
  have i0 : inb 0 (sh.2.2 70) = true := by rw [h.z 70 4 rfl]; rfl
  by_cases hn : 580 < n
  · have g1 : (580 : Int32) < I 7 1 := by rw [t2, show (580 : Int32) = nI 580 from rfl, nI_ltI (by decide) (by omega)]; exact hn
    have g2 : (600 : Int32) < I 70 0 + 20 := by rw [t3, show (600 : Int32) = nI 600 from rfl, show (20 : Int32) = nI 20 from rfl, nI_add, nI_ltI (by decide) (by omega)]; omega
    refine ⟨-1, I, up2 I 68 0 0, by simp [D_X10_feed, h.r 6 0 7 rfl, g1], by simp [D_X11_feed, h.r 68 2 70 rfl, i0, up2_a, g2], h.code 0 0⟩
  · have g1 : ¬ (580 : Int32) < I 7 1 := by rw [t2, show (580 : Int32) = nI 580 from rfl, nI_ltI (by decide) (by omega)]; exact hn
    have g2 : ¬ (600 : Int32) < I 70 0 + 20 := by rw [t3, show (600 : Int32) = nI 600 from rfl, show (20 : Int32) = nI 20 from rfl, nI_add, nI_ltI (by decide) (by omega)]; omega
    generalize hf : (fun k => [x1, x2, x3, x4, x5].getD k 0 : Nat → Int32) = f
    have f0 : f 0 = x1 := by rw [← hf]; rfl
    have f1 : f 1 = x2 := by rw [← hf]; rfl
    have f2 : f 2 = x3 := by rw [← hf]; rfl
    have f3 : f 3 = x4 := by rw [← hf]; rfl
    have f4 : f 4 = x5 := by rw [← hf]; rfl
    have cp : ∀ k, k < 5 → D_X8_push sh.2.2 (pb5 I 8 7 1 n f k) L R 7 (f k) = some (pb5 I 8 7 1 n f (k + 1)) := fun k hk => push_ok (h.r 7 0 8 rfl) (h.z 8 600 rfl) (pb5_n t2 k) (by omega)
    generalize hI1 : pb5 I 8 7 1 n f 5 = I1 at cp
    have e1 : D_X10_feed sh.2.2 I L R 6 x1 x2 x3 x4 x5 = some (nI (n + 20), I1) := by
      have c0 := cp 0 (by omega)
      have c1 := cp 1 (by omega)
      have c2 := cp 2 (by omega)
      have c3 := cp 3 (by omega)
      have c4 := cp 4 (by omega)
      rw [f0] at c0
      rw [f1] at c1
      rw [f2] at c2
      rw [f3] at c3
      rw [f4] at c4
      rw [D_X10_feed, h.r 6 0 7 rfl, bs_, if_neg g1]
      rw [show I = pb5 I 8 7 1 n f 0 from rfl, c0, bs_, c1, bs_, c2, bs_, c3, bs_, c4, bs_, hI1, ← hI1, pb5_n t2]
    have o1 : ∀ b, b ≠ 8 → b ≠ 7 → I1 b = I b := fun b q1 q2 => by rw [← hI1]; exact pb5_o q1 q2 5
    have n1 : up2 I1 68 0 0 70 0 = nI n := by rw [up2_a (by omega), o1 70 (by omega) (by omega)]; exact t3
    have mp : ∀ k, k < 5 → D_X11_four sh.2.2 (pb5 (up2 I1 68 0 0) 69 70 0 n f k) L R 68 (f k) = some (pb5 (up2 I1 68 0 0) 69 70 0 n f (k + 1)) := fun k hk => four_ok (h.r 68 1 69 rfl) (h.r 68 2 70 rfl) (h.z 69 2400 rfl) (h.z 70 4 rfl) (pb5_n n1 k) (by omega)
    generalize hI2 : pb5 (up2 I1 68 0 0) 69 70 0 n f 5 = I2 at mp
    have e2 : D_X11_feed sh.2.2 I1 L R 68 x1 x2 x3 x4 x5 = some (nI (n + 20), I2) := by
      have c0 := mp 0 (by omega)
      have c1 := mp 1 (by omega)
      have c2 := mp 2 (by omega)
      have c3 := mp 3 (by omega)
      have c4 := mp 4 (by omega)
      rw [f0] at c0
      rw [f1] at c1
      rw [f2] at c2
      rw [f3] at c3
      rw [f4] at c4
      have g3 : ¬ (600 : Int32) < up2 I1 68 0 0 70 0 + 20 := by
        rw [up2_a (by omega), o1 70 (by omega) (by omega)]
        exact g2
      rw [D_X11_feed, bs_, h.r 68 2 70 rfl, bs_, if_pos i0, cl_0, if_neg g3]
      have c0' : D_X11_four sh.2.2 (up2 I1 68 0 0) L R 68 x1 = some (pb5 (up2 I1 68 0 0) 69 70 0 n f 1) := c0
      rw [c0', bs_, c1, bs_, c2, bs_, c3, bs_, c4, bs_, if_pos i0, ← hI2, pb5_n n1]
    refine ⟨_, _, _, e1, e2, ?_⟩
    have o2 : ∀ b, b ≠ 68 → b ≠ 69 → b ≠ 70 → I2 b = I1 b := fun b q1 q2 q3 => by rw [← hI2, pb5_o q2 q3 5, up2_ne q1]
    refine h.top ⟨n + 20, by omega, ?_, ?_, fun i hi => ?_⟩ ?_ ?_ (fun a q1 q2 => ?_) (fun a q1 q2 => ?_) (fun a q1 => ?_) (fun m q1 q2 => ?_) (fun i hi => ?_) (fun a q1 q2 => by rw [o2 a (by omega) (by omega) (by omega), o1 a (by omega) (by omega)])
    · rw [o2 7 (by omega) (by omega) (by omega), ← hI1]
      exact pb5_n t2 5
    · rw [← hI2]
      exact pb5_n n1 5
    · have q1 : I2 69 i = if n ≤ i ∧ i < n + 4 * 5 then by_ (f ((i - n) / 4)) (24 - 8 * ((i - n) % 4)) else up2 I1 68 0 0 69 i := by rw [← hI2]; exact pb5_t (by omega) 5 i
      have q2 : I1 8 i = if n ≤ i ∧ i < n + 4 * 5 then by_ (f ((i - n) / 4)) (24 - 8 * ((i - n) % 4)) else I 8 i := by rw [← hI1]; exact pb5_t (by omega) 5 i
      rw [o2 8 (by omega) (by omega) (by omega), q1, q2]
      by_cases q : n ≤ i ∧ i < n + 4 * 5
      · rw [if_pos q, if_pos q]
      · rw [if_neg q, if_neg q, up2_a (by omega), o1 69 (by omega) (by omega)]
        have := t4 i (by omega)
        rwa [Nat.mul_zero, Nat.zero_add] at this
    · rw [o2 7 (by omega) (by omega) (by omega), o2 71 (by omega) (by omega) (by omega), ← hI1, pb5_a (by omega) (by omega), pb5_o (by omega) (by omega)]
      exact t5
    · rw [o2 7 (by omega) (by omega) (by omega), o2 72 (by omega) (by omega) (by omega), ← hI1, pb5_a (by omega) (by omega), pb5_o (by omega) (by omega)]
      exact t6
    · rw [o2 a (by omega) (by omega) (by omega), o1 a (by omega) (by omega)]
    · rw [o2 a (by omega) (by omega) (by omega), o1 a (by omega) (by omega)]
    · rw [o2 a (by omega) (by omega) (by omega), o1 a (by omega) (by omega)]
    · refine ⟨?_, ?_, ?_⟩
      · rw [← hI2, pb5_a (by omega) (by omega), up2_a (by omega), o1 70 (by omega) (by omega)]
      · rw [o2 71 (by omega) (by omega) (by omega), o1 71 (by omega) (by omega)]
      · rw [o2 72 (by omega) (by omega) (by omega), o1 72 (by omega) (by omega)]
    · have q1 : I2 69 i = if n ≤ i ∧ i < n + 4 * 5 then by_ (f ((i - n) / 4)) (24 - 8 * ((i - n) % 4)) else up2 I1 68 0 0 69 i := by rw [← hI2]; exact pb5_t (by omega) 5 i
      rw [q1, if_neg (by omega), up2_a (by omega), o1 69 (by omega) (by omega)]
