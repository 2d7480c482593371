/-! meet: the class's side -/
def mt_ (p q : Nat → Nat) (t : Nat) : Bool := decide (p t = q t)
def pss (p q : Nat → Nat) (t : Nat) : Bool := decide (0 < t ∧ p t ≠ q t ∧ p t = q (t - 1) ∧ q t = p (t - 1))
/-- the first, NONE without -/
def fi_ (f : Nat → Bool) : Nat → Int32
  | 0 => -1
  | t + 1 => if f t = true ∧ fi_ f t = -1 then nI t else fi_ f t
/-- the cell of the most, of several the least -/
def bst (T : Nat → Nat) : Nat → Int32 × Nat
  | 0 => (-1, 0)
  | c + 1 => if (bst T c).2 < T c then (nI c, T c) else bst T c
theorem bst_gap {T : Nat → Nat} {b : Nat} : ∀ {m : Nat}, b ≤ m → (∀ c, b ≤ c → c < m → T c = 0) → bst T m = bst T b
  | 0, h, _ => by rw [Nat.le_zero.mp h]
  | m + 1, h, k => by
    rcases Nat.lt_or_ge b (m + 1) with z | z
    · show (if (bst T m).2 < T m then _ else _) = _
      rw [k m (by omega) (by omega), if_neg (by omega), bst_gap (m := m) (by omega) (fun c u v => k c u (by omega))]
    · rw [show m + 1 = b by omega]
theorem bst_le {T : Nat → Nat} {k : Nat} (h : ∀ c, T c ≤ k) : ∀ n, (bst T n).2 ≤ k
  | 0 => Nat.zero_le _
  | n + 1 => by
    have := bst_le h n
    have := h n
    show (if (bst T n).2 < T n then (nI n, T n) else bst T n).2 ≤ k
    split
    · assumption
    · assumption
theorem place_ok {Z : Nat → Nat} {I : I_T} {L : L_T} {R : R_T} (r2 : R 55 2 = some 58) (z58 : Z 58 = 64) {T : Nat → Nat} (hT : ∀ c, T c ≤ 1000) (e : ∀ c, c < 64 → I 58 c = nI (T c)) : D_X4_place Z I L R 55 = some (bst T 64).1 := by
  refine itC_count (f := B_X4_place_6 Z I L R 55) (fun c => ((bst T c).1, nI (bst T c).2, nI c)) (n := 64) (fun c hc => ?_) ?_
  · have bl := bst_le hT c
    have tl := hT c
    unfold B_X4_place_6
    simp only [r2, bs_, z58, cl_nI (show c < 2 ^ 31 by omega), e c hc]
    rw [if_pos ((nI_ltI (by omega) (by omega)).mpr hc), if_pos (inb_nI hc (by omega)), nI_1]
    show _ = some (Sum.inl ((if (bst T c).2 < T c then (nI c, T c) else bst T c).1, nI (if (bst T c).2 < T c then (nI c, T c) else bst T c).2, nI (c + 1)))
    by_cases z : (bst T c).2 < T c
    · rw [if_pos ((nI_ltI (by omega) (by omega)).mpr z), if_pos (inb_nI hc (by omega)), if_pos z]
    · rw [if_neg (fun u => z ((nI_ltI (by omega) (by omega)).mp u)), if_neg z]
  · unfold B_X4_place_6
    simp only [r2, bs_, z58]
    rw [if_neg Int32.lt_irrefl]
theorem meetAt_ok {Z : Nat → Nat} {I : I_T} {L : L_T} {R : R_T} (r0 : R 55 0 = some 56) (r2 : R 55 2 = some 58) (z58 : Z 58 = 64) {t n3 c tc : Nat} (h3 : I 55 3 = nI n3) (hc : I 56 0 = nI c) (c64 : c < 64) (ht : I 58 c = nI tc) : ∃ I', D_X4_meetAt Z I L R 55 (nI t) = some I' ∧ (∀ i, i ≠ 55 → i ≠ 58 → I' i = I i) ∧ I' 55 3 = nI (n3 + 1) ∧ I' 55 5 = (if I 55 5 = -1 then nI t else I 55 5) ∧ (∀ j, j ≠ 3 → j ≠ 5 → I' 55 j = I 55 j) ∧ I' 58 c = nI (tc + 1) ∧ ∀ j, j ≠ c → I' 58 j = I 58 j := by
  have fin : ∀ v : Int32, ∃ I', D_X4_meetAt_27 Z (up2 I 55 3 (nI (n3 + 1))) L R 55 v 55 = some I' ∧ (∀ i, i ≠ 55 → i ≠ 58 → I' i = I i) ∧ I' 55 3 = nI (n3 + 1) ∧ I' 55 5 = v ∧ (∀ j, j ≠ 3 → j ≠ 5 → I' 55 j = I 55 j) ∧ I' 58 c = nI (tc + 1) ∧ ∀ j, j ≠ c → I' 58 j = I 58 j := fun v => by
    rw [D_X4_meetAt_27, bs_, r2, bs_, r0, bs_]
    generalize hK : up2 (up2 I 55 3 (nI (n3 + 1))) 55 5 v = K
    have k56 : K 56 0 = nI c := by rw [← hK, up2_ne (by omega), up2_ne (by omega)]; exact hc
    have k58 : K 58 = I 58 := by rw [← hK, up2_ne (by omega), up2_ne (by omega)]
    rw [k56, get_ok (by rw [z58]; exact c64) (by rw [z58]; decide), bs_, k58, ht, nI_1, put_ok (by rw [z58]; exact c64) (by rw [z58]; decide), bs_]
    refine ⟨_, rfl, fun i i1 i2 => by rw [up2_ne i2, ← hK, up2_ne i1, up2_ne i1], ?_, ?_, fun j j1 j2 => ?_, up2_s _ _ _ _, fun j hj => by rw [up2_j hj, k58]⟩
    · rw [up2_ne (by omega), ← hK, up2_j (by omega), up2_s]
    · rw [up2_ne (by omega), ← hK, up2_s]
    · rw [up2_ne (by omega), ← hK, up2_j j2, up2_j j1]
  rw [D_X4_meetAt, h3, nI_1, bs_]
  rw [show up2 I 55 3 (nI (n3 + 1)) 55 5 = I 55 5 from up2_j (by omega)]
  by_cases z : I 55 5 = -1
  · rw [if_pos z, if_pos z]
    exact fin _
  · rw [if_neg z, if_neg z]
    exact fin _
theorem passAt_ok {Z : Nat → Nat} {I : I_T} {L : L_T} {R : R_T} {t n4 : Nat} (h4 : I 55 4 = nI n4) : ∃ I', D_X4_passAt Z I L R 55 (nI t) = some I' ∧ (∀ i, i ≠ 55 → I' i = I i) ∧ I' 55 4 = nI (n4 + 1) ∧ I' 55 6 = (if I 55 6 = -1 then nI t else I 55 6) ∧ ∀ j, j ≠ 4 → j ≠ 6 → I' 55 j = I 55 j := by
  rw [D_X4_passAt, h4, nI_1, bs_]
  rw [show up2 I 55 4 (nI (n4 + 1)) 55 6 = I 55 6 from up2_j (by omega)]
  by_cases z : I 55 6 = -1
  · rw [if_pos z, if_pos z, bs_]
    exact ⟨_, rfl, fun i hi => by rw [up2_ne hi, up2_ne hi], by rw [up2_j (by omega), up2_s], up2_s _ _ _ _, fun j j1 j2 => by rw [up2_j j2, up2_j j1]⟩
  · rw [if_neg z, if_neg z, bs_]
    exact ⟨_, rfl, fun i hi => by rw [up2_ne hi, up2_ne hi], by rw [up2_j (by omega), up2_s], up2_s _ _ _ _, fun j j1 j2 => by rw [up2_j j2, up2_j j1]⟩
/-- what the class's meeting holds ahead of minute t of m -/
def MS (I' I : I_T) (p q : Nat → Nat) (m t : Nat) : Prop := (∀ i, i ≠ 55 → i ≠ 56 → i ≠ 57 → i ≠ 58 → I' i = I i) ∧ I' 55 3 = nI (fb_ct (mt_ p q) t) ∧ I' 55 5 = fi_ (mt_ p q) t ∧ I' 55 4 = nI (fb_ct (pss p q) (min (t + 1) m)) ∧ I' 55 6 = fi_ (pss p q) (min (t + 1) m) ∧ ∀ c, c < 64 → I' 58 c = nI (fb_ct (fun u => mt_ p q u && decide (p u = c)) t)
theorem meet_loop {Z : Nat → Nat} {I I0 : I_T} {L : L_T} {R : R_T} {a b b2 : Nat} (ha : a < 50) (hb : b < 50) (hb2 : b2 < 50) {d : ld_T} (hd : VD d) (hl : CL I L a d) {n x y n2 x2 y2 : Nat} {e e2 : Nat → Nat → Int32} (v : VRoute n x y e) (hs : CS I b n x y e) (rb : R b 0 = some (b + 1)) (zb : Z (b + 1) = 40) (hx : x < lw d) (hy : y < lh d) (v2 : VRoute n2 x2 y2 e2) (hs2 : CS I b2 n2 x2 y2 e2) (rb2 : R b2 0 = some (b2 + 1)) (zb2 : Z (b2 + 1) = 40) (hx2 : x2 < lw d) (hy2 : y2 < lh d) (r0 : R 55 0 = some 56) (r1 : R 55 1 = some 57) (r2 : R 55 2 = some 58) (z58 : Z 58 = 64) {p q : Nat → Nat} (hp : ∀ t, p t = (rs d n x y e t).1) (hq : ∀ t, q t = (rs d n2 x2 y2 e2 t).1) {m : Nat} (hm : m < 1000) : ∀ k t, t + k = m → ∀ I', MS I' I p q m t → WS I' 56 d n x y e t → WS I' 57 d n2 x2 y2 e2 t → ∃ I'', itC (B_X4_together_49 Z I0 L R 55 a b b2 (nI m)) (nI t, I') = some I'' ∧ MS I'' I p q m m := by
  have h64 := cs_le hd
  intro k
  induction k with
  | zero =>
    intro t ht I' M w w'
    have : t = m := by omega
    subst this
    refine ⟨I', itC_inr ?_, M⟩
    unfold B_X4_together_49
    rw [if_neg Int32.lt_irrefl]
  | succ k ih =>
    intro t ht I' M w w'
    obtain ⟨f, M3, M5, M4, M6, M8⟩ := M
    have pl : p t < cs_ d := by rw [hp]; exact (rs_ok hd v hx hy t).1
    have ql : q t < cs_ d := by rw [hq]; exact (rs_ok hd v2 hx2 hy2 t).1
    have pl1 : p (t + 1) < cs_ d := by rw [hp]; exact (rs_ok hd v hx hy (t + 1)).1
    have ql1 : q (t + 1) < cs_ d := by rw [hq]; exact (rs_ok hd v2 hx2 hy2 (t + 1)).1
    -- behind the meeting of this minute
    have rest : ∀ K : I_T, (∀ i, i ≠ 55 → i ≠ 58 → K i = I' i) → K 55 3 = nI (fb_ct (mt_ p q) (t + 1)) → K 55 5 = fi_ (mt_ p q) (t + 1) → K 55 4 = I' 55 4 → K 55 6 = I' 55 6 → (∀ c, c < 64 → K 58 c = nI (fb_ct (fun u => mt_ p q u && decide (p u = c)) (t + 1))) → ∃ I2, D_X4_together_79 Z K L R 55 a b b2 (nI m) (nI t) = some (.inl (nI (t + 1), I2)) ∧ MS I2 I p q m (t + 1) ∧ WS I2 56 d n x y e (t + 1) ∧ WS I2 57 d n2 x2 y2 e2 (t + 1) := fun K g K3 K5 K4 K6 K8 => by
      have wK : WS K 56 d n x y e t := by unfold WS at w ⊢; rw [g 56 (by omega) (by omega)]; exact w
      have wK' : WS K 57 d n2 x2 y2 e2 t := by unfold WS at w' ⊢; rw [g 57 (by omega) (by omega)]; exact w'
      have kl : ∀ i, i < 55 → K i = I i := fun i hi => by rw [g i (by omega) (by omega), f i (by omega) (by omega) (by omega) (by omega)]
      obtain ⟨K1, p1, p2, p3⟩ := wstep_ok (Z := Z) (R := R) hd (hl.low ha kl) v (hs.low hb kl) rb zb hx hy (by omega) (by omega) wK
      have wK1 : WS K1 57 d n2 x2 y2 e2 t := by unfold WS at wK' ⊢; rw [p2 57 (by omega)]; exact wK'
      have kl1 : ∀ i, i < 55 → K1 i = I i := fun i hi => by rw [p2 i (by omega), kl i hi]
      obtain ⟨K2, s1, s2, s3⟩ := wstep_ok (Z := Z) (R := R) (w := 57) hd (hl.low ha kl1) v2 (hs2.low hb2 kl1) rb2 zb2 hx2 hy2 (by omega) (by omega) wK1
      have kf : ∀ i, i ≠ 56 → i ≠ 57 → K2 i = K i := fun i i1 i2 => by rw [s2 i i2, p2 i i1]
      have c1 : K 56 0 = nI (p t) := by rw [hp]; exact wK.1
      have c2 : K 57 0 = nI (q t) := by rw [hq]; exact wK'.1
      have c3 : K2 56 0 = nI (p (t + 1)) := by rw [s2 56 (by omega), hp]; exact p3.1
      have c4 : K2 57 0 = nI (q (t + 1)) := by rw [hq]; exact s3.1
      have ws : WS K2 56 d n x y e (t + 1) := by unfold WS at p3 ⊢; rw [s2 56 (by omega)]; exact p3
      have byv : pss p q (t + 1) = decide (p (t + 1) = q t ∧ q (t + 1) = p t ∧ p t ≠ q t) := by
        unfold pss
        rw [Nat.add_sub_cancel]
        apply decide_eq_decide.mpr
        constructor
        · rintro ⟨_, h1, h2, h3⟩
          exact ⟨h2, h3, by omega⟩
        · rintro ⟨h1, h2, h3⟩
          exact ⟨by omega, by omega, h1, h2⟩
      have e79 : D_X4_together_79 Z K L R 55 a b b2 (nI m) (nI t) = D_X4_together_151 Z K2 L R 55 a b b2 (nI m) (nI t) (bI (pss p q (t + 1))) := by
        have n150 : D_X4_together_150 Z K2 L R 55 a b b2 (nI m) (nI t) = D_X4_together_151 Z K2 L R 55 a b b2 (nI m) (nI t) (bI false) := by rw [D_X4_together_150]; rfl
        rw [D_X4_together_79, r0, bs_, r1, bs_, p1, bs_, s1, bs_, c1, c2, c3, c4, byv, n150]
        by_cases z1 : p (t + 1) = q t
        · rw [if_pos (by rw [z1])]
          by_cases z2 : q (t + 1) = p t
          · rw [if_pos (by rw [z2])]
            by_cases z3 : p t = q t
            · rw [if_pos (by rw [z3]), decide_eq_false (fun u => u.2.2 z3)]
            · rw [if_neg (fun u => z3 ((nI_eq (by omega) (by omega)).mp u)), decide_eq_true ⟨z1, z2, z3⟩]
              rfl
          · rw [if_neg (fun u => z2 ((nI_eq (by omega) (by omega)).mp u)), decide_eq_false (fun u => z2 u.2.1)]
        · rw [if_neg (fun u => z1 ((nI_eq (by omega) (by omega)).mp u)), decide_eq_false (fun u => z1 u.1)]
      rw [e79, D_X4_together_151, nI_1]
      have frm : ∀ J : I_T, (∀ i, i ≠ 55 → J i = K2 i) → (∀ i, i ≠ 55 → i ≠ 56 → i ≠ 57 → i ≠ 58 → J i = I i) := fun J gj i i1 i2 i3 i4 => by rw [gj i i1, kf i i2 i3, g i i1 i4, f i i1 i2 i3 i4]
      have wsJ : ∀ J : I_T, (∀ i, i ≠ 55 → J i = K2 i) → WS J 56 d n x y e (t + 1) ∧ WS J 57 d n2 x2 y2 e2 (t + 1) := fun J gj => ⟨by unfold WS at ws ⊢; rw [gj 56 (by omega)]; exact ws, by unfold WS at s3 ⊢; rw [gj 57 (by omega)]; exact s3⟩
      have keep : fb_ct (pss p q) (min (t + 1 + 1) m) = fb_ct (pss p q) (min (t + 1) m) → fi_ (pss p q) (min (t + 1 + 1) m) = fi_ (pss p q) (min (t + 1) m) → MS K2 I p q m (t + 1) := fun u1 u2 => ⟨frm K2 (fun _ _ => rfl), by rw [kf 55 (by omega) (by omega)]; exact K3, by rw [kf 55 (by omega) (by omega)]; exact K5, by rw [kf 55 (by omega) (by omega), K4, u1]; exact M4, by rw [kf 55 (by omega) (by omega), K6, u2]; exact M6, fun c hc => by rw [kf 58 (by omega) (by omega)]; exact K8 c hc⟩
      have mm : min (t + 1) m = t + 1 := by omega
      cases ub : pss p q (t + 1) with
      | false =>
        rw [if_pos (show bI false = 0 from rfl)]
        refine ⟨K2, rfl, keep ?_ ?_, wsJ K2 (fun _ _ => rfl)⟩
        · by_cases z : t + 1 < m
          · rw [mm, show min (t + 1 + 1) m = t + 1 + 1 by omega, fb_ct_succ, ub]
            rfl
          · rw [show min (t + 1 + 1) m = min (t + 1) m by omega]
        · by_cases z : t + 1 < m
          · rw [mm, show min (t + 1 + 1) m = t + 1 + 1 by omega]
            show (if pss p q (t + 1) = true ∧ _ then _ else _) = _
            rw [ub, if_neg (fun u => by cases u.1)]
          · rw [show min (t + 1 + 1) m = min (t + 1) m by omega]
      | true =>
        rw [if_neg (show ¬ bI true = 0 by decide)]
        by_cases z : t + 1 < m
        · rw [if_pos ((nI_ltI (by omega) (by omega)).mpr z)]
          have k4 : K2 55 4 = nI (fb_ct (pss p q) (t + 1)) := by rw [kf 55 (by omega) (by omega), K4, M4, mm]
          have k6 : K2 55 6 = fi_ (pss p q) (t + 1) := by rw [kf 55 (by omega) (by omega), K6, M6, mm]
          obtain ⟨K3', o1, o2, o3, o4, o5⟩ := passAt_ok (Z := Z) (I := K2) (L := L) (R := R) (t := t + 1) k4
          rw [o1, bs_]
          refine ⟨K3', rfl, ⟨frm K3' o2, by rw [o5 3 (by omega) (by omega), kf 55 (by omega) (by omega)]; exact K3, by rw [o5 5 (by omega) (by omega), kf 55 (by omega) (by omega)]; exact K5, ?_, ?_, fun c hc => by rw [o2 58 (by omega), kf 58 (by omega) (by omega)]; exact K8 c hc⟩, wsJ K3' o2⟩
          · rw [o3, show min (t + 1 + 1) m = t + 1 + 1 by omega, fb_ct_succ _ (t + 1), ub]
            rfl
          · rw [o4, k6, show min (t + 1 + 1) m = t + 1 + 1 by omega]
            show _ = (if pss p q (t + 1) = true ∧ fi_ (pss p q) (t + 1) = -1 then nI (t + 1) else fi_ (pss p q) (t + 1))
            by_cases z' : fi_ (pss p q) (t + 1) = -1
            · rw [if_pos z', if_pos ⟨ub, z'⟩]
            · rw [if_neg z', if_neg (fun u => z' u.2)]
        · rw [if_neg (fun u => z ((nI_ltI (by omega) (by omega)).mp u))]
          exact ⟨K2, rfl, keep (by rw [show min (t + 1 + 1) m = min (t + 1) m by omega]) (by rw [show min (t + 1 + 1) m = min (t + 1) m by omega]), wsJ K2 (fun _ _ => rfl)⟩
    have lt : nI t < nI m := (nI_ltI (by omega) (by omega)).mpr (by omega)
    have a0 : I' 56 0 = nI (p t) := by rw [hp]; exact w.1
    have a1 : I' 57 0 = nI (q t) := by rw [hq]; exact w'.1
    have step : ∃ I2, B_X4_together_49 Z I0 L R 55 a b b2 (nI m) (nI t, I') = some (.inl (nI (t + 1), I2)) ∧ MS I2 I p q m (t + 1) ∧ WS I2 56 d n x y e (t + 1) ∧ WS I2 57 d n2 x2 y2 e2 (t + 1) := by
      unfold B_X4_together_49
      simp only [lt, if_true, r0, r1, bs_, a0, a1]
      by_cases z : p t = q t
      · obtain ⟨K, o1, o2, o3, o4, o5, o6, o7⟩ := meetAt_ok (Z := Z) (I := I') (L := L) (R := R) (t := t) r0 r2 z58 M3 a0 (by omega) (M8 (p t) (by omega))
        have mz : mt_ p q t = true := decide_eq_true z
        rw [if_pos (by rw [z]), o1, bs_]
        refine rest K o2 (by rw [o3, fb_ct_succ, mz]; rfl) ?_ (o5 4 (by omega) (by omega)) (o5 6 (by omega) (by omega)) (fun c hc => ?_)
        · rw [o4, M5]
          show _ = (if mt_ p q t = true ∧ fi_ (mt_ p q) t = -1 then nI t else fi_ (mt_ p q) t)
          by_cases z' : fi_ (mt_ p q) t = -1
          · rw [if_pos z', if_pos ⟨mz, z'⟩]
          · rw [if_neg z', if_neg (fun u => z' u.2)]
        · rw [fb_ct_succ, mz]
          by_cases cz : p t = c
          · subst cz
            rw [o6]
            simp
          · rw [o7 c (fun u => cz u.symm), M8 c hc, decide_eq_false cz]
            rfl
      · have mz : mt_ p q t = false := decide_eq_false z
        rw [if_neg (fun u => z ((nI_eq (by omega) (by omega)).mp u))]
        refine rest I' (fun _ _ _ => rfl) (by rw [fb_ct_succ, mz]; exact M3) ?_ rfl rfl (fun c hc => by rw [fb_ct_succ, mz]; exact M8 c hc)
        rw [M5]
        show _ = (if mt_ p q t = true ∧ fi_ (mt_ p q) t = -1 then nI t else fi_ (mt_ p q) t)
        rw [mz, if_neg (fun u => by cases u.1)]
    obtain ⟨I2, t1, t2, t3, t4⟩ := step
    obtain ⟨I'', A, B⟩ := ih (t + 1) (by omega) I2 t2 t3 t4
    exact ⟨I'', (itC_inl t1).trans A, B⟩
