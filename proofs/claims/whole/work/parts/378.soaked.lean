/-! soaked -/
def rn_ (s : Nat → Bool) : Nat → Nat
  | 0 => 0
  | t + 1 => if s t = true then rn_ s t + 1 else 0
def lng (s : Nat → Bool) : Nat → Nat
  | 0 => 0
  | t + 1 => max (lng s t) (rn_ s (t + 1))
theorem rn_le (s : Nat → Bool) : ∀ t, rn_ s t ≤ t
  | 0 => Nat.le_refl _
  | t + 1 => by
    have := rn_le s t
    show (if s t = true then rn_ s t + 1 else 0) ≤ t + 1
    split <;> omega
theorem lng_le (s : Nat → Bool) : ∀ t, lng s t ≤ t
  | 0 => Nat.le_refl _
  | t + 1 => by
    have := lng_le s t
    have := rn_le s (t + 1)
    show max (lng s t) (rn_ s (t + 1)) ≤ t + 1
    omega
theorem alone_loop {Z : Nat → Nat} {I I0 : I_T} {L : L_T} {R : R_T} {a b : Nat} (ha : a < 50) (hb : b < 50) {d : ld_T} (hd : VD d) (hl : CL I L a d) {n x y : Nat} {e : Nat → Nat → Int32} (v : VRoute n x y e) (hs : CS I b n x y e) (rb : R b 0 = some (b + 1)) (zb : Z (b + 1) = 40) (hx : x < lw d) (hy : y < lh d) (r0 : R 55 0 = some 56) {l : Nat} {wd : Int64} (xk : isS wd (Kd d (slv d l) false)) {m : Nat} (hm : m < 1000) : ∀ k t, t + k = m → ∀ I', (∀ i, i ≠ 55 → i ≠ 56 → I' i = I i) → WS I' 56 d n x y e t → I' 55 7 = nI (fb_ct (fun u => !slv d l (rs d n x y e u).1) t) → I' 55 8 = nI (lng (fun u => slv d l (rs d n x y e u).1) t) → ∃ I'', itC (B_X4_alone_35 Z I0 L R 55 a b (nI m) wd) (nI (rn_ (fun u => slv d l (rs d n x y e u).1) t), nI t, I') = some I'' ∧ (∀ i, i ≠ 55 → i ≠ 56 → I'' i = I i) ∧ I'' 55 7 = nI (fb_ct (fun u => !slv d l (rs d n x y e u).1) m) ∧ I'' 55 8 = nI (lng (fun u => slv d l (rs d n x y e u).1) m) := by
  have h64 := cs_le hd
  intro k
  induction k with
  | zero =>
    intro t ht I' f w w7 w8
    have : t = m := by omega
    subst this
    refine ⟨I', itC_inr ?_, f, w7, w8⟩
    unfold B_X4_alone_35
    rw [if_neg Int32.lt_irrefl]
  | succ k ih =>
    intro t ht I' f w w7 w8
    have rl := (rs_ok hd v hx hy t).1
    have stp : ∀ J : I_T, (∀ i, i ≠ 55 → J i = I' i) → J 55 7 = nI (fb_ct (fun u => !slv d l (rs d n x y e u).1) (t + 1)) → J 55 8 = nI (lng (fun u => slv d l (rs d n x y e u).1) (t + 1)) → ∃ J2, D_X4_alone_88 Z J L R 55 a b (nI m) wd (nI (rn_ (fun u => slv d l (rs d n x y e u).1) (t + 1))) (nI t) = some (.inl (nI (rn_ (fun u => slv d l (rs d n x y e u).1) (t + 1)), nI (t + 1), J2)) ∧ (∀ i, i ≠ 55 → i ≠ 56 → J2 i = I i) ∧ WS J2 56 d n x y e (t + 1) ∧ J2 55 7 = nI (fb_ct (fun u => !slv d l (rs d n x y e u).1) (t + 1)) ∧ J2 55 8 = nI (lng (fun u => slv d l (rs d n x y e u).1) (t + 1)) := fun J g g7 g8 => by
      have wJ : WS J 56 d n x y e t := by
        unfold WS at w ⊢
        rw [g 56 (by omega)]
        exact w
      obtain ⟨J2, p1, p2, p3⟩ := wstep_ok (Z := Z) (R := R) hd (hl.keep (I' := J) (L' := L) (fun k hk => ⟨by rw [g _ (by omega), f _ (by omega) (by omega)], rfl⟩)) v (hs.keep (I' := J) (by rw [g _ (by omega), f _ (by omega) (by omega)]) (by rw [g _ (by omega), f _ (by omega) (by omega)])) rb zb hx hy (by omega) (by omega) wJ
      refine ⟨J2, ?_, fun i i1 i2 => by rw [p2 i i2, g i i1, f i i1 i2], p3, by rw [p2 55 (by omega)]; exact g7, by rw [p2 55 (by omega)]; exact g8⟩
      rw [D_X4_alone_88, r0, bs_, p1, bs_, nI_1]
    have w0 : I' 56 0 = nI (rs d n x y e t).1 := w.1
    have lt : nI t < nI m := (nI_ltI (by omega) (by omega)).mpr (by omega)
    cases q : slv d l (rs d n x y e t).1 with
    | false =>
      have r1 : rn_ (fun u => slv d l (rs d n x y e u).1) (t + 1) = 0 := by
        show (if slv d l (rs d n x y e t).1 = true then _ else 0) = 0
        rw [q]
        rfl
      have l1 : lng (fun u => slv d l (rs d n x y e u).1) (t + 1) = lng (fun u => slv d l (rs d n x y e u).1) t := by
        show max _ _ = _
        rw [r1]
        omega
      obtain ⟨J2, p1, p2, p3, p4, p5⟩ := stp (up2 I' 55 7 (nI (fb_ct (fun u => !slv d l (rs d n x y e u).1) t + 1))) (fun i hi => up2_ne hi) (by rw [up2_s, fb_ct_succ, q]; rfl) (by rw [up2_j (by omega), l1]; exact w8)
      obtain ⟨I'', A, B⟩ := ih (t + 1) (by omega) J2 p2 p3 p4 p5
      refine ⟨I'', (itC_inl ?_).trans A, B⟩
      rw [r1] at p1 ⊢
      unfold B_X4_alone_35
      simp only [lt, if_true, r0, bs_, w0]
      rw [has_ok (by omega), bs_, xk _ (by omega), Kd_lt rl, q, if_neg (show ¬ bI (false == false) = 0 by decide), w7, nI_1]
      exact p1
    | true =>
      have r1 : rn_ (fun u => slv d l (rs d n x y e u).1) (t + 1) = rn_ (fun u => slv d l (rs d n x y e u).1) t + 1 := by
        show (if slv d l (rs d n x y e t).1 = true then _ else 0) = _
        rw [q]
        rfl
      have rle := rn_le (fun u => slv d l (rs d n x y e u).1) t
      have lle := lng_le (fun u => slv d l (rs d n x y e u).1) t
      obtain ⟨J2, p1, p2, p3, p4, p5⟩ := stp (up2 I' 55 8 (nI (lng (fun u => slv d l (rs d n x y e u).1) (t + 1)))) (fun i hi => up2_ne hi) (by rw [up2_j (by omega), fb_ct_succ, q]; exact w7) (by rw [up2_s])
      obtain ⟨I'', A, B⟩ := ih (t + 1) (by omega) J2 p2 p3 p4 p5
      refine ⟨I'', (itC_inl ?_).trans A, B⟩
      unfold B_X4_alone_35
      simp only [lt, if_true, r0, bs_, w0]
      have lx : lng (fun u => slv d l (rs d n x y e u).1) (t + 1) = max (lng (fun u => slv d l (rs d n x y e u).1) t) (rn_ (fun u => slv d l (rs d n x y e u).1) t + 1) := by
        rw [← r1]
        rfl
      rw [has_ok (by omega), bs_, xk _ (by omega), Kd_lt rl, q, if_pos (show bI (true == false) = 0 from rfl), w8, nI_1, imax_nI (by omega) (by omega), ← lx, ← r1]
      exact p1
theorem soak_loop {Z : Nat → Nat} {J : I_T} {L : L_T} {R : R_T} {d : ld_T} (hd : VD d) (r54 : R 68 54 = some 97) (z97 : Z 97 = 2000) {s : Nat → Bool} (hs : SoilA Z J L R d s) {p : Nat → Nat} (hp : ∀ t, t < 1000 → J 97 t = nI (p t) ∧ p t < cs_ d) {m : Nat} (hm : m < 1000) (w : Int32) : itC (B_X11_soaked_47 Z J L R 68 (nI m) w) (0, 0, 0, 0) = some (if w = 0 then nI (fb_ct (fun u => !s (p u)) m) else nI (lng (fun u => s (p u)) m), J) := by
  refine itC_count (f := B_X11_soaked_47 Z J L R 68 (nI m) w) (fun t => (nI (fb_ct (fun u => !s (p u)) t), nI (rn_ (fun u => s (p u)) t), nI (lng (fun u => s (p u)) t), nI t)) (n := m) (fun t ht => ?_) ?_
  · obtain ⟨p1, p2⟩ := hp t (by omega)
    have lt : nI t < nI m := (nI_ltI (by omega) (by omega)).mpr ht
    have i97 : inb (nI t) (Z 97) = true := inb_nI (by omega) (by omega)
    have rle := rn_le (fun u => s (p u)) t
    have lle := lng_le (fun u => s (p u)) t
    have gm : ∀ a b : Nat, a < 2 ^ 31 → b < 2 ^ 31 → (if nI a < nI b then nI b else nI a) = nI (max a b) := fun a b ha hb => by
      by_cases z : a < b
      · rw [if_pos ((nI_ltI ha hb).mpr z), Nat.max_eq_right (by omega)]
      · rw [if_neg (fun u => z ((nI_ltI ha hb).mp u)), Nat.max_eq_left (by omega)]
    unfold B_X11_soaked_47
    simp only [lt, if_true, r54, bs_, i97, cl_nI (show t < 2 ^ 31 by omega), p1]
    rw [hs _ p2, bs_, fb_ct_succ]
    show _ = some (Sum.inl (_, nI (if s (p t) = true then rn_ (fun u => s (p u)) t + 1 else 0), nI (max (lng (fun u => s (p u)) t) (if s (p t) = true then rn_ (fun u => s (p u)) t + 1 else 0)), nI (t + 1)))
    cases q : s (p t) with
    | false =>
      rw [if_pos (show bI false = 0 from rfl), D_X11_soaked_78, if_pos (show bI false = 0 from rfl), D_X11_soaked_94, greater_ok, bs_, show (0 : Int32) = nI 0 from rfl, gm _ _ (by omega) (by omega), nI_1, nI_1]
      rfl
    | true =>
      rw [if_neg (show ¬ bI true = 0 by decide), D_X11_soaked_78, if_neg (show ¬ bI true = 0 by decide), D_X11_soaked_94, greater_ok, bs_, nI_1, gm _ _ (by omega) (by omega), nI_1, show (0 : Int32) = nI 0 from rfl, nI_add]
      rfl
  · unfold B_X11_soaked_47
    rw [if_neg Int32.lt_irrefl]
    by_cases z : w = 0
    · rw [if_pos z, if_pos z]
    · rw [if_neg z, if_neg z]
