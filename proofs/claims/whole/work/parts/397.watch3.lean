/-! watch: the call -/
theorem cnt_kf {d : ld_T} {s : Nat → Bool} {x : Int64} (hx : isS x (Kd d s false)) : cnt x = rk_ d s 64 := fb_ct_cong (fun i hi => hx i hi)
theorem imin_nI {a b : Nat} (ha : a < 2 ^ 31) (hb : b < 2 ^ 31) : imin (nI a) (nI b) = nI (min a b) := by
  unfold imin
  by_cases z : b < a
  · rw [if_pos ((nI_ltI hb ha).mpr z), Nat.min_eq_right (by omega)]
  · rw [if_neg (fun u => z ((nI_ltI hb ha).mp u)), Nat.min_eq_left (by omega)]
theorem views_ok {Z : Nat → Nat} {I Ib : I_T} {L : L_T} {R : R_T} {a : Nat} (ha : a < 50) {d : ld_T} {s : Nat → Bool} (hd : VD d) (hl : CL I L a d) {x : Int64} (xk : isS x (Kd d s false)) (r2 : R 63 2 = some 65) (z65 : Z 65 = 64) {V : Nat → Int64} (hV : ∀ c, c < cs_ d → Kd d s false c = true → ∀ L' : L_T, CL I L' a d → D_X3_view Z I L' R a x (nI c) = some (V c)) (h0 : ∀ c, Kd d s false c = false → V c = 0) {m : Int32} (ok : ∀ L'' : L_T, (∀ i, i ≠ 65 → L'' i = L i) → (∀ e, e < 64 → L'' 65 e = V e) → ∃ y, D_X3_post_84 Z I L'' R 63 x m (-1, 0, I) = some y) : ∀ k c, c + k = 64 → ∀ L' : L_T, (∀ i, i ≠ 65 → L' i = L i) → (∀ e, e < c → L' 65 e = V e) → ∃ L'' : L_T, itC (B_X3_post_35 Z I L R 63 a x m) (nI c, L') = (D_X3_post_84 Z I L'' R 63 x m (-1, 0, I)) ∧ (∀ i, i ≠ 65 → L'' i = L i) ∧ ∀ e, e < 64 → L'' 65 e = V e := by
  have h64 := cs_le hd
  intro k
  induction k with
  | zero =>
    intro c hc L' f g
    have : c = 64 := by omega
    subst this
    refine ⟨L', ?_, f, g⟩
    obtain ⟨y, e⟩ := ok L' f g
    rw [e]
    refine itC_inr ?_
    unfold B_X3_post_35
    rw [r2, bs_, z65, if_neg Int32.lt_irrefl, e, bs_]
  | succ k ih =>
    intro c hc L' f g
    have lt : nI c < nI 64 := (nI_ltI (by omega) (by omega)).mpr (by omega)
    have put : ∀ v : Int64, v = V c → ∃ L'' : L_T, itC (B_X3_post_35 Z I L R 63 a x m) (nI (c + 1), up2 L' 65 c v) = (D_X3_post_84 Z I L'' R 63 x m (-1, 0, I)) ∧ (∀ i, i ≠ 65 → L'' i = L i) ∧ ∀ e, e < 64 → L'' 65 e = V e := fun v hv => ih (c + 1) (by omega) _ (fun i hi => by rw [up2_ne hi]; exact f i hi) (fun e he => by
      by_cases z : e = c
      · subst z
        rw [up2_s, hv]
      · rw [up2_j z]
        exact g e (by omega))
    cases pc : Kd d s false c with
    | false =>
      obtain ⟨L'', A, B⟩ := put 0 (h0 c pc).symm
      refine ⟨L'', (itC_inl ?_).trans A, B⟩
      unfold B_X3_post_35
      rw [r2, bs_, z65, if_pos lt, has_ok (by omega), bs_, xk c (by omega), pc, if_pos (show bI false = 0 from rfl), if_pos (inb_nI (by omega) (by omega)), bs_, cl_nI (by omega), nI_1]
    | true =>
      have cc : c < cs_ d := by
        rcases Nat.lt_or_ge c (cs_ d) with z | z
        · exact z
        · rw [Kd_ge z] at pc
          cases pc
      obtain ⟨L'', A, B⟩ := put (V c) rfl
      refine ⟨L'', (itC_inl ?_).trans A, B⟩
      unfold B_X3_post_35
      rw [r2, bs_, z65, if_pos lt, has_ok (by omega), bs_, xk c (by omega), pc, if_neg (show ¬ bI true = 0 by decide), hV c cc pc L' (hl.keep (fun k hk => ⟨rfl, f _ (by omega)⟩)), bs_, if_pos (inb_nI (by omega) (by omega)), bs_, cl_nI (by omega), nI_1]
theorem mviews_ok {sh : sh_T} {I J0 : I_T} {L : L_T} {R : R_T} (h : Inv sh I L R) {d : ld_T} (hd : VD d) {l : Nat} (hl9 : l ≤ 9) (e25 : J0 68 25 = nI (lw d)) (e26 : J0 68 26 = nI (cs_ d)) (e27 : J0 68 27 = nI l) (e31 : J0 68 31 = -1) (e80 : ∀ c, c < cs_ d → J0 80 c = nI (d 6 c)) {V : Nat → Int64} (hV : ∀ c, c < cs_ d → ∀ (J : I_T) (L' : L_T), J 68 25 = nI (lw d) → J 68 26 = nI (cs_ d) → SoilA sh.2.2 J L' R d (slv d l) → Kd d (slv d l) false c = true → D_X11_seenFrom sh.2.2 J L' R 68 (nI c) = some (V c)) (h0 : ∀ c, Kd d (slv d l) false c = false → V c = 0) {Lb L0 : L_T} {n : Nat} (hn : n < 2 ^ 31) (ok : ∀ (J : I_T) (L' : L_T), (∀ i, i ≠ 68 → i ≠ 93 → J i = J0 i) → (∀ j, j ≠ 49 → j ≠ 50 → J 68 j = J0 68 j) → (∀ i, i ≠ 92 → L' i = L0 i) → WF_ d (slv d l) J → (∀ c, c < cs_ d → L' 92 c = V c) → J 68 50 = -1 → ∃ y, D_X11_findWatch_92 sh.2.2 J L' R 68 (nI (min n (rk_ d (slv d l) 64))) (0, J) = some y) {Jb : I_T} : ∀ k c, c + k = cs_ d → ∀ (J : I_T) (L' : L_T), (∀ i, i ≠ 68 → i ≠ 93 → J i = J0 i) → (∀ j, j ≠ 49 → J 68 j = J0 68 j) → J 68 49 = nI (rk_ d (slv d l) c) → (∀ e, e < c → Kd d (slv d l) false e = true → J 93 (rk_ d (slv d l) e) = nI e) → (∀ i, i ≠ 92 → L' i = L0 i) → (∀ e, e < c → L' 92 e = V e) → ∃ J' L'', (∀ i, i ≠ 68 → i ≠ 93 → J' i = J0 i) ∧ (∀ j, j ≠ 49 → j ≠ 50 → J' 68 j = J0 68 j) ∧ (∀ i, i ≠ 92 → L'' i = L0 i) ∧ WF_ d (slv d l) J' ∧ (∀ c, c < cs_ d → L'' 92 c = V c) ∧ J' 68 50 = -1 ∧ itC (B_X11_findWatch_7 sh.2.2 Jb Lb R 68 (nI n)) (nI c, J, L') = D_X11_findWatch_92 sh.2.2 J' L'' R 68 (nI (min n (rk_ d (slv d l) 64))) (0, J') := by
  have h64 := cs_le hd
  have z92 : sh.2.2 92 = 64 := h.z 92 64 rfl
  have z93 : sh.2.2 93 = 64 := h.z 93 64 rfl
  intro k
  induction k with
  | zero =>
    intro c hc J L' f g f49 f93 fl f92
    have : c = cs_ d := by omega
    subst this
    have rk : rk_ d (slv d l) (cs_ d) = rk_ d (slv d l) 64 := (ct_gap h64 (fun c u _ => Kd_ge u)).symm
    have r6 : rk_ d (slv d l) 64 ≤ 64 := fb_ct_le _ 64
    have w : WF_ d (slv d l) (up2 J 68 50 (-1)) := ⟨by rw [up2_j (by omega), ← rk]; exact f49, fun e he pe => by rw [up2_ne (by omega)]; exact f93 e he pe⟩
    have a1 : ∀ i, i ≠ 68 → i ≠ 93 → up2 J 68 50 (-1) i = J0 i := fun i i1 i2 => by rw [up2_ne i1]; exact f i i1 i2
    have a2 : ∀ j, j ≠ 49 → j ≠ 50 → up2 J 68 50 (-1) 68 j = J0 68 j := fun j j1 j2 => by rw [up2_j j2]; exact g j j1
    obtain ⟨y, e⟩ := ok (up2 J 68 50 (-1)) L' a1 a2 fl w (fun c hc => f92 c hc) (up2_s _ _ _ _)
    refine ⟨_, L', a1, a2, fl, w, f92, up2_s _ _ _ _, ?_⟩
    rw [e]
    refine itC_inr ?_
    have f26 : J 68 26 = nI (cs_ d) := by rw [g 26 (by omega)]; exact e26
    have le : D_X11_lesser sh.2.2 J L' R (nI n) (J 68 49) = some (nI (min n (rk_ d (slv d l) 64))) := by
      rw [f49, rk, D_X11_lesser]
      by_cases z : n < rk_ d (slv d l) 64
      · rw [if_pos ((nI_ltI hn (by omega)).mpr z), Nat.min_eq_left (by omega)]
      · rw [if_neg (fun u => z ((nI_ltI hn (by omega)).mp u)), Nat.min_eq_right (by omega)]
    unfold B_X11_findWatch_7
    simp only [f26]
    rw [if_neg Int32.lt_irrefl, le, bs_, bs_, e, bs_]
  | succ k ih =>
    intro c hc J L' f g f49 f93 fl f92
    have cl : c < cs_ d := by omega
    have f26 : J 68 26 = nI (cs_ d) := by rw [g 26 (by omega)]; exact e26
    have lt : nI c < nI (cs_ d) := (nI_ltI (by omega) (by omega)).mpr cl
    have rc : rk_ d (slv d l) c ≤ c := fb_ct_le _ c
    have so : ∀ (K : I_T) (L2 : L_T), (∀ i, i ≠ 68 → i ≠ 93 → K i = J0 i) → (∀ j, j ≠ 49 → K 68 j = J0 68 j) → SoilA sh.2.2 K L2 R d (slv d l) := fun K L2 fk gk i hi => soil_ok h hd hl9 hi (by rw [gk 27 (by omega)]; exact e27) (by rw [gk 31 (by omega)]; exact e31) (by rw [fk 80 (by omega) (by omega)]; exact e80 i hi)
    have kp : Kd d (slv d l) false c = !slv d l c := by
      rw [Kd_lt cl]
      cases slv d l c <;> rfl
    have put : ∀ v : Int64, v = V c → ∃ K, D_X11_findWatch_37 sh.2.2 J L' R 68 (nI n) (nI c) v (nI c) 92 = some (.inl (nI (c + 1), K, up2 L' 92 c v)) ∧ (∀ i, i ≠ 68 → i ≠ 93 → K i = J0 i) ∧ (∀ j, j ≠ 49 → K 68 j = J0 68 j) ∧ K 68 49 = nI (rk_ d (slv d l) (c + 1)) ∧ ∀ e, e < c + 1 → Kd d (slv d l) false e = true → K 93 (rk_ d (slv d l) e) = nI e := fun v hv => by
      have iw : inb (nI (rk_ d (slv d l) c)) (sh.2.2 93) = true := inb_nI (by omega) (by omega)
      have s1 := so (up2 J 93 (rk_ d (slv d l) c) (nI c)) (up2 L' 92 c v) (fun i i1 i2 => by rw [up2_ne i2]; exact f i i1 i2) (fun j hj => by rw [up2_ne (by omega)]; exact g j hj) c cl
      rw [D_X11_findWatch_37, z92, if_pos (inb_nI (by omega) (by omega)), cl_nI (by omega), bs_, h.r 68 47 93 rfl, bs_, f49, if_pos iw, cl_nI (by omega), bs_, s1, bs_]
      have e49 : up2 J 93 (rk_ d (slv d l) c) (nI c) 68 49 = nI (rk_ d (slv d l) c) := by rw [up2_ne (by omega)]; exact f49
      rw [e49]
      have r93 : ∀ e, e < c + 1 → Kd d (slv d l) false e = true → up2 J 93 (rk_ d (slv d l) c) (nI c) 93 (rk_ d (slv d l) e) = nI e := fun e he pe => by
        by_cases z : e = c
        · subst z
          exact up2_s _ _ _ _
        · have r1 := rk_s pe
          have r2 := fb_ct_mono (Kd d (slv d l) false) (m := e + 1) (n := c) (by omega)
          have r1' : fb_ct (Kd d (slv d l) false) (e + 1) = fb_ct (Kd d (slv d l) false) e + 1 := r1
          rw [up2_j (show rk_ d (slv d l) e ≠ rk_ d (slv d l) c from fun z => by
            have z' : fb_ct (Kd d (slv d l) false) e = fb_ct (Kd d (slv d l) false) c := z
            omega)]
          exact f93 e (by omega) pe
      cases sc : slv d l c with
      | false =>
        have pc : Kd d (slv d l) false c = true := by rw [kp, sc]; rfl
        rw [if_pos (show bI false = 0 from rfl), bs_, nI_1, nI_1]
        exact ⟨_, rfl, fun i i1 i2 => by rw [up2_ne i1, up2_ne i2]; exact f i i1 i2, fun j hj => by rw [up2_j hj, up2_ne (by omega)]; exact g j hj, by rw [up2_s, rk_s pc], fun e he pe => by rw [up2_ne (by omega)]; exact r93 e he pe⟩
      | true =>
        have pc : Kd d (slv d l) false c = false := by rw [kp, sc]; rfl
        rw [if_neg (show ¬ bI true = 0 by decide), bs_, nI_1]
        exact ⟨_, rfl, fun i i1 i2 => by rw [up2_ne i1, up2_ne i2]; exact f i i1 i2, fun j hj => by rw [up2_j hj, up2_ne (by omega)]; exact g j hj, by rw [up2_s, rk_n pc]; show nI _ + nI 0 = _; rw [nI_add]; rfl, fun e he pe => by rw [up2_ne (by omega)]; exact r93 e he pe⟩
    have nxt : ∀ v : Int64, v = V c → B_X11_findWatch_7 sh.2.2 Jb Lb R 68 (nI n) (nI c, J, L') = D_X11_findWatch_37 sh.2.2 J L' R 68 (nI n) (nI c) v (nI c) 92 → ∃ J' L'', (∀ i, i ≠ 68 → i ≠ 93 → J' i = J0 i) ∧ (∀ j, j ≠ 49 → j ≠ 50 → J' 68 j = J0 68 j) ∧ (∀ i, i ≠ 92 → L'' i = L0 i) ∧ WF_ d (slv d l) J' ∧ (∀ c, c < cs_ d → L'' 92 c = V c) ∧ J' 68 50 = -1 ∧ itC (B_X11_findWatch_7 sh.2.2 Jb Lb R 68 (nI n)) (nI c, J, L') = D_X11_findWatch_92 sh.2.2 J' L'' R 68 (nI (min n (rk_ d (slv d l) 64))) (0, J') := fun v hv e => by
      obtain ⟨K, p1, p2, p3, p4, p5⟩ := put v hv
      obtain ⟨J', L'', q1, q2, q3, q4, q5, q6, q7⟩ := ih (c + 1) (by omega) K (up2 L' 92 c v) p2 p3 p4 p5 (fun i hi => by rw [up2_ne hi]; exact fl i hi) (fun e he => by
        by_cases z : e = c
        · subst z
          rw [up2_s, hv]
        · rw [up2_j z]
          exact f92 e (by omega))
      exact ⟨J', L'', q1, q2, q3, q4, q5, q6, (itC_inl (e.trans p1)).trans q7⟩
    cases sc : slv d l c with
    | false =>
      have pc : Kd d (slv d l) false c = true := by rw [kp, sc]; rfl
      refine nxt (V c) rfl ?_
      unfold B_X11_findWatch_7
      simp only [f26]
      rw [if_pos lt, h.r 68 46 92 rfl, bs_, so J L' f g c cl, bs_, sc, if_pos (show bI false = 0 from rfl), hV c cl J L' (by rw [g 25 (by omega)]; exact e25) f26 (so J L' f g) pc, bs_]
    | true =>
      have pc : Kd d (slv d l) false c = false := by rw [kp, sc]; rfl
      refine nxt 0 (h0 c pc).symm ?_
      unfold B_X11_findWatch_7
      simp only [f26]
      rw [if_pos lt, h.r 68 46 92 rfl, bs_, so J L' f g c cl, bs_, sc, if_neg (show ¬ bI true = 0 by decide)]
