/-! watch: the loops -/
theorem L3_ok {Z : Nat → Nat} {I0 Ib : I_T} {L : L_T} {R : R_T} {d : ld_T} {s : Nat → Bool} (hd : VD d) {x : Int64} (xk : isS x (Kd d s false)) (r0 : R 63 0 = some 64) (r2 : R 63 2 = some 65) (z64 : Z 64 = 3) (z65 : Z 65 = 64) {V : Nat → Int64} (hV : ∀ c, c < 64 → L 65 c = V c) (r46 : R 68 46 = some 92) (r47 : R 68 47 = some 93) (r48 : R 68 48 = some 94) (z92 : Z 92 = 64) (z93 : Z 93 = 64) (z94 : Z 94 = 3) {L' : L_T} (hV' : ∀ c, c < cs_ d → L' 92 c = V c) {a b : Nat} (ha : a < cs_ d) (hb : b < cs_ d) (pa : Kd d s false a = true) (pb : Kd d s false b = true) (ab : a < b) : ∀ k c, c + k = 64 → b < c → ∀ bb I', (∀ i, i ≠ 64 → I' i = I0 i) → ∃ b' I'', itC (B_X3_postThree_27 Z Ib L R 63 x (nI a) (nI b)) (bb, nI c, I') = some (b', I'') ∧ (∀ i, i ≠ 64 → I'' i = I0 i) ∧ (¬ bb < 0 → ¬ b' < 0) ∧ ((∃ e, c ≤ e ∧ e < 64 ∧ Kd d s false e = true) → ¬ b' < 0) ∧ ∀ J0 J Jb : I_T, WF_ d s J0 → BF J0 J → MR J bb (I' 64) → ∃ J', itC (B_X11_findWatch_150 Z Jb L' R 68 (nI 3) (nI (rk_ d s a)) (nI (rk_ d s b))) (nI (rk_ d s c), J) = some (.inl (nI (rk_ d s b + 1), J')) ∧ BF J0 J' ∧ MR J' b' (I'' 64) := by
  have h64 := cs_le hd
  have r6 : rk_ d s 64 ≤ 64 := fb_ct_le _ 64
  intro k
  induction k with
  | zero =>
    intro c hc bc bb I' f
    have : c = 64 := by omega
    subst this
    refine ⟨bb, I', itC_inr ?_, f, fun h => h, fun ⟨e, e1, e2, _⟩ => by omega, fun J0 J Jb w bf mr => ⟨J, itC_inr ?_, bf, mr⟩⟩
    · unfold B_X3_postThree_27
      rw [if_neg (show ¬ nI 64 < 64 by decide)]
    · unfold B_X11_findWatch_150
      simp only [bf.2 49 (by omega), w.1]
      rw [if_neg Int32.lt_irrefl, nI_1]
  | succ k ih =>
    intro c hc bc bb I' f
    have lt : nI c < 64 := (nl_lt (k := 64) (j := 64) rfl (by omega) (by omega)).mpr (by omega)
    cases pc : Kd d s false c with
    | false =>
      obtain ⟨b', I'', A, B, C, D, E⟩ := ih (c + 1) (by omega) (by omega) bb I' f
      refine ⟨b', I'', (itC_inl ?_).trans A, B, C, fun ⟨e, e1, e2, e3⟩ => D ⟨e, by
        by_cases z : e = c
        · subst z
          rw [pc] at e3
          cases e3
        · omega, e2, e3⟩, fun J0 J Jb w bf mr => ?_⟩
      · unfold B_X3_postThree_27
        rw [if_pos lt, has_ok (by omega), bs_, xk c (by omega), pc, if_pos (show bI false = 0 from rfl), nI_1]
      · rw [← rk_n pc]
        exact E J0 J Jb w bf mr
    | true =>
      have cc : c < cs_ d := by
        rcases Nat.lt_or_ge c (cs_ d) with z | z
        · exact z
        · rw [Kd_ge z] at pc
          cases pc
      obtain ⟨I1, o1, o2, o3⟩ := offer_ok (Z := Z) (I := I') (L := L) (R := R) r0 r2 z64 z65 hV (b := bb) (p := nI a) (q := nI b) (r := nI c) (x := V a) (y := V b) (z := V c) (Or.inl ⟨a, by omega, rfl, rfl⟩) (Or.inl ⟨b, by omega, rfl, rfl⟩) (Or.inl ⟨c, by omega, rfl, rfl⟩)
      have hit : ¬ (cof bb (I' 64) (cnt ((V a ||| V b) ||| V c)) (nI a) (nI b) (nI c)).1 < 0 := cof_hit (by have := cnt_le ((V a ||| V b) ||| V c); omega)
      obtain ⟨b', I'', A, B, C, D, E⟩ := ih (c + 1) (by omega) (by omega) _ I1 (fun i hi => by rw [o2 i hi]; exact f i hi)
      refine ⟨b', I'', (itC_inl ?_).trans A, B, fun _ => C hit, fun _ => C hit, fun J0 J Jb w bf mr => ?_⟩
      · unfold B_X3_postThree_27
        rw [if_pos lt, has_ok (by omega), bs_, xk c (by omega), pc, if_neg (show ¬ bI true = 0 by decide), o1, bs_, nI_1]
      · have ne1 : ¬ rk_ d s b = rk_ d s a := fun z => by
          have e := rk_s pa
          have := fb_ct_mono (Kd d s false) (m := a + 1) (n := b) (by omega)
          have e' : fb_ct (Kd d s false) (a + 1) = fb_ct (Kd d s false) a + 1 := e
          have z' : fb_ct (Kd d s false) b = fb_ct (Kd d s false) a := z
          omega
        have ne2 : ¬ rk_ d s c = rk_ d s b := fun z => by
          have e := rk_s pb
          have := fb_ct_mono (Kd d s false) (m := b + 1) (n := c) (by omega)
          have e' : fb_ct (Kd d s false) (b + 1) = fb_ct (Kd d s false) b + 1 := e
          have z' : fb_ct (Kd d s false) c = fb_ct (Kd d s false) b := z
          omega
        obtain ⟨J1, t1, t2, t3⟩ := tries_ok (Z := Z) (L := L') (R := R) hd r46 r47 r48 z92 z93 z94 hV' w bf mr pa pb pc ha hb cc
        rw [if_neg ne1, if_neg ne2] at t3
        obtain ⟨J', P, Q⟩ := E J0 J1 Jb w t2 (by rw [o3]; exact t3)
        rw [rk_s pc] at P
        refine ⟨J', (itC_inl ?_).trans P, Q⟩
        have lc := rk_lt (show c < 64 by omega) pc
        unfold B_X11_findWatch_150
        simp only [bf.2 49 (by omega), w.1]
        rw [if_pos ((nI_ltI (by omega) (by omega)).mpr lc), if_pos (show (2 : Int32) < nI 3 by decide), D_X11_findWatch_171, t1, bs_, nI_1]
/-- few watchers: one try with the last index -/
theorem S3_ok {Z : Nat → Nat} {J0 J Jb : I_T} {L' : L_T} {R : R_T} {d : ld_T} {s : Nat → Bool} (hd : VD d) (r46 : R 68 46 = some 92) (r47 : R 68 47 = some 93) (r48 : R 68 48 = some 94) (z92 : Z 92 = 64) (z93 : Z 93 = 64) (z94 : Z 94 = 3) {V : Nat → Int64} (hV' : ∀ c, c < cs_ d → L' 92 c = V c) (w : WF_ d s J0) (bf : BF J0 J) {bb : Int32} {T : Nat → Int32} (mr : MR J bb T) {a b mm : Nat} (hm : mm < 3) (ha : a < cs_ d) (hb : b < cs_ d) (pa : Kd d s false a = true) (pb : Kd d s false b = true) : ∃ J', D_X11_findWatch_134 Z J L' R 68 (nI mm) (nI (rk_ d s a)) (nI (rk_ d s b)) = some (.inl (nI (rk_ d s b + 1), J')) ∧ BF J0 J' ∧ MR J' (cof bb T (cnt ((V a ||| V b) ||| V b)) (nI a) (if rk_ d s b = rk_ d s a then -1 else nI b) (-1)).1 (cof bb T (cnt ((V a ||| V b) ||| V b)) (nI a) (if rk_ d s b = rk_ d s a then -1 else nI b) (-1)).2 := by
  have h64 := cs_le hd
  have r6 : rk_ d s 64 ≤ 64 := fb_ct_le _ 64
  have lb := rk_lt (show b < 64 by omega) pb
  obtain ⟨J1, t1, t2, t3⟩ := tries_ok (Z := Z) (L := L') (R := R) hd r46 r47 r48 z92 z93 z94 hV' w bf mr pa pb pb ha hb hb
  rw [if_pos (show rk_ d s b = rk_ d s b from rfl)] at t3
  refine ⟨J1, ?_, t2, t3⟩
  rw [D_X11_findWatch_134, if_pos ((nl_lt (k := 3) (j := 3) rfl (by omega) (by omega)).mpr hm)]
  refine (itC_inl (s' := (nI (rk_ d s b + 1), J1)) ?_).trans (itC_inr ?_)
  · unfold B_X11_findWatch_150
    simp only [bf.2 49 (by omega), w.1]
    rw [if_pos ((nI_ltI (by omega) (by omega)).mpr lb), if_neg (fun u => by have := (ln_lt (k := 2) (j := 2) rfl (by omega) (by omega)).mp u; omega), if_pos trivial, D_X11_findWatch_171, t1, bs_, nI_1]
  · unfold B_X11_findWatch_150
    simp only [t2.2 49 (by omega), w.1]
    rw [if_neg (show ¬ (2 : Int32) < nI mm from fun u => by have := (ln_lt (k := 2) (j := 2) rfl (by omega) (by omega)).mp u; omega), if_neg (show ¬ nI (rk_ d s b + 1) = nI (rk_ d s b) from fun u => by have := (nI_eq (by omega) (by omega)).mp u; omega), nI_1, ite_self]
theorem L2_ok {Z : Nat → Nat} {I0 Ib : I_T} {L : L_T} {R : R_T} {d : ld_T} {s : Nat → Bool} (hd : VD d) {x : Int64} (xk : isS x (Kd d s false)) (r0 : R 63 0 = some 64) (r2 : R 63 2 = some 65) (z64 : Z 64 = 3) (z65 : Z 65 = 64) {V : Nat → Int64} (hV : ∀ c, c < 64 → L 65 c = V c) (r46 : R 68 46 = some 92) (r47 : R 68 47 = some 93) (r48 : R 68 48 = some 94) (z92 : Z 92 = 64) (z93 : Z 93 = 64) (z94 : Z 94 = 3) {L' : L_T} (hV' : ∀ c, c < cs_ d → L' 92 c = V c) {a mm : Nat} (m1 : 2 ≤ mm) (m3 : mm ≤ 3) (ha : a < cs_ d) (pa : Kd d s false a = true) : ∀ k c, c + k = 64 → a < c → ∀ bb I', (∀ i, i ≠ 64 → I' i = I0 i) → ∃ b' I'', itC (B_X3_postTwo_26 Z Ib L R 63 x (nI mm) (nI a)) (bb, nI c, I') = some (b', I'') ∧ (∀ i, i ≠ 64 → I'' i = I0 i) ∧ (¬ bb < 0 → ¬ b' < 0) ∧ (rk_ d s c + (mm - 1) ≤ rk_ d s 64 → ¬ b' < 0) ∧ ∀ J0 J Jb : I_T, WF_ d s J0 → BF J0 J → MR J bb (I' 64) → ∃ J', itC (B_X11_findWatch_114 Z Jb L' R 68 (nI mm) (nI (rk_ d s a))) (nI (rk_ d s c), J) = some (.inl (nI (rk_ d s a + 1), J')) ∧ BF J0 J' ∧ MR J' b' (I'' 64) := by
  have h64 := cs_le hd
  have r6 : rk_ d s 64 ≤ 64 := fb_ct_le _ 64
  intro k
  induction k with
  | zero =>
    intro c hc ac bb I' f
    have : c = 64 := by omega
    subst this
    refine ⟨bb, I', itC_inr ?_, f, fun h => h, fun h => by omega, fun J0 J Jb w bf mr => ⟨J, itC_inr ?_, bf, mr⟩⟩
    · unfold B_X3_postTwo_26
      rw [if_neg (show ¬ nI 64 < 64 by decide)]
    · unfold B_X11_findWatch_114
      simp only [bf.2 49 (by omega), w.1]
      rw [if_neg Int32.lt_irrefl, nI_1]
  | succ k ih =>
    intro c hc ac bb I' f
    have lt : nI c < 64 := (nl_lt (k := 64) (j := 64) rfl (by omega) (by omega)).mpr (by omega)
    cases pc : Kd d s false c with
    | false =>
      obtain ⟨b', I'', A, B, C, D, E⟩ := ih (c + 1) (by omega) (by omega) bb I' f
      refine ⟨b', I'', (itC_inl ?_).trans A, B, C, fun h => D (by rw [rk_n pc]; exact h), fun J0 J Jb w bf mr => ?_⟩
      · unfold B_X3_postTwo_26
        rw [if_pos lt, has_ok (by omega), bs_, xk c (by omega), pc, if_pos (show bI false = 0 from rfl), nI_1]
      · rw [← rk_n pc]
        exact E J0 J Jb w bf mr
    | true =>
      have cc : c < cs_ d := by
        rcases Nat.lt_or_ge c (cs_ d) with z | z
        · exact z
        · rw [Kd_ge z] at pc
          cases pc
      have lc := rk_lt (show c < 64 by omega) pc
      have ne1 : ¬ rk_ d s c = rk_ d s a := fun z => by
        have e := rk_s pa
        have := fb_ct_mono (Kd d s false) (m := a + 1) (n := c) (by omega)
        have e' : fb_ct (Kd d s false) (a + 1) = fb_ct (Kd d s false) a + 1 := e
        have z' : fb_ct (Kd d s false) c = fb_ct (Kd d s false) a := z
        omega
      -- what stands behind the first post
      have three : ∃ b1 I1, D_X3_postThree Z I' L R 63 x (nI mm) (nI a) (nI c) bb = some (b1, I1) ∧ (∀ i, i ≠ 64 → I1 i = I0 i) ∧ (¬ bb < 0 → ¬ b1 < 0) ∧ (rk_ d s c + (mm - 1) ≤ rk_ d s 64 → ¬ b1 < 0) ∧ ∀ J0 J : I_T, WF_ d s J0 → BF J0 J → MR J bb (I' 64) → ∃ J', D_X11_findWatch_134 Z J L' R 68 (nI mm) (nI (rk_ d s a)) (nI (rk_ d s c)) = some (.inl (nI (rk_ d s c + 1), J')) ∧ BF J0 J' ∧ MR J' b1 (I1 64) := by
        by_cases z : mm = 2
        · subst z
          obtain ⟨I1, o1, o2, o3⟩ := offer_ok (Z := Z) (I := I') (L := L) (R := R) r0 r2 z64 z65 hV (b := bb) (p := nI a) (q := nI c) (r := -1) (x := V a) (y := V c) (z := 0) (Or.inl ⟨a, by omega, rfl, rfl⟩) (Or.inl ⟨c, by omega, rfl, rfl⟩) (Or.inr ⟨rfl, rfl⟩)
          have e : (V a ||| V c) ||| 0 = (V a ||| V c) ||| V c := tb_ext (fun i hi => by simp only [tb_or, tb_0]; cases tb (V a) i <;> cases tb (V c) i <;> rfl)
          have hit : ¬ (cof bb (I' 64) (cnt ((V a ||| V c) ||| 0)) (nI a) (nI c) (-1)).1 < 0 := cof_hit (by have := cnt_le ((V a ||| V c) ||| 0); omega)
          refine ⟨_, I1, ?_, fun i hi => by rw [o2 i hi]; exact f i hi, fun _ => hit, fun _ => hit, fun J0 J w bf mr => ?_⟩
          · rw [D_X3_postThree, if_pos (show nI 2 = 2 from rfl), o1, bs_]
          · obtain ⟨J', t1, t2, t3⟩ := S3_ok (Z := Z) (Jb := J) (R := R) hd r46 r47 r48 z92 z93 z94 hV' w bf mr (mm := 2) (by omega) ha cc pa pc
            rw [if_neg ne1, ← e] at t3
            exact ⟨J', t1, t2, by rw [o3]; exact t3⟩
        · have z3 : mm = 3 := by omega
          subst z3
          obtain ⟨b1, I1, A, B, C, D, E⟩ := L3_ok (Ib := I') hd xk r0 r2 z64 z65 hV r46 r47 r48 z92 z93 z94 hV' ha cc pa pc ac (64 - (c + 1)) (c + 1) (by omega) (by omega) bb I' f
          refine ⟨b1, I1, ?_, B, C, fun h => D ?_, fun J0 J w bf mr => ?_⟩
          · rw [D_X3_postThree, if_neg (show ¬ nI 3 = 2 by decide), nI_1]
            exact A
          · refine Classical.byContradiction fun no => ?_
            have g : rk_ d s 64 = rk_ d s (c + 1) := ct_gap (by omega) (fun e e1 e2 => by
              cases u : Kd d s false e with
              | false => rfl
              | true => exact (no ⟨e, e1, e2, u⟩).elim)
            rw [rk_s pc] at g
            omega
          · obtain ⟨J', P, Q⟩ := E J0 J J w bf mr
            rw [rk_s pc] at P
            refine ⟨J', ?_, Q⟩
            rw [D_X11_findWatch_134, if_neg (show ¬ nI 3 < 3 by decide), nI_1]
            exact P
      obtain ⟨b1, I1, o1, o2, o3, o4, o5⟩ := three
      obtain ⟨b', I'', A, B, C, D, E⟩ := ih (c + 1) (by omega) (by omega) b1 I1 o2
      refine ⟨b', I'', (itC_inl ?_).trans A, B, fun h => C (o3 h), fun h => C (o4 h), fun J0 J Jb w bf mr => ?_⟩
      · unfold B_X3_postTwo_26
        rw [if_pos lt, has_ok (by omega), bs_, xk c (by omega), pc, if_neg (show ¬ bI true = 0 by decide), o1, bs_, nI_1]
      · obtain ⟨J1, t1, t2, t3⟩ := o5 J0 J w bf mr
        obtain ⟨J', P, Q⟩ := E J0 J1 Jb w t2 t3
        rw [rk_s pc] at P
        refine ⟨J', (itC_inl ?_).trans P, Q⟩
        unfold B_X11_findWatch_114
        simp only [bf.2 49 (by omega), w.1]
        rw [if_pos ((nI_ltI (by omega) (by omega)).mpr lc), if_pos ((ln_lt (k := 1) (j := 1) rfl (by omega) (by omega)).mpr (by omega))]
        exact t1
theorem L1_ok {Z : Nat → Nat} {I0 Ib : I_T} {L : L_T} {R : R_T} {d : ld_T} {s : Nat → Bool} (hd : VD d) {x : Int64} (xk : isS x (Kd d s false)) (r0 : R 63 0 = some 64) (r2 : R 63 2 = some 65) (z64 : Z 64 = 3) (z65 : Z 65 = 64) {V : Nat → Int64} (hV : ∀ c, c < 64 → L 65 c = V c) (r46 : R 68 46 = some 92) (r47 : R 68 47 = some 93) (r48 : R 68 48 = some 94) (z92 : Z 92 = 64) (z93 : Z 93 = 64) (z94 : Z 94 = 3) {L' : L_T} (hV' : ∀ c, c < cs_ d → L' 92 c = V c) {mm : Nat} (m1 : 1 ≤ mm) (m3 : mm ≤ 3) : ∀ k c, c + k = 64 → ∀ bb I', (∀ i, i ≠ 64 → I' i = I0 i) → ∃ b' I'', itC (B_X3_post_84 Z Ib L R 63 x (nI mm)) (bb, nI c, I') = some (up2 I'' 63 1 (imax b' 0), L) ∧ (∀ i, i ≠ 64 → I'' i = I0 i) ∧ (¬ bb < 0 → ¬ b' < 0) ∧ (rk_ d s c + mm ≤ rk_ d s 64 → ¬ b' < 0) ∧ ∀ J0 J Jb : I_T, WF_ d s J0 → BF J0 J → MR J bb (I' 64) → ∃ J', itC (B_X11_findWatch_92 Z Jb L' R 68 (nI mm)) (nI (rk_ d s c), J) = some (J', L') ∧ BF J0 J' ∧ MR J' b' (I'' 64) := by
  have h64 := cs_le hd
  have r6 : rk_ d s 64 ≤ 64 := fb_ct_le _ 64
  intro k
  induction k with
  | zero =>
    intro c hc bb I' f
    have : c = 64 := by omega
    subst this
    refine ⟨bb, I', itC_inr ?_, f, fun h => h, fun h => by omega, fun J0 J Jb w bf mr => ⟨J, itC_inr ?_, bf, mr⟩⟩
    · unfold B_X3_post_84
      rw [if_neg (show ¬ nI 64 < 64 by decide), D_X3_post_124, bs_, bs_]
    · unfold B_X11_findWatch_92
      simp only [bf.2 49 (by omega), w.1]
      rw [if_neg Int32.lt_irrefl]
  | succ k ih =>
    intro c hc bb I' f
    have lt : nI c < 64 := (nl_lt (k := 64) (j := 64) rfl (by omega) (by omega)).mpr (by omega)
    have mp : (0 : Int32) < nI mm := (ln_lt (k := 0) (j := 0) rfl (by omega) (by omega)).mpr (by omega)
    cases pc : Kd d s false c with
    | false =>
      obtain ⟨b', I'', A, B, C, D, E⟩ := ih (c + 1) (by omega) bb I' f
      refine ⟨b', I'', (itC_inl ?_).trans A, B, C, fun h => D (by rw [rk_n pc]; exact h), fun J0 J Jb w bf mr => ?_⟩
      · unfold B_X3_post_84
        rw [if_pos lt, if_pos mp, has_ok (by omega), bs_, xk c (by omega), pc, if_pos (show bI false = 0 from rfl), nI_1]
      · rw [← rk_n pc]
        exact E J0 J Jb w bf mr
    | true =>
      have cc : c < cs_ d := by
        rcases Nat.lt_or_ge c (cs_ d) with z | z
        · exact z
        · rw [Kd_ge z] at pc
          cases pc
      have lc := rk_lt (show c < 64 by omega) pc
      have two : ∃ b1 I1, D_X3_postTwo Z I' L R 63 x (nI mm) (nI c) bb = some (b1, I1) ∧ (∀ i, i ≠ 64 → I1 i = I0 i) ∧ (¬ bb < 0 → ¬ b1 < 0) ∧ (rk_ d s c + mm ≤ rk_ d s 64 → ¬ b1 < 0) ∧ ∀ J0 J : I_T, WF_ d s J0 → BF J0 J → MR J bb (I' 64) → ∃ J', (if nI mm < 2 then (D_X11_findWatch_114 Z J L' R 68 (nI mm) (nI (rk_ d s c)) (nI (rk_ d s c), J)) else (D_X11_findWatch_114 Z J L' R 68 (nI mm) (nI (rk_ d s c)) (nI (rk_ d s c) + (1), J))) = some (.inl (nI (rk_ d s c + 1), J')) ∧ BF J0 J' ∧ MR J' b1 (I1 64) := by
        by_cases z : mm = 1
        · subst z
          obtain ⟨I1, o1, o2, o3⟩ := offer_ok (Z := Z) (I := I') (L := L) (R := R) r0 r2 z64 z65 hV (b := bb) (p := nI c) (q := -1) (r := -1) (x := V c) (y := 0) (z := 0) (Or.inl ⟨c, by omega, rfl, rfl⟩) (Or.inr ⟨rfl, rfl⟩) (Or.inr ⟨rfl, rfl⟩)
          have e : (V c ||| 0) ||| 0 = (V c ||| V c) ||| V c := tb_ext (fun i hi => by simp only [tb_or, tb_0]; cases tb (V c) i <;> rfl)
          have hit : ¬ (cof bb (I' 64) (cnt ((V c ||| 0) ||| 0)) (nI c) (-1) (-1)).1 < 0 := cof_hit (by have := cnt_le ((V c ||| 0) ||| 0); omega)
          refine ⟨_, I1, ?_, fun i hi => by rw [o2 i hi]; exact f i hi, fun _ => hit, fun _ => hit, fun J0 J w bf mr => ?_⟩
          · rw [D_X3_postTwo, if_pos (show nI 1 = 1 from rfl), o1, bs_]
          · obtain ⟨J', t1, t2, t3⟩ := S3_ok (Z := Z) (Jb := J) (R := R) hd r46 r47 r48 z92 z93 z94 hV' w bf mr (mm := 1) (by omega) cc cc pc pc
            rw [if_pos (show rk_ d s c = rk_ d s c from rfl), ← e] at t3
            refine ⟨J', ?_, t2, by rw [o3]; exact t3⟩
            rw [if_pos (show nI 1 < 2 by decide)]
            refine (itC_inl (s' := (nI (rk_ d s c + 1), J')) ?_).trans (itC_inr ?_)
            · unfold B_X11_findWatch_114
              simp only [bf.2 49 (by omega), w.1]
              rw [if_pos ((nI_ltI (by omega) (by omega)).mpr lc), if_neg (show ¬ (1 : Int32) < nI 1 by decide), if_pos trivial]
              exact t1
            · unfold B_X11_findWatch_114
              simp only [t2.2 49 (by omega), w.1]
              rw [if_neg (show ¬ (1 : Int32) < nI 1 by decide), if_neg (show ¬ nI (rk_ d s c + 1) = nI (rk_ d s c) from fun u => by have := (nI_eq (by omega) (by omega)).mp u; omega), nI_1, ite_self]
        · obtain ⟨b1, I1, A, B, C, D, E⟩ := L2_ok (Ib := I') hd xk r0 r2 z64 z65 hV r46 r47 r48 z92 z93 z94 hV' (mm := mm) (by omega) m3 cc pc (64 - (c + 1)) (c + 1) (by omega) (by omega) bb I' f
          refine ⟨b1, I1, ?_, B, C, fun h => D (by rw [rk_s pc]; omega), fun J0 J w bf mr => ?_⟩
          · rw [D_X3_postTwo, if_neg (fun u => z ((nl_eq (k := 1) (j := 1) rfl (by omega) (by omega)).mp u)), nI_1]
            exact A
          · obtain ⟨J', P, Q⟩ := E J0 J J w bf mr
            rw [rk_s pc] at P
            refine ⟨J', ?_, Q⟩
            rw [if_neg (fun u => by have := (nl_lt (k := 2) (j := 2) rfl (by omega) (by omega)).mp u; omega), nI_1]
            exact P
      obtain ⟨b1, I1, o1, o2, o3, o4, o5⟩ := two
      obtain ⟨b', I'', A, B, C, D, E⟩ := ih (c + 1) (by omega) b1 I1 o2
      refine ⟨b', I'', (itC_inl ?_).trans A, B, fun h => C (o3 h), fun h => C (o4 h), fun J0 J Jb w bf mr => ?_⟩
      · unfold B_X3_post_84
        rw [if_pos lt, if_pos mp, has_ok (by omega), bs_, xk c (by omega), pc, if_neg (show ¬ bI true = 0 by decide), o1, bs_, nI_1]
      · obtain ⟨J1, t1, t2, t3⟩ := o5 J0 J w bf mr
        obtain ⟨J', P, Q⟩ := E J0 J1 Jb w t2 t3
        rw [rk_s pc] at P
        refine ⟨J', (itC_inl ?_).trans P, Q⟩
        unfold B_X11_findWatch_92
        simp only [bf.2 49 (by omega), w.1]
        rw [if_pos ((nI_ltI (by omega) (by omega)).mpr lc)]
        exact t1
