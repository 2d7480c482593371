/-! parts and the largest: the model's side; then dig and dam -/
def SoilA (Z : Nat → Nat) (J : I_T) (L : L_T) (R : R_T) (d : ld_T) (s : Nat → Bool) : Prop := ∀ c, c < cs_ d → D_X11_isSoil Z J L R 68 (nI c) = some (bI (s c))
theorem bI_not {a b : Bool} (h : ¬ a = b) : ¬ bI a = bI b := fun z => h (bI_eq.mp z)
theorem Kd_lt {d : ld_T} {s : Nat → Bool} {q : Bool} {c : Nat} (h : c < cs_ d) : Kd d s q c = (s c == q) := by unfold Kd; simp [h]
theorem Kd_ge {d : ld_T} {s : Nat → Bool} {q : Bool} {c : Nat} (h : cs_ d ≤ c) : Kd d s q c = false := by
  unfold Kd
  rw [decide_eq_false (by omega)]
  rfl
theorem mparts_ok {Z : Nat → Nat} {J : I_T} {L : L_T} {R : R_T} {d : ld_T} {s : Nat → Bool} (hd : VD d) (r45 : R 68 45 = some 91) (z91 : Z 91 = 64) (e26 : J 68 26 = nI (cs_ d)) {lab : Nat → Nat} (hl : ∀ c, c < cs_ d → J 91 c = nI (lab c) ∧ lab c ≤ c) (hs : SoilA Z J L R d s) (q : Bool) : D_X11_parts Z J L R 68 (bI q) = some (nI (fb_ct (lead (Kd d s q) lab) 64)) := by
  have h64 := cs_le hd
  have key := itC_count (f := B_X11_parts_4 Z J L R 68 (bI q)) (fun c => (nI (fb_ct (lead (Kd d s q) lab) c), nI c)) (n := cs_ d) (r := nI (fb_ct (lead (Kd d s q) lab) 64)) (fun c hc => ?_) ?_
  · exact key
  · obtain ⟨l1, l2⟩ := hl c hc
    have i1 : inb (nI c) (Z 91) = true := inb_nI (by omega) (by omega)
    have lt : nI c < nI (cs_ d) := (nI_ltI (by omega) (by omega)).mpr hc
    unfold B_X11_parts_4
    simp only [e26, lt, if_true, r45, bs_, i1, cl_nI (show c < 2 ^ 31 by omega), l1]
    rw [fb_ct_succ]
    unfold lead
    rw [Kd_lt hc]
    by_cases a : lab c = c
    · rw [if_pos (by rw [a]), hs c hc, bs_, a]
      by_cases b : s c = q
      · rw [if_pos (by rw [b]), b, nI_1, nI_1]
        simp
      · rw [if_neg (bI_not b), show ((s c == q) && decide (c = c)) = false by simp [b], nI_1]
        show some (Sum.inl (nI _ + nI 0, _)) = _
        rw [nI_add]
        rfl
    · rw [if_neg (fun z => a ((nI_eq (by omega) (by omega)).mp z)), show ((s c == q) && decide (lab c = c)) = false by simp [a], nI_1]
      show some (Sum.inl (nI _ + nI 0, _)) = _
      rw [nI_add]
      rfl
  · unfold B_X11_parts_4
    simp only [e26]
    rw [if_neg Int32.lt_irrefl, ct_gap (q := lead (Kd d s q) lab) h64 (fun c u _ => by unfold lead; rw [Kd_ge u]; rfl)]
theorem mlargest_ok {Z : Nat → Nat} {J : I_T} {L : L_T} {R : R_T} {d : ld_T} {s : Nat → Bool} (hd : VD d) (r45 : R 68 45 = some 91) (z91 : Z 91 = 64) (e26 : J 68 26 = nI (cs_ d)) {lab : Nat → Nat} (hl : ∀ c, c < cs_ d → J 91 c = nI (lab c) ∧ lab c ≤ c) (hs : SoilA Z J L R d s) : D_X11_largest Z J L R 68 = some (nI (mxs (lsz (Kd d s false) lab) 64)) := by
  have h64 := cs_le hd
  have inn : ∀ c m, c < cs_ d → m ≤ 64 → D_X11_largest_17 Z J L R 68 (nI m) (nI c) (0, 0) = some (.inl (nI (max m (lsz (Kd d s false) lab c)), nI (c + 1))) := fun c m hc hm => by
    have sz := lsz_le (Kd d s false) lab c
    have key := itC_count (f := B_X11_largest_17 Z J L R 68 (nI m) (nI c)) (fun o => (nI (fb_ct (fun o => Kd d s false o && decide (lab o = c)) o), nI o)) (n := cs_ d) (r := .inl (nI (max m (lsz (Kd d s false) lab c)), nI (c + 1))) (fun o ho => ?_) ?_
    · exact key
    · obtain ⟨l1, l2⟩ := hl o ho
      have i1 : inb (nI o) (Z 91) = true := inb_nI (by omega) (by omega)
      have lt : nI o < nI (cs_ d) := (nI_ltI (by omega) (by omega)).mpr ho
      unfold B_X11_largest_17
      simp only [e26, lt, if_true, r45, bs_, i1, cl_nI (show o < 2 ^ 31 by omega), l1]
      rw [fb_ct_succ]
      show _ = some (Sum.inl (nI (_ + if (Kd d s false o && decide (lab o = c)) = true then 1 else 0), _))
      rw [Kd_lt ho]
      by_cases a : lab o = c
      · rw [if_pos (by rw [a]), hs o ho, bs_, a]
        cases b : s o with
        | false =>
          rw [if_pos (show bI false = 0 from rfl), nI_1, nI_1]
          simp
        | true =>
          rw [if_neg (show ¬ bI true = 0 by decide), nI_1]
          show some (Sum.inl (nI _ + nI 0, _)) = _
          rw [nI_add]
          simp
      · rw [if_neg (fun z => a ((nI_eq (by omega) (by omega)).mp z)), show ((s o == false) && decide (lab o = c)) = false by simp [a], nI_1]
        show some (Sum.inl (nI _ + nI 0, _)) = _
        rw [nI_add]
        rfl
    · unfold B_X11_largest_17
      simp only [e26]
      have e : fb_ct (fun o => Kd d s false o && decide (lab o = c)) (cs_ d) = lsz (Kd d s false) lab c := (ct_gap (q := fun o => Kd d s false o && decide (lab o = c)) h64 (fun c u _ => by show (Kd d s false c && _) = false; rw [Kd_ge u]; rfl)).symm
      rw [if_neg Int32.lt_irrefl, e, nI_1, D_X11_greater]
      by_cases a : lsz (Kd d s false) lab c < m
      · rw [if_pos ((nI_ltI (by omega) (by omega)).mpr a), bs_, Nat.max_eq_left (by omega)]
      · rw [if_neg (fun z => a ((nI_ltI (by omega) (by omega)).mp z)), bs_, Nat.max_eq_right (by omega)]
  have key := itC_count (f := B_X11_largest_4 Z J L R 68) (fun c => (nI (mxs (lsz (Kd d s false) lab) c), nI c)) (n := cs_ d) (r := nI (mxs (lsz (Kd d s false) lab) 64)) (fun c hc => ?_) ?_
  · exact key
  · have lt : nI c < nI (cs_ d) := (nI_ltI (by omega) (by omega)).mpr hc
    unfold B_X11_largest_4
    simp only [e26, lt, if_true]
    rw [inn c _ hc (mxs_le (lsz_le _ _) c)]
    rfl
  · unfold B_X11_largest_4
    simp only [e26]
    rw [if_neg Int32.lt_irrefl, mxs_gap (f := lsz (Kd d s false) lab) h64 (fun c u _ => by
      refine fb_ct_zero.mpr (fun o _ => ?_)
      by_cases ho : o < cs_ d
      · have := (hl o ho).2
        rw [decide_eq_false (show ¬ lab o = c by omega), Bool.and_false]
      · rw [Kd_ge (by omega)]
        rfl)]
