/-! moored: the words of neighbours, and the call -/
abbrev rB (d : ld_T) (s : Nat → Bool) (c : Nat) : Nat := fb_ct (sl_ (bkB d s)) c
theorem sl_lt {d : ld_T} {s : Nat → Bool} {c : Nat} (h : sl_ (bkB d s) c = true) : c < cs_ d := by
  unfold sl_ at h
  rw [Bool.and_eq_true] at h
  exact bkB_lt h.1
theorem rB_s {d : ld_T} {s : Nat → Bool} {c : Nat} (h : sl_ (bkB d s) c = true) : rB d s (c + 1) = rB d s c + 1 := by
  show fb_ct _ (c + 1) = _
  rw [fb_ct_succ, h]
  rfl
theorem rB_n {d : ld_T} {s : Nat → Bool} {c : Nat} (h : sl_ (bkB d s) c = false) : rB d s (c + 1) = rB d s c := by
  show fb_ct _ (c + 1) = _
  rw [fb_ct_succ, h]
  rfl
theorem rB_14 {d : ld_T} {s : Nat → Bool} (c : Nat) : rB d s c ≤ 14 := by
  have := sl_ct (bkB d s) c
  show fb_ct _ c ≤ 14
  omega
theorem rB_lt {d : ld_T} {s : Nat → Bool} {c : Nat} (hc : c < 64) (h : sl_ (bkB d s) c = true) : rB d s c < rB d s 64 := by
  have e := rB_s h
  have := fb_ct_mono (sl_ (bkB d s)) (m := c + 1) (n := 64) (by omega)
  have e' : fb_ct (sl_ (bkB d s)) (c + 1) = fb_ct (sl_ (bkB d s)) c + 1 := e
  show fb_ct _ c < fb_ct _ 64
  omega
theorem mword_ok {Z : Nat → Nat} {J0 Jb : I_T} {L : L_T} {R : R_T} {d : ld_T} {s : Nat → Bool} (hd : VD d) (r51 : R 68 51 = some 95) (r52 : R 68 52 = some 96) (z95 : Z 95 = 14) (z96 : Z 96 = 14) (e25 : J0 68 25 = nI (lw d)) (e26 : J0 68 26 = nI (cs_ d)) (e95 : ∀ e, sl_ (bkB d s) e = true → J0 95 (rB d s e) = nI e) {v : Int32} {c : Nat} (sc : sl_ (bkB d s) c = true) : ∀ m e, e + m = 64 → ∀ J : I_T, (∀ i, i ≠ 96 → J i = J0 i) → J 96 (rB d s c) = pw_ (bkB d s) (ajB d c) e → ∃ J', itC (B_X11_moored_81 Z Jb L R 68 v (nI (rB d s 64)) (nI (rB d s c))) (nI (rB d s e), J) = some (.inl (nI (rB d s c + 1), J')) ∧ (∀ i, i ≠ 96 → J' i = J0 i) ∧ (∀ j, j ≠ rB d s c → J' 96 j = J 96 j) ∧ J' 96 (rB d s c) = pw_ (bkB d s) (ajB d c) 64 := by
  have h64 := cs_le hd
  have cl := sl_lt sc
  have c14 := rB_14 (d := d) (s := s) 64
  have cN := rB_lt (show c < 64 by omega) sc
  intro m
  induction m with
  | zero =>
    intro e he J f g
    have : e = 64 := by omega
    subst this
    refine ⟨J, itC_inr ?_, f, fun _ _ => rfl, g⟩
    unfold B_X11_moored_81
    rw [if_neg Int32.lt_irrefl, nI_1]
  | succ m ih =>
    intro e he J f g
    cases se : sl_ (bkB d s) e with
    | false =>
      obtain ⟨J', A, B⟩ := ih (e + 1) (by omega) J f (by
        show _ = (if sl_ (bkB d s) e = true ∧ ajB d c e = true then _ else pw_ (bkB d s) (ajB d c) e)
        rw [if_neg (fun u => by rw [se] at u; cases u.1)]
        exact g)
      rw [rB_n se] at A
      exact ⟨J', A, B⟩
    | true =>
      have el := sl_lt se
      have eN := rB_lt (show e < 64 by omega) se
      have ic96 : inb (nI (rB d s c)) (Z 96) = true := inb_nI (by omega) (by omega)
      have ic95 : inb (nI (rB d s c)) (Z 95) = true := inb_nI (by omega) (by omega)
      have ie95 : inb (nI (rB d s e)) (Z 95) = true := inb_nI (by omega) (by omega)
      have bs := isBeside_ok (Z := Z) (J := J) (L := L) (R := R) hd (by rw [f 68 (by omega)]; exact e25) (by rw [f 68 (by omega)]; exact e26) cl el
      have st : B_X11_moored_81 Z Jb L R 68 v (nI (rB d s 64)) (nI (rB d s c)) (nI (rB d s e), J) = some (.inl (nI (rB d s e + 1), up2 J 96 (rB d s c) (pw_ (bkB d s) (ajB d c) (e + 1)))) := by
        unfold B_X11_moored_81
        rw [if_pos ((nI_ltI (by omega) (by omega)).mpr eN), r52, bs_, if_pos ic96, r51, bs_, if_pos ic95, if_pos ie95, cl_nI (by omega), cl_nI (by omega)]
        rw [show (nI (rB d s e), J).2 95 (rB d s c) = nI c by rw [show (nI (rB d s e), J).2 95 (rB d s c) = J 95 (rB d s c) from rfl, f 95 (by omega)]; exact e95 c sc, show (nI (rB d s e), J).2 95 (rB d s e) = nI e by rw [show (nI (rB d s e), J).2 95 (rB d s e) = J 95 (rB d s e) from rfl, f 95 (by omega)]; exact e95 e se]
        rw [show D_X11_isBeside Z (nI (rB d s e), J).2 L R 68 (nI c) (nI e) = _ from bs, bs_, if_pos ic96, if_pos ic96, bs_, bs_, nI_1]
        rw [show (nI (rB d s e), J).2 96 (rB d s c) = pw_ (bkB d s) (ajB d c) e from g]
        show _ = some (Sum.inl (_, up2 J 96 (rB d s c) (if sl_ (bkB d s) e = true ∧ ajB d c e = true then pw_ (bkB d s) (ajB d c) e ||| ((1 : Int32) <<< (nI (rB d s e) &&& 31)) else pw_ (bkB d s) (ajB d c) e)))
        cases q : ajB d c e with
        | false =>
          rw [if_pos (show bI false = 0 from rfl), if_neg (fun u => by cases u.2), Int32.or_zero]
        | true =>
          rw [if_neg (show ¬ bI true = 0 by decide), if_pos ⟨se, rfl⟩]
      obtain ⟨J', A, B, C, D⟩ := ih (e + 1) (by omega) (up2 J 96 (rB d s c) (pw_ (bkB d s) (ajB d c) (e + 1))) (fun i hi => by rw [up2_ne hi]; exact f i hi) (up2_s _ _ _ _)
      rw [rB_s se] at A
      exact ⟨J', (itC_inl st).trans A, B, fun j hj => by rw [C j hj, up2_j hj], D⟩
theorem mwords_ok {Z : Nat → Nat} {J0 Jb : I_T} {L : L_T} {R : R_T} {d : ld_T} {s : Nat → Bool} (hd : VD d) (r51 : R 68 51 = some 95) (r52 : R 68 52 = some 96) (z95 : Z 95 = 14) (z96 : Z 96 = 14) (e25 : J0 68 25 = nI (lw d)) (e26 : J0 68 26 = nI (cs_ d)) (e95 : ∀ e, sl_ (bkB d s) e = true → J0 95 (rB d s e) = nI e) {v : Int32} {W : Nat → Int32} (hW : ∀ c, sl_ (bkB d s) c = true → W (rB d s c) = pw_ (bkB d s) (ajB d c) 64) : ∀ m c, c + m = 64 → ∀ J : I_T, (∀ i, i ≠ 96 → J i = J0 i) → (∀ e, e < c → sl_ (bkB d s) e = true → J 96 (rB d s e) = W (rB d s e)) → ∃ J', itC (B_X11_moored_64 Z Jb L R 68 v (nI (rB d s 64))) (nI (rB d s c), J) = some (if v = 0 then nI (popc (best_ W (rB d s 64) (2 ^ rB d s 64 - 1))) else nI (best_ W (rB d s 64) (2 ^ rB d s 64 - 1)), J') ∧ ∀ i, i ≠ 96 → J' i = J0 i := by
  have h64 := cs_le hd
  have c14 := rB_14 (d := d) (s := s) 64
  intro m
  induction m with
  | zero =>
    intro c hc J f g
    have : c = 64 := by omega
    subst this
    have k : ∀ k, k < rB d s 64 → J 96 k = W k := fun k hk => by
      obtain ⟨i, i1, i2, i3⟩ := fb_ct_kth hk
      rw [← i3]
      exact g i i1 i2
    have ms := msets_ok (Z := Z) (J := J) (L := L) (R := R) r52 z96 c14 k v
    refine ⟨J, itC_inr ?_, f⟩
    unfold B_X11_moored_64
    rw [if_neg Int32.lt_irrefl, show D_X11_moored_147 Z J L R 68 v (nI (rB d s 64)) (0, 0, 1) = _ from ms, bs_]
  | succ m ih =>
    intro c hc J f g
    cases sc : sl_ (bkB d s) c with
    | false =>
      obtain ⟨J', A, B⟩ := ih (c + 1) (by omega) J f (fun e he se => g e (by
        by_cases w : e = c
        · subst w
          rw [sc] at se
          cases se
        · omega) se)
      rw [rB_n sc] at A
      exact ⟨J', A, B⟩
    | true =>
      have cl := sl_lt sc
      have cN := rB_lt (show c < 64 by omega) sc
      obtain ⟨J1, A1, B1, C1, D1⟩ := mword_ok (Z := Z) (J0 := J0) (Jb := up2 J 96 (rB d s c) 0) (L := L) (R := R) (v := v) hd r51 r52 z95 z96 e25 e26 e95 sc 64 0 (by omega) (up2 J 96 (rB d s c) 0) (fun i hi => by rw [up2_ne hi]; exact f i hi) (up2_s _ _ _ _)
      obtain ⟨J', A, B⟩ := ih (c + 1) (by omega) J1 B1 (fun e he se => by
        by_cases w : e = c
        · subst w
          rw [D1, hW e sc]
        · have m := fb_ct_mono (sl_ (bkB d s)) (m := e + 1) (n := c) (by omega)
          rw [fb_ct_succ, se, if_pos rfl] at m
          have ne : rB d s e ≠ rB d s c := fun z => by
            have z' : fb_ct (sl_ (bkB d s)) e = fb_ct (sl_ (bkB d s)) c := z
            omega
          rw [C1 _ ne, up2_j ne]
          exact g e (by omega) se)
      rw [rB_s sc] at A
      refine ⟨J', (itC_inl ?_).trans A, B⟩
      unfold B_X11_moored_64
      rw [if_pos ((nI_ltI (by omega) (by omega)).mpr cN), r52, bs_, if_pos (inb_nI (by omega) (by omega)), bs_, cl_nI (by omega)]
      exact A1
theorem cwords_ok {Z : Nat → Nat} {I0 : I_T} {L : L_T} {R : R_T} {a : Nat} (ha : a < 50) {d : ld_T} {s : Nat → Bool} (hd : VD d) (hl : CL I0 L a d) (r3 : R 63 3 = some 66) (z66 : Z 66 = 14) {w : Int64} (hw : isS w (sl_ (bkB d s))) : ∃ I', D_X3_setNeighbours Z I0 L R 63 a w = some I' ∧ (∀ i, i ≠ 66 → I' i = I0 i) ∧ ∀ c, sl_ (bkB d s) c = true → I' 66 (rB d s c) = pw_ (bkB d s) (ajB d c) 64 := by
  have h64 := cs_le hd
  have c14 := rB_14 (d := d) (s := s) 64
  obtain ⟨K, t1, t2, t3, t4⟩ := fill_ok (Z := Z) (I := I0) (L := L) (R := R) (a := 66) (v := 0) (by rw [z66]; decide)
  have key : ∀ m c, c + m = 64 → ∀ I' : I_T, (∀ i, i ≠ 66 → I' i = I0 i) → (∀ e, e < c → sl_ (bkB d s) e = true → I' 66 (rB d s e) = pw_ (bkB d s) (ajB d e) 64) → ∃ I'', itC (B_X3_setNeighbours_14 Z K L R 63 a w) (nI (rB d s c), nI c, I') = some I'' ∧ (∀ i, i ≠ 66 → I'' i = I0 i) ∧ ∀ c, sl_ (bkB d s) c = true → I'' 66 (rB d s c) = pw_ (bkB d s) (ajB d c) 64 := by
    intro m
    induction m with
    | zero =>
      intro c hc I' f g
      have : c = 64 := by omega
      subst this
      refine ⟨I', itC_inr ?_, f, fun e se => g e (by have := sl_lt se; omega) se⟩
      unfold B_X3_setNeighbours_14
      rw [if_neg (show ¬ nI 64 < 64 by decide)]
    | succ m ih =>
      intro c hc I' f g
      have lt : nI c < 64 := (nl_lt (k := 64) (j := 64) rfl (by omega) (by omega)).mpr (by omega)
      cases sc : sl_ (bkB d s) c with
      | false =>
        obtain ⟨I'', A, B⟩ := ih (c + 1) (by omega) I' f (fun e he se => g e (by
          by_cases w : e = c
          · subst w
            rw [sc] at se
            cases se
          · omega) se)
        rw [rB_n sc] at A
        refine ⟨I'', (itC_inl ?_).trans A, B⟩
        unfold B_X3_setNeighbours_14
        rw [if_pos lt, has_ok (by omega), bs_, hw c (by omega), sc, if_pos (show bI false = 0 from rfl), nI_1]
      | true =>
        have cl := sl_lt sc
        have cN := rB_lt (show c < 64 by omega) sc
        have clI : CL I' L a d := hl.keep (fun k hk => ⟨f _ (by omega), rfl⟩)
        obtain ⟨y, y1, y2⟩ := beside_ok (Z := Z) (R := R) hd clI (x := bit_ c) (fun i hi ge => by rw [tb_bit i hi, decide_eq_false (by omega)])
        have pl := places_ok (Z := Z) (I := I') (L := L) (R := R) (B := bkB d s) (q := tb (y &&& w)) (x := y &&& w) hw (fun i hi => rfl)
        have pe : pw_ (bkB d s) (tb (y &&& w)) 64 = pw_ (bkB d s) (ajB d c) 64 := pw_cong (fun e he se => by
          have el := sl_lt se
          rw [tb_and, hw e he, se, Bool.and_true]
          apply bt_eq
          rw [y2 e he, ajB_iff]
          constructor
          · rintro ⟨_, x, x1, x2⟩
            have xl := adj_lt hd el x1
            rw [tb_bit x (by omega)] at x2
            have := of_decide_eq_true x2
            subst this
            exact adj_sym hd el x1
          · intro x1
            exact ⟨el, c, adj_sym hd cl x1, by rw [tb_bit c (by omega)]; exact decide_eq_true rfl⟩)
        obtain ⟨I'', A, B⟩ := ih (c + 1) (by omega) (up2 I' 66 (rB d s c) (pw_ (bkB d s) (ajB d c) 64)) (fun i hi => by rw [up2_ne hi]; exact f i hi) (fun e he se => by
          by_cases w : e = c
          · subst w
            exact up2_s _ _ _ _
          · have m := fb_ct_mono (sl_ (bkB d s)) (m := e + 1) (n := c) (by omega)
            rw [fb_ct_succ, se, if_pos rfl] at m
            rw [up2_j (show rB d s e ≠ rB d s c from fun z => by
              have z' : fb_ct (sl_ (bkB d s)) e = fb_ct (sl_ (bkB d s)) c := z
              omega)]
            exact g e (by omega) se)
        rw [rB_s sc] at A
        refine ⟨I'', (itC_inl ?_).trans A, B⟩
        unfold B_X3_setNeighbours_14
        rw [if_pos lt, has_ok (by omega), bs_, hw c (by omega), sc, if_neg (show ¬ bI true = 0 by decide), r3, bs_, bit_ok (by omega), bs_, y1, bs_, pl, bs_, pe, put_ok (by rw [z66]; omega) (by rw [z66]; decide), bs_, nI_1, nI_1]
  obtain ⟨I'', A, B⟩ := key 64 0 (by omega) K t2 (fun e he => by omega)
  refine ⟨I'', ?_, B⟩
  rw [D_X3_setNeighbours, r3, bs_, t1, bs_]
  exact A
