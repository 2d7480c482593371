/-! sights: the question to ask, both sides -/
theorem lN_ltN {a b : Nat} (ha : a < 2 ^ 31) (hb : b < 2 ^ 31) : lN a < lN b ↔ a < b := by
  rw [Int64.lt_iff_toInt_lt, lN_toInt ha, lN_toInt hb]
  omega
theorem lN_inj {a b : Nat} (ha : a < 2 ^ 31) (hb : b < 2 ^ 31) : lN a = lN b ↔ a = b := by
  constructor
  · intro h
    have := congrArg Int64.toInt h
    rw [lN_toInt ha, lN_toInt hb] at this
    omega
  · exact congrArg lN
theorem lN_sub_ {a b : Nat} (h : b ≤ a) : lN a - lN b = lN (a - b) := by
  have e : lN a = lN (a - b) + lN b := by rw [lN_add_, Nat.sub_add_cancel h]
  rw [e, Int64.add_sub_cancel]
theorem vs_wY {d : ld_T} {s : Nat → Bool} {ok : Nat → Nat → Bool} {c0 : Nat} : ∀ t, vs false (fun _ => false) (PT d s ok) (V0_ s ok c0) t = fun j => lN (wY d s ok c0 t j)
  | 0 => by
    funext k
    show mk1 false (V0_ s ok c0) k = lN (W0_ s ok c0 k)
    unfold mk1 V0_ W0_
    rw [if_neg (by decide)]
    split <;> rfl
  | t + 1 => by
    funext k
    show mk1 false (stK (opm false) (PT d s ok t) (vs false (fun _ => false) (PT d s ok) (V0_ s ok c0) t) 896) k = _
    rw [vs_wY t, opm_f]
    show (if false = true then _ else stK _ _ _ 896 k) = _
    rw [if_neg (by decide), stK_add (W := wY d s ok c0 t) (fun k _ => rfl) k]
    rfl
/-- the best cell so far -/
def bq (g : Nat → Nat) : Nat → Option (Nat × Nat)
  | 0 => none
  | c + 1 => match bq g c with
    | none => some (c, g c)
    | some (b, l) => if g c < l then some (c, g c) else some (b, l)
def qi (o : Option (Nat × Nat)) : Int32 := match o with
  | none => -1
  | some (b, _) => nI b
def ql (e : Nat) (o : Option (Nat × Nat)) : Int64 := match o with
  | none => lN e
  | some (_, l) => lN l
theorem bq_le {g : Nat → Nat} {A : Nat} (hg : ∀ c, g c ≤ A) : ∀ c b l, bq g c = some (b, l) → l ≤ A ∧ b < c
  | 0, b, l, h => by cases h
  | c + 1, b, l, h => by
    unfold bq at h
    cases e : bq g c with
    | none =>
      rw [e] at h
      have := Option.some.inj h
      injection this with h1 h2
      have := hg c
      omega
    | some p =>
      rw [e] at h
      obtain ⟨b', l'⟩ := p
      have ih := bq_le hg c b' l' e
      dsimp only at h
      by_cases z : g c < l'
      · rw [if_pos z] at h
        have := Option.some.inj h
        injection this with h1 h2
        have := hg c
        omega
      · rw [if_neg z] at h
        have := Option.some.inj h
        injection this with h1 h2
        omega
/-- how many walks an answer leaves at the most -/
def gq (f : Nat → Nat) (A c : Nat) : Nat := if A - f c < f c then f c else A - f c
theorem gq_le {f : Nat → Nat} {A : Nat} (hf : ∀ c, f c ≤ A) (c : Nat) : gq f A c ≤ A := by
  have := hf c
  unfold gq
  split <;> omega
theorem lmax_g {f : Nat → Nat} {A : Nat} (hA : A < 2 ^ 30) (hf : ∀ c, f c ≤ A) (c : Nat) : lmax (lN (f c)) (lN A - lN (f c)) = lN (gq f A c) := by
  have := hf c
  unfold lmax gq
  rw [lN_sub_ (hf c)]
  by_cases z : A - f c < f c
  · rw [if_pos ((lN_ltN (by omega) (by omega)).mpr z), if_pos z]
  · rw [if_neg (fun u => z ((lN_ltN (by omega) (by omega)).mp u)), if_neg z]
theorem question_ok {Z : Nat → Nat} {I : I_T} {L : L_T} {R : R_T} {a p : Nat} {d : ld_T} (hd : VD d) (cl : CL I L a d) (r1 : R 59 1 = some p) (zp : Z p = 896) {F : Nat → Nat} (hF : ∀ i, i < 896 → L p i = lN (F i)) {f : Nat → Nat} {A : Nat} (hA : A < 2 ^ 30) (ff : ∀ c, f c = sm (fun o => F (14 * c + o)) 14) (fA : sm F 896 = A) (hf : ∀ c, f c ≤ A) : D_X7_question Z I L R 59 a = some (if A = 0 then -1 else qi (bq (gq f A) (cs_ d))) := by
  have h64 := cs_le hd
  have tot := total_ok (Z := Z) (I := I) r1 zp hF
  rw [(sm_14 F 64).trans fA] at tot
  have key : ∀ u c, c + u = 64 → A ≠ 0 → itC (B_X7_question_16 Z I L R 59 a (lN A)) (qi (bq (gq f A) (min c (cs_ d))), ql (A + 1) (bq (gq f A) (min c (cs_ d))), nI c) = some (qi (bq (gq f A) (cs_ d))) := by
    intro u
    induction u with
    | zero =>
      intro c hc A0
      have : c = 64 := by omega
      subst this
      refine itC_inr ?_
      unfold B_X7_question_16
      dsimp only
      rw [if_neg (show ¬ nI 64 < 64 by decide), show min 64 (cs_ d) = cs_ d by omega]
    | succ u ih =>
      intro c hc A0
      have lt : nI c < 64 := (nl_lt (k := 64) (j := 64) rfl (by omega) (by omega)).mpr (by omega)
      have en := ending_ok (Z := Z) (I := I) r1 zp hF (show c < 64 by omega)
      rw [← ff c] at en
      have ic := isCell_ok (Z := Z) (R := R) hd cl (nI c)
      refine (itC_inl ?_).trans (ih (c + 1) (by omega) A0)
      unfold B_X7_question_16
      dsimp only
      rw [if_pos lt, if_pos ((lN_pos (by omega)).mpr A0), en, bs_, ic, bs_, lmax_g hA hf, nI_1]
      have ti : (nI c).toInt = c := nI_toInt (by omega)
      by_cases z : c < cs_ d
      · have z' : (0 : Int) ≤ (nI c).toInt ∧ (nI c).toInt < (lw d * lh d : Nat) := by
          rw [ti]
          have : c < lw d * lh d := z
          omega
        have gl := gq_le hf c
        rw [decide_eq_true z', if_neg (show ¬ bI true = 0 by decide), show min c (cs_ d) = c by omega, show min (c + 1) (cs_ d) = c + 1 by omega]
        have e1 : bq (gq f A) (c + 1) = match bq (gq f A) c with
          | none => some (c, gq f A c)
          | some (b, l) => if gq f A c < l then some (c, gq f A c) else some (b, l) := rfl
        rw [e1]
        cases eb : bq (gq f A) c with
        | none =>
          dsimp only
          rw [if_pos (show lN (gq f A c) < ql (A + 1) none from (lN_ltN (by omega) (by omega)).mpr (by omega))]
          rfl
        | some q =>
          obtain ⟨b, l⟩ := q
          have bl := bq_le (gq_le hf) c b l eb
          dsimp only
          by_cases y : gq f A c < l
          · rw [if_pos (show lN (gq f A c) < ql (A + 1) (some (b, l)) from (lN_ltN (by omega) (by omega)).mpr y), if_pos y]
            rfl
          · rw [if_neg (show ¬ lN (gq f A c) < ql (A + 1) (some (b, l)) from fun u => y ((lN_ltN (by omega) (by omega)).mp u)), if_neg y]
      · have z' : ¬ ((0 : Int) ≤ (nI c).toInt ∧ (nI c).toInt < (lw d * lh d : Nat)) := by
          rw [ti]
          have : ¬ c < lw d * lh d := z
          omega
        rw [decide_eq_false z', if_pos (show bI false = 0 from rfl), show min c (cs_ d) = cs_ d by omega, show min (c + 1) (cs_ d) = cs_ d by omega]
  rw [D_X7_question, tot, bs_]
  by_cases z : A = 0
  · subst z
    rw [if_pos rfl]
    refine itC_inr ?_
    unfold B_X7_question_16
    dsimp only
    rw [if_pos (show (0 : Int32) < 64 by decide), if_neg (show ¬ (0 : Int64) < lN 0 by decide)]
  · rw [if_neg z]
    have k := key 64 0 (by omega) z
    rw [show min 0 (cs_ d) = 0 by omega] at k
    rw [show lN A + 1 = lN (A + 1) from lN_add_ A 1]
    exact k
theorem ask_ok {sh : sh_T} {I J : I_T} {R : R_T} {L : L_T} {j : Nat} {d : ld_T} {s : Nat → Bool} {n0 x y : Nat} {e : Nat → Nat → Int32} {ok : Nat → Nat → Bool} (h : MSt sh I J R L j d s n0 x y e ok) {n : Nat} (hn : n ≤ 12) {M : L_T} (hf : ∀ t, t ≤ n → ∀ k, k < 896 → M 98 (896 * t + k) = lN (wY d s ok (lw d * y + x) t k)) (hb : ∀ t, t ≤ n → ∀ i, i < 14 * cs_ d → M 99 (896 * t + i) = lN (ow (PT d s ok) (n - t) t i)) : D_X11_ask sh.2.2 J M R 68 (nI n) = some (qi (bq (gq (thr d s ok (lw d * y + x) n n) (wAll d s ok (lw d * y + x) n)) (cs_ d))) := by
  have h64 := cs_le h.hd
  have aw := allWalks2_ok h hn hf hb
  have A1 : wAll d s ok (lw d * y + x) n ≤ 244140625 := wY_le h.hd h.c0 hn
  have hle : ∀ c, thr d s ok (lw d * y + x) n n c ≤ wAll d s ok (lw d * y + x) n := fun c => thr_le h.hd h.c0 (Nat.le_refl n)
  have key : ∀ u c, c + u = cs_ d → itC (B_X11_ask_7 sh.2.2 J M R 68 (nI n)) (qi (bq (gq (thr d s ok (lw d * y + x) n n) (wAll d s ok (lw d * y + x) n)) c), ql 0 (bq (gq (thr d s ok (lw d * y + x) n n) (wAll d s ok (lw d * y + x) n)) c), nI c) = some (qi (bq (gq (thr d s ok (lw d * y + x) n n) (wAll d s ok (lw d * y + x) n)) (cs_ d))) := by
    intro u
    induction u with
    | zero =>
      intro c hc
      have : c = cs_ d := by omega
      subst this
      refine itC_inr ?_
      unfold B_X11_ask_7
      dsimp only
      rw [h.e26, if_neg Int32.lt_irrefl]
    | succ u ih =>
      intro c hc
      have wb := walksBy2_ok h hn (Nat.le_refl n) (show c < cs_ d by omega) hf hb
      have lt : nI c < J 68 26 := by rw [h.e26]; exact (nI_ltI (by omega) (by omega)).mpr (by omega)
      refine (itC_inl ?_).trans (ih (c + 1) (by omega))
      have e1 : bq (gq (thr d s ok (lw d * y + x) n n) (wAll d s ok (lw d * y + x) n)) (c + 1) = match bq (gq (thr d s ok (lw d * y + x) n n) (wAll d s ok (lw d * y + x) n)) c with
        | none => some (c, gq (thr d s ok (lw d * y + x) n n) (wAll d s ok (lw d * y + x) n) c)
        | some (b, l) => if gq (thr d s ok (lw d * y + x) n n) (wAll d s ok (lw d * y + x) n) c < l then some (c, gq (thr d s ok (lw d * y + x) n n) (wAll d s ok (lw d * y + x) n) c) else some (b, l) := rfl
      have g1 : gq (thr d s ok (lw d * y + x) n n) (wAll d s ok (lw d * y + x) n) c = if wAll d s ok (lw d * y + x) n - thr d s ok (lw d * y + x) n n c < thr d s ok (lw d * y + x) n n c then thr d s ok (lw d * y + x) n n c else wAll d s ok (lw d * y + x) n - thr d s ok (lw d * y + x) n n c := rfl
      have gl := gq_le hle c
      have bl := bq_le (gq_le hle) c
      generalize thr d s ok (lw d * y + x) n n = f at *
      generalize wAll d s ok (lw d * y + x) n = A at *
      have fc := hle c
      have step : B_X11_ask_7 sh.2.2 J M R 68 (nI n) (qi (bq (gq f A) c), ql 0 (bq (gq f A) c), nI c) = D_X11_ask_50 sh.2.2 J M R 68 (nI n) (qi (bq (gq f A) c)) (ql 0 (bq (gq f A) c)) (nI c) (lN (gq f A c)) := by
        unfold B_X11_ask_7
        dsimp only
        rw [if_pos lt, wb, bs_, aw, bs_, lN_sub_ fc, bs_, g1]
        by_cases z : A - f c < f c
        · rw [if_pos ((lN_ltN (by omega) (by omega)).mpr z), if_pos z]
        · rw [if_neg (fun u => z ((lN_ltN (by omega) (by omega)).mp u)), if_neg z, lN_sub_ fc]
      have new : ∀ o, D_X11_ask_64 sh.2.2 J M R 68 (nI n) (qi o) (ql 0 o) (nI c) (lN (gq f A c)) = some (.inl (nI c, lN (gq f A c), nI (c + 1))) := fun o => by
        rw [D_X11_ask_64, D_X11_ask_69, if_neg (by decide), D_X11_ask_82, if_neg (by decide), nI_1]
      rw [step, D_X11_ask_50, e1]
      cases eb : bq (gq f A) c with
      | none =>
        rw [if_pos (show qi none = -1 from rfl), new]
        rfl
      | some q =>
        obtain ⟨b, l⟩ := q
        have bl := bl b l eb
        dsimp only
        rw [if_neg (show ¬ qi (some (b, l)) = -1 from nI_neg1 (by omega))]
        by_cases y : gq f A c < l
        · rw [if_pos (show lN (gq f A c) < ql 0 (some (b, l)) from (lN_ltN (by omega) (by omega)).mpr y), if_pos y, new]
          rfl
        · rw [if_neg (show ¬ lN (gq f A c) < ql 0 (some (b, l)) from fun u => y ((lN_ltN (by omega) (by omega)).mp u)), if_neg y, D_X11_ask_69, if_pos rfl, D_X11_ask_82, if_pos rfl, nI_1]
  rw [D_X11_ask]
  exact key (cs_ d) 0 (by omega)
