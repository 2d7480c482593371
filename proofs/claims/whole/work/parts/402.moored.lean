/-! moored: rows and words of class and model; the call -/
/-- water beside soil -/
def bkB (d : ld_T) (s : Nat → Bool) (c : Nat) : Bool := Kd d s false c && ((match nx d c 0 with | some j => s j | none => false) || (match nx d c 1 with | some j => s j | none => false) || (match nx d c 2 with | some j => s j | none => false) || (match nx d c 3 with | some j => s j | none => false))
def ajB (d : ld_T) (c e : Nat) : Bool := decide (nx d c 0 = some e) || decide (nx d c 1 = some e) || decide (nx d c 2 = some e) || decide (nx d c 3 = some e)
theorem ajB_iff {d : ld_T} {c e : Nat} : ajB d c e = true ↔ adj d c e := by
  unfold ajB adj
  simp only [Bool.or_eq_true, decide_eq_true_eq]
  constructor
  · rintro (((a | a) | a) | a)
    · exact ⟨0, by omega, a⟩
    · exact ⟨1, by omega, a⟩
    · exact ⟨2, by omega, a⟩
    · exact ⟨3, by omega, a⟩
  · rintro ⟨r, hr, a⟩
    have : r = 0 ∨ r = 1 ∨ r = 2 ∨ r = 3 := by omega
    rcases this with rfl | rfl | rfl | rfl
    · exact Or.inl (Or.inl (Or.inl a))
    · exact Or.inl (Or.inl (Or.inr a))
    · exact Or.inl (Or.inr a)
    · exact Or.inr a
theorem bkB_iff {d : ld_T} {s : Nat → Bool} {c : Nat} : bkB d s c = true ↔ Kd d s false c = true ∧ ∃ r j, r < 4 ∧ nx d c r = some j ∧ s j = true := by
  have m : ∀ r, ((match nx d c r with | some j => s j | none => false) = true ↔ ∃ j, nx d c r = some j ∧ s j = true) := fun r => by
    cases e : nx d c r with
    | none => simp
    | some j => simp
  unfold bkB
  simp only [Bool.and_eq_true, Bool.or_eq_true, m]
  constructor
  · rintro ⟨k, ((⟨j, a⟩ | ⟨j, a⟩) | ⟨j, a⟩) | ⟨j, a⟩⟩
    · exact ⟨k, 0, j, by omega, a⟩
    · exact ⟨k, 1, j, by omega, a⟩
    · exact ⟨k, 2, j, by omega, a⟩
    · exact ⟨k, 3, j, by omega, a⟩
  · rintro ⟨k, r, j, hr, a⟩
    refine ⟨k, ?_⟩
    have : r = 0 ∨ r = 1 ∨ r = 2 ∨ r = 3 := by omega
    rcases this with rfl | rfl | rfl | rfl
    · exact Or.inl (Or.inl (Or.inl ⟨j, a⟩))
    · exact Or.inl (Or.inl (Or.inr ⟨j, a⟩))
    · exact Or.inl (Or.inr ⟨j, a⟩)
    · exact Or.inr ⟨j, a⟩
theorem bkB_lt {d : ld_T} {s : Nat → Bool} {c : Nat} (h : bkB d s c = true) : c < cs_ d := by
  rcases Nat.lt_or_ge c (cs_ d) with z | z
  · exact z
  · have := (bkB_iff.mp h).1
    rw [Kd_ge z] at this
    cases this
theorem isBank_ok {Z : Nat → Nat} {J : I_T} {L : L_T} {R : R_T} {d : ld_T} {s : Nat → Bool} (hd : VD d) (e25 : J 68 25 = nI (lw d)) (e26 : J 68 26 = nI (cs_ d)) (hs : SoilA Z J L R d s) {c : Nat} (hc : c < cs_ d) : D_X11_isBank Z J L R 68 (nI c) = some (bI (bkB d s c)) := by
  have h64 := cs_le hd
  have key : ∀ k r, r + k = 4 → ∃ b : Bool, itC (B_X11_isBank_2 Z J L R 68 (nI c)) (nI r) = some (bI b) ∧ (b = true ↔ Kd d s false c = true ∧ ∃ r' j, r ≤ r' ∧ r' < 4 ∧ nx d c r' = some j ∧ s j = true) := by
    intro k
    induction k with
    | zero =>
      intro r hr
      have : r = 4 := by omega
      subst this
      refine ⟨false, itC_inr ?_, (fun u => by cases u), fun ⟨_, r', j, h1, h2, _⟩ => by omega⟩
      unfold B_X11_isBank_2
      rw [if_neg (show ¬ nI 4 < 4 by decide)]
      rfl
    | succ k ih =>
      intro r hr
      have lt : nI r < 4 := (nl_lt (k := 4) (j := 4) rfl (by omega) (by omega)).mpr (by omega)
      have nk := next_ok (Z := Z) (L := L) (R := R) hd e25 e26 hc (show r ≤ 4 by omega)
      have go : B_X11_isBank_2 Z J L R 68 (nI c) (nI r) = some (.inl (nI (r + 1))) → (∀ j, nx d c r = some j → s j = false) → ∃ b : Bool, itC (B_X11_isBank_2 Z J L R 68 (nI c)) (nI r) = some (bI b) ∧ (b = true ↔ Kd d s false c = true ∧ ∃ r' j, r ≤ r' ∧ r' < 4 ∧ nx d c r' = some j ∧ s j = true) := fun e no => by
        obtain ⟨b, b1, b2⟩ := ih (r + 1) (by omega)
        refine ⟨b, (itC_inl e).trans b1, b2.trans ⟨fun ⟨a, r', j, h1, h2⟩ => ⟨a, r', j, by omega, h2⟩, fun ⟨a, r', j, h1, h2, h3, h4⟩ => ⟨a, r', j, ?_, h2, h3, h4⟩⟩⟩
        by_cases z : r' = r
        · subst z
          rw [no j h3] at h4
          cases h4
        · omega
      cases e : nx d c r with
      | none =>
        refine go ?_ (fun j u => by rw [e] at u; cases u)
        unfold B_X11_isBank_2
        rw [if_pos lt, nk, bs_, e, if_pos (show oI none = -1 from rfl), nI_1]
      | some j =>
        have jl := nx_lt hd hc e
        have st : B_X11_isBank_2 Z J L R 68 (nI c) (nI r) = (if bI (s j) = 0 then some (.inl (nI (r + 1))) else (if bI (s c) = 0 then some (.inr 1) else some (.inr 0))) := by
          unfold B_X11_isBank_2
          rw [if_pos lt, nk, bs_, e, if_neg (show ¬ oI (some j) = -1 from nI_neg1 (by omega)), bs_]
          rw [show D_X11_isSoil Z J L R 68 (oI (some j)) = _ from hs j jl, bs_, hs c hc, bs_, nI_1]
        cases q : s j with
        | false =>
          rw [q, if_pos (show bI false = 0 from rfl)] at st
          exact go st (fun i u => by rw [e] at u; rw [← Option.some.inj u]; exact q)
        | true =>
          rw [q, if_neg (show ¬ bI true = 0 by decide)] at st
          cases w : s c with
          | false =>
            rw [w, if_pos (show bI false = 0 from rfl)] at st
            exact ⟨true, itC_inr st, fun _ => ⟨by rw [Kd_lt hc, w]; rfl, r, j, Nat.le_refl _, by omega, e, q⟩, fun _ => rfl⟩
          | true =>
            rw [w, if_neg (show ¬ bI true = 0 by decide)] at st
            exact ⟨false, itC_inr st, (fun u => by cases u), fun u => by
              have := u.1
              rw [Kd_lt hc, w] at this
              cases this⟩
  obtain ⟨b, b1, b2⟩ := key 4 0 (by omega)
  rw [D_X11_isBank]
  refine Eq.trans b1 ?_
  congr 2
  apply bt_eq
  rw [b2, bkB_iff]
  exact ⟨fun ⟨a, r', j, _, h⟩ => ⟨a, r', j, h⟩, fun ⟨a, r', j, h⟩ => ⟨a, r', j, by omega, h⟩⟩
theorem isBeside_ok {Z : Nat → Nat} {J : I_T} {L : L_T} {R : R_T} {d : ld_T} (hd : VD d) (e25 : J 68 25 = nI (lw d)) (e26 : J 68 26 = nI (cs_ d)) {c e : Nat} (hc : c < cs_ d) (he : e < cs_ d) : D_X11_isBeside Z J L R 68 (nI c) (nI e) = some (bI (ajB d c e)) := by
  have h64 := cs_le hd
  have key : ∀ k r, r + k = 4 → ∃ b : Bool, itC (B_X11_isBeside_2 Z J L R 68 (nI c) (nI e)) (nI r) = some (bI b) ∧ (b = true ↔ ∃ r', r ≤ r' ∧ r' < 4 ∧ nx d c r' = some e) := by
    intro k
    induction k with
    | zero =>
      intro r hr
      have : r = 4 := by omega
      subst this
      refine ⟨false, itC_inr ?_, (fun u => by cases u), fun ⟨r', h1, h2, _⟩ => by omega⟩
      unfold B_X11_isBeside_2
      rw [if_neg (show ¬ nI 4 < 4 by decide)]
      rfl
    | succ k ih =>
      intro r hr
      have lt : nI r < 4 := (nl_lt (k := 4) (j := 4) rfl (by omega) (by omega)).mpr (by omega)
      have nk := next_ok (Z := Z) (L := L) (R := R) hd e25 e26 hc (show r ≤ 4 by omega)
      by_cases z : nx d c r = some e
      · refine ⟨true, itC_inr ?_, fun _ => ⟨r, Nat.le_refl _, by omega, z⟩, fun _ => rfl⟩
        unfold B_X11_isBeside_2
        rw [if_pos lt, nk, bs_, z, if_pos (show oI (some e) = nI e from rfl)]
        rfl
      · obtain ⟨b, b1, b2⟩ := ih (r + 1) (by omega)
        refine ⟨b, (itC_inl ?_).trans b1, b2.trans ⟨fun ⟨r', h1, h2⟩ => ⟨r', by omega, h2⟩, fun ⟨r', h1, h2, h3⟩ => ⟨r', ?_, h2, h3⟩⟩⟩
        · unfold B_X11_isBeside_2
          rw [if_pos lt, nk, bs_, if_neg (fun u => z (by
            cases q : nx d c r with
            | none =>
              rw [q] at u
              exact (nI_neg1 (show e < 2 ^ 31 by omega) u.symm).elim
            | some j =>
              have jl := nx_lt hd hc q
              rw [q] at u
              rw [(nI_eq (by omega) (by omega)).mp (show nI j = nI e from u)])), nI_1]
        · by_cases w : r' = r
          · subst w
            exact (z h3).elim
          · omega
  obtain ⟨b, b1, b2⟩ := key 4 0 (by omega)
  rw [D_X11_isBeside]
  refine Eq.trans b1 ?_
  congr 2
  apply bt_eq
  rw [b2, ajB_iff]
  exact ⟨fun ⟨r', _, h⟩ => ⟨r', h⟩, fun ⟨r', h⟩ => ⟨r', by omega, h⟩⟩
theorem mrow_ok {Z : Nat → Nat} {J0 : I_T} {L : L_T} {R : R_T} {d : ld_T} {s : Nat → Bool} (hd : VD d) (r51 : R 68 51 = some 95) (z95 : Z 95 = 14) (e25 : J0 68 25 = nI (lw d)) (e26 : J0 68 26 = nI (cs_ d)) (hs : ∀ J : I_T, (∀ i, i ≠ 95 → J i = J0 i) → SoilA Z J L R d s) {v : Int32} {Jb : I_T} {r : Int32 × I_T} (fin : ∀ J : I_T, (∀ i, i ≠ 95 → J i = J0 i) → (∀ e, sl_ (bkB d s) e = true → J 95 (fb_ct (sl_ (bkB d s)) e) = nI e) → ∃ J', D_X11_moored_64 Z J L R 68 v (nI (fb_ct (sl_ (bkB d s)) 64)) (0, J) = some (r.1, J')) : ∀ k c, c + k = cs_ d → ∀ J : I_T, (∀ i, i ≠ 95 → J i = J0 i) → (∀ e, e < c → sl_ (bkB d s) e = true → J 95 (fb_ct (sl_ (bkB d s)) e) = nI e) → ∃ J1 J', (∀ i, i ≠ 95 → J1 i = J0 i) ∧ (∀ e, sl_ (bkB d s) e = true → J1 95 (fb_ct (sl_ (bkB d s)) e) = nI e) ∧ itC (B_X11_moored_20 Z Jb L R 68 v) (nI (fb_ct (sl_ (bkB d s)) c), nI c, J) = some (r.1, J') ∧ D_X11_moored_64 Z J1 L R 68 v (nI (fb_ct (sl_ (bkB d s)) 64)) (0, J1) = some (r.1, J') := by
  have h64 := cs_le hd
  have hge : ∀ e, cs_ d ≤ e → bkB d s e = false := fun e he => by
    cases q : bkB d s e with
    | false => rfl
    | true => have := bkB_lt q; omega
  intro k
  induction k with
  | zero =>
    intro c hc J f g
    have : c = cs_ d := by omega
    subst this
    have rk : fb_ct (sl_ (bkB d s)) 64 = fb_ct (sl_ (bkB d s)) (cs_ d) := ct_gap h64 (fun e u _ => by show (bkB d s e && _) = false; rw [hge e u]; rfl)
    have all : ∀ e, sl_ (bkB d s) e = true → J 95 (fb_ct (sl_ (bkB d s)) e) = nI e := fun e he => g e (by
      have : bkB d s e = true := by
        unfold sl_ at he
        rw [Bool.and_eq_true] at he
        exact he.1
      exact bkB_lt this) he
    obtain ⟨J', P⟩ := fin J f all
    refine ⟨J, J', f, all, itC_inr ?_, P⟩
    have f26 : J 68 26 = nI (cs_ d) := by rw [f 68 (by omega)]; exact e26
    unfold B_X11_moored_20
    simp only [f26]
    rw [if_neg Int32.lt_irrefl, ← rk, P, bs_]
  | succ k ih =>
    intro c hc J f g
    have cl : c < cs_ d := by omega
    have f26 : J 68 26 = nI (cs_ d) := by rw [f 68 (by omega)]; exact e26
    have lt : nI c < nI (cs_ d) := (nI_ltI (by omega) (by omega)).mpr cl
    have n14 : fb_ct (sl_ (bkB d s)) c = min 14 (fb_ct (bkB d s) c) := sl_ct _ c
    by_cases z : fb_ct (sl_ (bkB d s)) c < 14
    · have z' : fb_ct (bkB d s) c < 14 := by omega
      have ib := isBank_ok (Z := Z) (L := L) (R := R) hd (by rw [f 68 (by omega)]; exact e25) f26 (hs J f) cl
      have sc : sl_ (bkB d s) c = bkB d s c := by unfold sl_; rw [decide_eq_true z', Bool.and_true]
      cases q : bkB d s c with
      | false =>
        obtain ⟨J1, J', A, B, C, D⟩ := ih (c + 1) (by omega) J f (fun e he se => g e (by
          by_cases w : e = c
          · subst w
            rw [sc, q] at se
            cases se
          · omega) se)
        rw [fb_ct_succ, sc, q] at C
        refine ⟨J1, J', A, B, (itC_inl ?_).trans C, D⟩
        unfold B_X11_moored_20
        simp only [f26]
        rw [if_pos lt, if_pos ((nl_lt (k := 14) (j := 14) rfl (by omega) (by omega)).mpr z), ib, bs_, q, if_pos (show bI false = 0 from rfl), nI_1]
        rfl
      | true =>
        obtain ⟨J1, J', A, B, C, D⟩ := ih (c + 1) (by omega) (up2 J 95 (fb_ct (sl_ (bkB d s)) c) (nI c)) (fun i hi => by rw [up2_ne hi]; exact f i hi) (fun e he se => by
          by_cases w : e = c
          · subst w
            exact up2_s _ _ _ _
          · have m := fb_ct_mono (sl_ (bkB d s)) (m := e + 1) (n := c) (by omega)
            rw [fb_ct_succ, se, if_pos rfl] at m
            rw [up2_j (show fb_ct (sl_ (bkB d s)) e ≠ fb_ct (sl_ (bkB d s)) c by omega)]
            exact g e (by omega) se)
        rw [fb_ct_succ, sc, q] at C
        refine ⟨J1, J', A, B, (itC_inl ?_).trans C, D⟩
        unfold B_X11_moored_20
        simp only [f26]
        rw [if_pos lt, if_pos ((nl_lt (k := 14) (j := 14) rfl (by omega) (by omega)).mpr z), ib, bs_, q, if_neg (show ¬ bI true = 0 by decide), r51, bs_, if_pos (inb_nI (by omega) (by omega)), cl_nI (by omega), bs_, nI_1, nI_1]
        rfl
    · -- fourteen are there
      have gap : ∀ e, c ≤ e → sl_ (bkB d s) e = false := fun e he => by
        have := fb_ct_mono (bkB d s) he
        unfold sl_
        rw [decide_eq_false (by omega), Bool.and_false]
      have rk : fb_ct (sl_ (bkB d s)) 64 = fb_ct (sl_ (bkB d s)) c := ct_gap (by omega) (fun e u _ => gap e u)
      have all : ∀ e, sl_ (bkB d s) e = true → J 95 (fb_ct (sl_ (bkB d s)) e) = nI e := fun e he => g e (by
        rcases Nat.lt_or_ge e c with w | w
        · exact w
        · rw [gap e w] at he
          cases he) he
      obtain ⟨J', P⟩ := fin J f all
      refine ⟨J, J', f, all, itC_inr ?_, P⟩
      unfold B_X11_moored_20
      simp only [f26]
      rw [if_pos lt, if_neg (fun u => z ((nl_lt (k := 14) (j := 14) rfl (by omega) (by omega)).mp u)), ← rk, P, bs_]
