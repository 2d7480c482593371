/-! drought, the rest -/
theorem Kd_not {d : ld_T} {s : Nat → Bool} {x : Int64} (hx : isS x (Kd d s false)) {m : Int64} (hm : ∀ i, i < 64 → tb m i = decide (i < cs_ d)) : isS (m &&& (x ^^^ (-1))) (Kd d s true) := fun i hi => by
  rw [tb_and, tb_not _ hi, hm i hi, hx i hi]
  by_cases z : i < cs_ d
  · rw [Kd_lt z, Kd_lt z, decide_eq_true z]
    cases s i <;> rfl
  · rw [Kd_ge (by omega), Kd_ge (by omega), decide_eq_false z]
    rfl
/-- people on soil, bits -/
def strd (s : Nat → Bool) (e : Nat → Nat) : Nat → Int32
  | 0 => 0
  | p + 1 => if s (e p) = true then strd s e p ||| (1 <<< (nI p &&& 31)) else strd s e p
theorem stranded_ok {Z : Nat → Nat} {I : I_T} {L : L_T} {R : R_T} {a : Nat} {d : ld_T} (hd : VD d) (hl : CL I L a d) (lz : LZ Z R a) {s : Nat → Bool} {x : Int64} (hx : isS x (Kd d s true)) : D_X2_stranded Z I L R a x = some (strd s (d 9) (lpp d)) := by
  have h64 := cs_le hd
  have p5 : lpp d ≤ 5 := hd.2.2.2.2.2.2.2.2.1
  have e5 : I a 5 = nI (lpp d) := hl.1 5 (by omega)
  refine itC_count (f := B_X2_stranded_5 Z I L R a x) (fun p => (strd s (d 9) p, nI p)) (n := lpp d) (fun p hp => ?_) ?_
  · have pl : d 9 p < cs_ d := (hd.2.2.2.2.2.2.2.2.2.2 p hp).2
    unfold B_X2_stranded_5
    simp only [e5]
    rw [if_pos ((nI_ltI (by omega) (by omega)).mpr hp), lz.2.2.2.1, bs_, get_ok (by rw [lz.2.2.2.2.2.2.2]; omega) (by rw [lz.2.2.2.2.2.2.2]; decide), (hl.2.2.1 p hp).2, bs_, has_ok (by omega), bs_, hx _ (by omega), Kd_lt pl, nI_1]
    show _ = some (Sum.inl ((if s (d 9 p) = true then strd s (d 9) p ||| (1 <<< (nI p &&& 31)) else strd s (d 9) p), nI (p + 1)))
    cases s (d 9 p) with
    | false =>
      rw [if_pos (show bI (false == true) = 0 from rfl)]
      rfl
    | true =>
      rw [if_neg (show ¬ bI (true == true) = 0 by decide)]
      rfl
  · unfold B_X2_stranded_5
    simp only [e5]
    rw [if_neg Int32.lt_irrefl]
theorem mstranded_ok {sh : sh_T} {I J : I_T} {L : L_T} {R : R_T} (h : Inv sh I L R) {k : Nat} {d : ld_T} (hk : k < 2) (hd : VD d) (hm : ML I k d) (e24 : J 68 24 = nI k) (e25 : J 68 25 = nI (lw d)) (e30 : J 68 30 = nI (lpp d)) (e74 : J 74 = I 74) {s : Nat → Bool} (hs : SoilA sh.2.2 J L R d s) : D_X11_stranded sh.2.2 J L R 68 = some (strd s (d 9) (lpp d)) := by
  have h64 := cs_le hd
  have p5 : lpp d ≤ 5 := hd.2.2.2.2.2.2.2.2.1
  refine itC_count (f := B_X11_stranded_4 sh.2.2 J L R 68) (fun p => (strd s (d 9) p, nI p)) (n := lpp d) (fun p hp => ?_) ?_
  · have pl : d 9 p < cs_ d := (hd.2.2.2.2.2.2.2.2.2.2 p hp).2
    unfold B_X11_stranded_4
    simp only [e30]
    rw [if_pos ((nI_ltI (by omega) (by omega)).mpr hp), startOf_ok h hk hd hm e24 e25 e74 hp, bs_, hs _ pl, bs_, nI_1]
    show _ = some (Sum.inl ((if s (d 9 p) = true then strd s (d 9) p ||| (1 <<< (nI p &&& 31)) else strd s (d 9) p), nI (p + 1)))
    cases s (d 9 p) with
    | false =>
      rw [if_pos (show bI false = 0 from rfl), Int32.or_zero]
      rfl
    | true =>
      rw [if_neg (show ¬ bI true = 0 by decide)]
      rfl
  · unfold B_X11_stranded_4
    simp only [e30]
    rw [if_neg Int32.lt_irrefl]
theorem vol1 : ∀ l, l < 10 → ∀ h, h < 10 → imax (nI l - nI h) 0 = nI (l - h) := by decide
theorem vol2 : ∀ l, l < 10 → ∀ h, h < 10 → (if (0 : Int32) < nI l - nI h then nI l - nI h else 0) = nI (l - h) := by decide
theorem volume_ok {Z : Nat → Nat} {I : I_T} {L : L_T} {R : R_T} {a : Nat} {d : ld_T} (hd : VD d) (hl : CL I L a d) (lz : LZ Z R a) {l : Nat} (hl9 : l ≤ 9) : D_X2_volume Z I L R a (nI l) = some (nI (sm (fun c => l - d 6 c) (cs_ d))) := by
  have h64 := cs_le hd
  have e0 : I a 0 = nI (lw d) := hl.1 0 (by omega)
  have e1 : I a 1 = nI (lh d) := hl.1 1 (by omega)
  refine itC_count (f := B_X2_volume_4 Z I L R a (nI l)) (fun c => (nI (sm (fun c => l - d 6 c) c), nI c)) (n := cs_ d) (fun c hc => ?_) ?_
  · have d9 := (hd.2.2.2.2.2.2.2.2.2.1 c).1
    unfold B_X2_volume_4
    simp only [e0, e1, nI_mul]
    rw [if_pos ((nI_ltI (by omega) (by omega)).mpr hc), lz.1, bs_, get_ok (by rw [lz.2.2.2.2.1]; omega) (by rw [lz.2.2.2.2.1]; decide), (hl.2.1 c hc).1, bs_, vol1 l (by omega) _ (by omega), nI_1, nI_add]
    rfl
  · unfold B_X2_volume_4
    simp only [e0, e1, nI_mul]
    rw [if_neg Int32.lt_irrefl]
theorem parts_kd {Z : Nat → Nat} {I : I_T} {L : L_T} {R : R_T} {a : Nat} {d : ld_T} (hd : VD d) (hl : CL I L a d) {s : Nat → Bool} {q : Bool} {lab : Nat → Nat} (h : ∀ q, LabS d (Kd d s q) lab) {x : Int64} (hx : isS x (Kd d s q)) : D_X2_parts Z I L R a x = some (nI (fb_ct (lead (Kd d s q) lab) 64)) := parts_ok hd hl kd_sub (h q) hx
theorem dry_loop {sh : sh_T} {I J0 : I_T} {L : L_T} {R : R_T} (h : Inv sh I L R) {a : Nat} {d : ld_T} (hd : VD d) (hl : CL I L a d) (lz : LZ sh.2.2 R a) (e25 : J0 68 25 = nI (lw d)) (e26 : J0 68 26 = nI (cs_ d)) (e31 : J0 68 31 = -1) (e80 : ∀ c, c < cs_ d → J0 80 c = nI (d 6 c)) {I' : I_T} : ∀ k l, l + k = 10 → ∀ b m m' J, (∀ y, y ≠ 68 → y ≠ 91 → J y = J0 y) → (∀ j, j ≠ 27 → J 68 j = J0 68 j) → J 68 27 = nI l → ((m = 0 ∧ m' = -1) ∨ (m' = m ∧ ¬ m < 0)) → ∃ r J', itC (B_X2_dry_6 sh.2.2 I L R a) (b, m, nI l) = some r ∧ itC (B_X11_dry_9 sh.2.2 I' L R 68) (b, m', J) = some (r, J') ∧ ∀ y, y ≠ 68 → y ≠ 91 → J' y = J0 y := by
  have h64 := cs_le hd
  intro k
  induction k with
  | zero =>
    intro l hl9 b m m' J f1 f2 f27 hm
    have : l = 10 := by omega
    subst this
    refine ⟨b, J, itC_inr ?_, itC_inr ?_, f1⟩
    · unfold B_X2_dry_6
      rw [if_pos (show (9 : Int32) < nI 10 by decide)]
    · unfold B_X11_dry_9
      simp only [f27]
      rw [if_pos (show (9 : Int32) < nI 10 by decide)]
  | succ k ih =>
    intro l hlk b m m' J f1 f2 f27 hm
    have n9 : ¬ (9 : Int32) < nI l := fun z => by
      have := (nI_ltI (a := 9) (b := l) (by omega) (by omega)).mp z
      omega
    obtain ⟨x, hx, xs⟩ := water_ok (Z := sh.2.2) (R := R) hd hl lz (show l ≤ 9 by omega)
    have xk : isS x (Kd d (slv d l) false) := fun i hi => by rw [xs i hi, wat_kd]
    have gs : ∀ J'' : I_T, (∀ y, y ≠ 91 → J'' y = J y) → SoilA sh.2.2 J'' L R d (slv d l) := fun J'' fr i hi => soil_ok h hd (by omega) hi (by rw [fr 68 (by omega)]; exact f27) (by rw [fr 68 (by omega), f2 31 (by omega)]; exact e31) (by rw [fr 80 (by omega), f1 80 (by omega) (by omega)]; exact e80 i hi)
    obtain ⟨J2, lab, a1, a2, a3, a4⟩ := findParts_ok (Z := sh.2.2) (J := J) (L := L) (R := R) (s := slv d l) hd (h.r 68 45 91 rfl) (h.z 91 64 rfl) (by rw [f2 25 (by omega)]; exact e25) (by rw [f2 26 (by omega)]; exact e26) (fun J'' fr => gs J'' fr)
    have g26 : J2 68 26 = nI (cs_ d) := by rw [a2 68 (by omega), f2 26 (by omega)]; exact e26
    have cp := parts_kd (Z := sh.2.2) (R := R) hd hl a4 xk
    have mp := mparts_ok hd (h.r 68 45 91 rfl) (h.z 91 64 rfl) g26 a3 (gs J2 a2) false
    have le : fb_ct (lead (Kd d (slv d l) false) lab) 64 ≤ 64 := fb_ct_le _ 64
    generalize fb_ct (lead (Kd d (slv d l) false) lab) 64 = v at cp mp le
    have v0 : ¬ nI v < 0 := nI_pos (by omega)
    have G27 : J2 68 27 = nI l := by rw [a2 68 (by omega)]; exact f27
    have mp' : D_X11_parts sh.2.2 J2 L R 68 0 = some (nI v) := mp
    by_cases z : nI v < m
    · have zm : m' = m := by
        rcases hm with ⟨p, q⟩ | ⟨p, q⟩
        · subst p
          exact (v0 z).elim
        · exact p
      subst zm
      obtain ⟨r, J', A, B, C⟩ := ih (l + 1) (by omega) b m' m' (up2 J2 68 27 (nI (l + 1))) (fun y y1 y2 => by rw [up2_ne y1, a2 y y2]; exact f1 y y1 y2) (fun j j1 => by rw [up2_j j1, a2 68 (by omega)]; exact f2 j j1) (up2_s _ _ _ _) (Or.inr ⟨rfl, by
        rcases hm with ⟨p, q⟩ | ⟨p, q⟩
        · subst p
          decide
        · exact q⟩)
      refine ⟨r, J', (itC_inl ?_).trans A, (itC_inl ?_).trans B, C⟩
      · unfold B_X2_dry_6
        rw [if_neg n9, hx, bs_, cp, bs_, if_pos z, nI_1]
      · unfold B_X11_dry_9
        simp only [f27]
        rw [if_neg n9, a1, bs_, mp', bs_, if_pos z, D_X11_dry_39, mp', bs_, greater_ok, bs_, bs_, G27, nI_1, if_neg (fun w => by
          have := Int32.lt_iff_toInt_lt.mp z
          have := Int32.lt_iff_toInt_lt.mp w
          omega)]
    · obtain ⟨r, J', A, B, C⟩ := ih (l + 1) (by omega) (nI l) (nI v) (nI v) (up2 J2 68 27 (nI (l + 1))) (fun y y1 y2 => by rw [up2_ne y1, a2 y y2]; exact f1 y y1 y2) (fun j j1 => by rw [up2_j j1, a2 68 (by omega)]; exact f2 j j1) (up2_s _ _ _ _) (Or.inr ⟨rfl, v0⟩)
      have z' : ¬ nI v < m' := by
        rcases hm with ⟨p, q⟩ | ⟨p, q⟩
        · subst q
          intro w
          have h1 := Int32.lt_iff_toInt_lt.mp w
          rw [nI_toInt (by omega)] at h1
          have : (-1 : Int32).toInt = -1 := by decide
          omega
        · subst p
          exact z
      have gr : (if m' < nI v then nI v else m') = nI v := by
        by_cases w : m' < nI v
        · rw [if_pos w]
        · rw [if_neg w]
          have h1 : ¬ (nI v).toInt < m'.toInt := fun u => z' (Int32.lt_iff_toInt_lt.mpr u)
          have h2 : ¬ m'.toInt < (nI v).toInt := fun u => w (Int32.lt_iff_toInt_lt.mpr u)
          exact Int32.toInt_inj.mp (by omega)
      refine ⟨r, J', (itC_inl ?_).trans A, (itC_inl ?_).trans B, C⟩
      · unfold B_X2_dry_6
        rw [if_neg n9, hx, bs_, cp, bs_, if_neg z, nI_1]
      · unfold B_X11_dry_9
        simp only [f27]
        rw [if_neg n9, a1, bs_, mp', bs_, if_neg z', D_X11_dry_39, mp', bs_, greater_ok, bs_, bs_, G27, nI_1, gr]
