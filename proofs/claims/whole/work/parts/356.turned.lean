/-! dig and dam -/
def so (d : ld_T) (l o : Nat) (b : Bool) (c : Nat) : Bool := if c = o then b else decide (l < d 6 c)
theorem soilO_ok {sh : sh_T} {I J : I_T} {L : L_T} {R : R_T} (h : Inv sh I L R) {d : ld_T} (hd : VD d) {l c o : Nat} {b : Bool} (hl9 : l ≤ 9) (hc : c < cs_ d) (ho : o < cs_ d) (e27 : J 68 27 = nI l) (e31 : J 68 31 = nI o) (e32 : J 68 32 = bI b) (e80 : J 80 c = nI (d 6 c)) {L' : L_T} : D_X11_isSoil sh.2.2 J L' R 68 (nI c) = some (bI (so d l o b c)) := by
  have h64 := cs_le hd
  have d9 := (hd.2.2.2.2.2.2.2.2.2.1 c).1
  rw [D_X11_isSoil, e31, e32]
  unfold so
  by_cases z : c = o
  · rw [if_pos (by rw [z]), if_pos z, if_pos (bI_isb b)]
  · rw [if_neg (fun u => z ((nI_eq (by omega) (by omega)).mp u)), if_neg z, h.r 68 33 80 rfl, bs_, if_pos (inb_nI (by rw [h.z 80 64 rfl]; omega) (by omega)), cl_nI (by omega), e27, e80]
    by_cases q : l < d 6 c
    · rw [if_pos ((nI_ltI (by omega) (by omega)).mpr q), decide_eq_true q]
      rfl
    · rw [if_neg (fun z => q ((nI_ltI (by omega) (by omega)).mp z)), decide_eq_false q]
      rfl
theorem kd_sub {d : ld_T} {s : Nat → Bool} {q : Bool} : subC d (Kd d s q) := fun i e => by
  unfold Kd at e
  simp only [Bool.and_eq_true, decide_eq_true_eq] at e
  exact e.1
theorem greater_ok {Z : Nat → Nat} {I : I_T} {L : L_T} {R : R_T} {m v : Int32} : D_X11_greater Z I L R m v = some (if m < v then v else m) := by
  rw [D_X11_greater]
  by_cases h : m < v
  · rw [if_pos h, if_neg (fun z => by
      have a := Int32.lt_iff_toInt_lt.mp h
      have b := Int32.lt_iff_toInt_lt.mp z
      omega)]
  · rw [if_neg h]
    by_cases q : v < m
    · rw [if_pos q]
    · rw [if_neg q]
      have a : ¬ m.toInt < v.toInt := fun z => h (Int32.lt_iff_toInt_lt.mpr z)
      have b : ¬ v.toInt < m.toInt := fun z => q (Int32.lt_iff_toInt_lt.mpr z)
      rw [Int32.toInt_inj.mp (show v.toInt = m.toInt by omega)]
theorem dig_loop {sh : sh_T} {I J0 : I_T} {L : L_T} {R : R_T} (h : Inv sh I L R) {a : Nat} {d : ld_T} (hd : VD d) (hl : CL I L a d) {l : Nat} (hl9 : l ≤ 9) {x : Int64} (hx : isS x (wat d l)) {w5 : Int64} (hw : ∀ i, i < cs_ d → tb w5 i = !tb x i) (e25 : J0 68 25 = nI (lw d)) (e26 : J0 68 26 = nI (cs_ d)) (e27 : J0 68 27 = nI l) (e80 : ∀ c, c < cs_ d → J0 80 c = nI (d 6 c)) {I' : I_T} (sz : Int32) : ∀ k c, c + k = cs_ d → ∀ b m J, (∀ y, y ≠ 68 → y ≠ 91 → J y = J0 y) → (∀ j, j ≠ 31 → j ≠ 32 → J 68 j = J0 68 j) → ∃ r J', itC (B_X2_turned_38 sh.2.2 I L R a 0 sz x w5) (b, m, nI c) = some r ∧ itC (B_X11_dig_23 sh.2.2 I' L R 68 sz) (b, m, nI c, J) = some (r, J') ∧ ∀ y, y ≠ 68 → y ≠ 91 → J' y = J0 y := by
  have h64 := cs_le hd
  have e0 : I a 0 = nI (lw d) := hl.1 0 (by omega)
  have e1 : I a 1 = nI (lh d) := hl.1 1 (by omega)
  intro k
  induction k with
  | zero =>
    intro c hc b m J f1 f2
    have : c = cs_ d := by omega
    subst this
    have g26 : J 68 26 = nI (cs_ d) := by rw [f2 26 (by omega) (by omega)]; exact e26
    by_cases s0 : sz = 0
    · refine ⟨b, J, itC_inr ?_, itC_inr ?_, f1⟩
      · unfold B_X2_turned_38
        simp only [e0, e1, nI_mul]
        rw [if_neg Int32.lt_irrefl, if_pos s0]
      · unfold B_X11_dig_23
        simp only [g26]
        rw [if_neg Int32.lt_irrefl, if_pos s0]
    · refine ⟨m, J, itC_inr ?_, itC_inr ?_, f1⟩
      · unfold B_X2_turned_38
        simp only [e0, e1, nI_mul]
        rw [if_neg Int32.lt_irrefl, if_neg s0]
      · unfold B_X11_dig_23
        simp only [g26]
        rw [if_neg Int32.lt_irrefl, if_neg s0]
  | succ k ih =>
    intro c hc b m J f1 f2
    have cl : c < cs_ d := by omega
    have g26 : J 68 26 = nI (cs_ d) := by rw [f2 26 (by omega) (by omega)]; exact e26
    have lt : nI c < nI (cs_ d) := (nI_ltI (by omega) (by omega)).mpr cl
    have so1 : D_X11_isSoil sh.2.2 (up2 J 68 31 (-1)) L R 68 (nI c) = some (bI (decide (l < d 6 c))) := soil_ok h hd hl9 cl (by rw [up2_j (by omega), f2 27 (by omega) (by omega)]; exact e27) (up2_s _ _ _ _) (by rw [up2_ne (by omega), f1 80 (by omega) (by omega)]; exact e80 c cl)
    have xc : tb x c = !decide (l < d 6 c) := by
      rw [hx c (by omega)]
      unfold wat
      rw [decide_eq_true cl, Bool.true_and]
      by_cases z : l < d 6 c
      · rw [decide_eq_true z, decide_eq_false (by omega)]
        rfl
      · rw [decide_eq_false z, decide_eq_true (by omega)]
        rfl
    have F1 : ∀ y, y ≠ 68 → y ≠ 91 → up2 J 68 31 (-1) y = J0 y := fun y y1 y2 => by rw [up2_ne y1]; exact f1 y y1 y2
    have F2 : ∀ j, j ≠ 31 → j ≠ 32 → up2 J 68 31 (-1) 68 j = J0 68 j := fun j j1 j2 => by rw [up2_j j1]; exact f2 j j1 j2
    by_cases q : tb x c = true
    · obtain ⟨r, J', A, B, C⟩ := ih (c + 1) (by omega) b m (up2 J 68 31 (-1)) F1 F2
      refine ⟨r, J', (itC_inl ?_).trans A, (itC_inl ?_).trans B, C⟩
      · unfold B_X2_turned_38
        simp only [e0, e1, nI_mul]
        rw [if_pos lt, has_ok (show c < 64 by omega), bs_, hw c cl, q, if_pos (show bI (!true) = 0 from rfl), nI_1]
      · have sc : decide (l < d 6 c) = false := by
          rw [q] at xc
          cases e : decide (l < d 6 c) with
          | false => rfl
          | true => rw [e] at xc; cases xc
        unfold B_X11_dig_23
        simp only [g26, lt, if_true, bs_, so1, sc]
        rw [if_pos (show bI false = 0 from rfl), nI_1]
    · have q' : tb x c = false := by simpa using q
      have sc : decide (l < d 6 c) = true := by
        rw [q'] at xc
        cases e : decide (l < d 6 c) with
        | true => rfl
        | false => rw [e] at xc; cases xc
      generalize hJ1 : up2 (up2 (up2 J 68 31 (-1)) 68 31 (nI c)) 68 32 (bI false) = J1
      have G1 : ∀ y, y ≠ 68 → J1 y = J y := fun y y1 => by rw [← hJ1, up2_ne y1, up2_ne y1, up2_ne y1]
      have G2 : ∀ j, j ≠ 31 → j ≠ 32 → J1 68 j = J 68 j := fun j j1 j2 => by rw [← hJ1, up2_j j2, up2_j j1, up2_j j1]
      have G31 : J1 68 31 = nI c := by rw [← hJ1, up2_j (by omega), up2_s]
      have G32 : J1 68 32 = bI false := by rw [← hJ1, up2_s]
      have gs : ∀ J'' : I_T, (∀ y, y ≠ 91 → J'' y = J1 y) → SoilA sh.2.2 J'' L R d (so d l c false) := fun J'' fr i hi => soilO_ok h hd hl9 hi cl (by rw [fr 68 (by omega), G2 27 (by omega) (by omega), f2 27 (by omega) (by omega)]; exact e27) (by rw [fr 68 (by omega)]; exact G31) (by rw [fr 68 (by omega)]; exact G32) (by rw [fr 80 (by omega), G1 80 (by omega), f1 80 (by omega) (by omega)]; exact e80 i hi)
      obtain ⟨J2, lab, a1, a2, a3, a4⟩ := findParts_ok (Z := sh.2.2) (J := J1) (L := L) (R := R) (s := so d l c false) hd (h.r 68 45 91 rfl) (h.z 91 64 rfl) (by rw [G2 25 (by omega) (by omega), f2 25 (by omega) (by omega)]; exact e25) (by rw [G2 26 (by omega) (by omega), f2 26 (by omega) (by omega)]; exact e26) (fun J'' fr => gs J'' fr)
      have f26 : J2 68 26 = nI (cs_ d) := by rw [a2 68 (by omega), G2 26 (by omega) (by omega), f2 26 (by omega) (by omega)]; exact e26
      have fl := a3
      have fs := gs J2 a2
      have mv := mlargest_ok hd (h.r 68 45 91 rfl) (h.z 91 64 rfl) f26 fl fs
      have xs : isS (x ^^^ bit_ c) (Kd d (so d l c false) false) := fun i hi => by
        rw [tb_xor, tb_bit i hi, hx i hi]
        unfold wat
        by_cases z : i < cs_ d
        · rw [Kd_lt z, decide_eq_true z, Bool.true_and]
          unfold so
          by_cases w : i = c
          · subst w
            rw [if_pos rfl, decide_eq_true rfl]
            simp; have := of_decide_eq_true sc; omega
          · rw [if_neg w, decide_eq_false w]
            by_cases u : l < d 6 i
            · rw [decide_eq_true u, decide_eq_false (by omega)]
              rfl
            · rw [decide_eq_false u, decide_eq_true (by omega)]
              rfl
        · rw [Kd_ge (by omega), decide_eq_false z, decide_eq_false (show ¬ i = c by omega)]
          simp
      have cv := largest_ok (Z := sh.2.2) (R := R) hd hl kd_sub (a4 false) xs
      generalize mxs (lsz (Kd d (so d l c false) false) lab) 64 = v at mv cv
      have Cst : B_X2_turned_38 sh.2.2 I L R a 0 sz x w5 (b, m, nI c) = some (.inl (if m < nI v then nI c else b, if m < nI v then nI v else m, nI (c + 1))) := by
        unfold B_X2_turned_38
        simp only [e0, e1, nI_mul]
        rw [if_pos lt, has_ok (show c < 64 by omega), bs_, hw c cl, q', if_neg (show ¬ bI (!false) = 0 by decide), bit_ok (by omega), bs_, if_pos trivial, cv, bs_, D_X2_turned_90, nI_1]
        by_cases z : m < nI v
        · rw [if_pos z, if_pos z, if_pos z]
        · rw [if_neg z, if_neg z, if_neg z]
      have Mst : B_X11_dig_23 sh.2.2 I' L R 68 sz (b, m, nI c, J) = some (.inl (if m < nI v then nI c else b, if m < nI v then nI v else m, nI (c + 1), J2)) := by
        unfold B_X11_dig_23
        simp only [g26, lt, if_true, bs_, so1, sc]
        rw [if_neg (show ¬ bI true = 0 by decide)]
        rw [show up2 (up2 (up2 J 68 31 (-1)) 68 31 (nI c)) 68 32 0 = J1 from hJ1, a1, bs_]
        rw [show D_X11_largest sh.2.2 J2 L R 68 = some (nI v) from mv, bs_]
        by_cases z : m < nI v
        · rw [if_pos z, D_X11_dig_80, greater_ok, bs_, nI_1]
          simp only [z, if_true]
        · rw [if_neg z, D_X11_dig_80, greater_ok, bs_, nI_1]
          simp only [z, if_false]
      obtain ⟨r, J', A, B, C⟩ := ih (c + 1) (by omega) (if m < nI v then nI c else b) (if m < nI v then nI v else m) J2 (fun y y1 y2 => by rw [a2 y y2, G1 y y1]; exact f1 y y1 y2) (fun j j1 j2 => by rw [a2 68 (by omega), G2 j j1 j2]; exact f2 j j1 j2)
      exact ⟨r, J', (itC_inl Cst).trans A, (itC_inl Mst).trans B, C⟩
theorem q_dig {sh : sh_T} {I : I_T} {L : L_T} {R : R_T} (h : Inv sh I L R) (v w : Int32) : ∃ r I2, D_X10_dig sh.2.2 I L R 6 v w = some r ∧ D_X11_dig sh.2.2 I L R 68 v w = some (r, I2) ∧ Inv sh I2 L R := by
  rcases land_or h v with ⟨a, b⟩ | ⟨k, d, hk, hv, a, vd, cl, ml, lz, b⟩
  · refine ⟨-1, _, ?_, ?_, h.code 0 0⟩
    · rw [D_X10_dig, h.r 6 0 7 rfl, bs_, a]
      rfl
    · rw [D_X11_dig, bs_, b _ L (up2_ne (by omega)), bs_, if_pos (show (0 : Int32) = 0 from rfl)]
  · obtain ⟨J, e, hd, fr⟩ := b (up2 I 68 0 0) L (up2_ne (by omega)) (up2_ne (by omega))
    have l9 : lv d ≤ 9 := vd.2.2.2.2.1
    have e2 : I (12 + 5 * k) 2 = nI (lv d) := cl.1 2 (by omega)
    obtain ⟨x, hx, xs⟩ := water_ok (Z := sh.2.2) (R := R) vd cl lz l9
    have xw : ∀ i, i < cs_ d → tb (L (12 + 5 * k) 10 &&& (x ^^^ (-1))) i = !tb x i := fun i hi => by
      have h64 := cs_le vd
      rw [tb_and, tb_not _ (by omega), cl.2.2.2.1 i (by omega), decide_eq_true (show i < lw d * lh d from hi), Bool.true_and]
    obtain ⟨r, J', A, B, C⟩ := dig_loop h vd cl l9 xs xw hd.2.1 hd.2.2.1 hd.2.2.2.1 (fun c hc => (hd.2.2.2.2.2.2.2.2 c hc).1) (I' := J) w (cs_ d) 0 (by omega) (-1) (-1) J (fun _ _ _ => rfl) (fun _ _ _ => rfl)
    refine ⟨r, J', ?_, ?_, h.fr (fun y hy => ?_)⟩
    · rw [D_X10_dig, h.r 6 0 7 rfl, bs_, a, bs_, ocase, D_X2_turned, e2, hx, bs_, if_pos (show (0 : Int32) = 0 from rfl), D_X2_turned_27]
      rw [show D_X2_turned_38 sh.2.2 I L R (12 + 5 * k) 0 w x (L (12 + 5 * k) 10 &&& (x ^^^ (-1))) (-1, -1, 0) = some r from A, bs_]
    · rw [D_X11_dig, bs_, e, bs_, if_neg (show ¬ (1 : Int32) = 0 by decide)]
      exact B
    · have p := pers_68 hy
      have p91 : y ≠ 91 := by unfold pers at hy; omega
      rw [C y p.1 p91, fr.at p.1 p.2.1 p.2.2]
theorem dam_loop {sh : sh_T} {I J0 : I_T} {L : L_T} {R : R_T} (h : Inv sh I L R) {a : Nat} {d : ld_T} (hd : VD d) (hl : CL I L a d) {l : Nat} (hl9 : l ≤ 9) {x : Int64} (hx : isS x (wat d l)) (e25 : J0 68 25 = nI (lw d)) (e26 : J0 68 26 = nI (cs_ d)) (e27 : J0 68 27 = nI l) (e80 : ∀ c, c < cs_ d → J0 80 c = nI (d 6 c)) {I' : I_T} (sz : Int32) : ∀ k c, c + k = cs_ d → ∀ b m J, (∀ y, y ≠ 68 → y ≠ 91 → J y = J0 y) → (∀ j, j ≠ 31 → j ≠ 32 → J 68 j = J0 68 j) → ∃ r J', itC (B_X2_turned_38 sh.2.2 I L R a 1 sz x x) (b, m, nI c) = some r ∧ itC (B_X11_dam_23 sh.2.2 I' L R 68 sz) (b, m, nI c, J) = some (r, J') ∧ ∀ y, y ≠ 68 → y ≠ 91 → J' y = J0 y := by
  have h64 := cs_le hd
  have e0 : I a 0 = nI (lw d) := hl.1 0 (by omega)
  have e1 : I a 1 = nI (lh d) := hl.1 1 (by omega)
  intro k
  induction k with
  | zero =>
    intro c hc b m J f1 f2
    have : c = cs_ d := by omega
    subst this
    have g26 : J 68 26 = nI (cs_ d) := by rw [f2 26 (by omega) (by omega)]; exact e26
    by_cases s0 : sz = 0
    · refine ⟨b, J, itC_inr ?_, itC_inr ?_, f1⟩
      · unfold B_X2_turned_38
        simp only [e0, e1, nI_mul]
        rw [if_neg Int32.lt_irrefl, if_pos s0]
      · unfold B_X11_dam_23
        simp only [g26]
        rw [if_neg Int32.lt_irrefl, if_pos s0]
    · refine ⟨m, J, itC_inr ?_, itC_inr ?_, f1⟩
      · unfold B_X2_turned_38
        simp only [e0, e1, nI_mul]
        rw [if_neg Int32.lt_irrefl, if_neg s0]
      · unfold B_X11_dam_23
        simp only [g26]
        rw [if_neg Int32.lt_irrefl, if_neg s0]
  | succ k ih =>
    intro c hc b m J f1 f2
    have cl : c < cs_ d := by omega
    have g26 : J 68 26 = nI (cs_ d) := by rw [f2 26 (by omega) (by omega)]; exact e26
    have lt : nI c < nI (cs_ d) := (nI_ltI (by omega) (by omega)).mpr cl
    have so1 : D_X11_isSoil sh.2.2 (up2 J 68 31 (-1)) L R 68 (nI c) = some (bI (decide (l < d 6 c))) := soil_ok h hd hl9 cl (by rw [up2_j (by omega), f2 27 (by omega) (by omega)]; exact e27) (up2_s _ _ _ _) (by rw [up2_ne (by omega), f1 80 (by omega) (by omega)]; exact e80 c cl)
    have xc : tb x c = !decide (l < d 6 c) := by
      rw [hx c (by omega)]
      unfold wat
      rw [decide_eq_true cl, Bool.true_and]
      by_cases z : l < d 6 c
      · rw [decide_eq_true z, decide_eq_false (by omega)]
        rfl
      · rw [decide_eq_false z, decide_eq_true (by omega)]
        rfl
    have F1 : ∀ y, y ≠ 68 → y ≠ 91 → up2 J 68 31 (-1) y = J0 y := fun y y1 y2 => by rw [up2_ne y1]; exact f1 y y1 y2
    have F2 : ∀ j, j ≠ 31 → j ≠ 32 → up2 J 68 31 (-1) 68 j = J0 68 j := fun j j1 j2 => by rw [up2_j j1]; exact f2 j j1 j2
    by_cases q : tb x c = false
    · obtain ⟨r, J', A, B, C⟩ := ih (c + 1) (by omega) b m (up2 J 68 31 (-1)) F1 F2
      refine ⟨r, J', (itC_inl ?_).trans A, (itC_inl ?_).trans B, C⟩
      · unfold B_X2_turned_38
        simp only [e0, e1, nI_mul]
        rw [if_pos lt, has_ok (show c < 64 by omega), bs_, q, if_pos (show bI false = 0 from rfl), nI_1]
      · have sc : decide (l < d 6 c) = true := by
          rw [q] at xc
          cases e : decide (l < d 6 c) with
          | true => rfl
          | false => rw [e] at xc; cases xc
        unfold B_X11_dam_23
        simp only [g26, lt, if_true, bs_, so1, sc]
        rw [if_neg (show ¬ bI true = 0 by decide), nI_1]
    · have q' : tb x c = true := by simpa using q
      have sc : decide (l < d 6 c) = false := by
        rw [q'] at xc
        cases e : decide (l < d 6 c) with
        | false => rfl
        | true => rw [e] at xc; cases xc
      generalize hJ1 : up2 (up2 (up2 J 68 31 (-1)) 68 31 (nI c)) 68 32 (bI true) = J1
      have G1 : ∀ y, y ≠ 68 → J1 y = J y := fun y y1 => by rw [← hJ1, up2_ne y1, up2_ne y1, up2_ne y1]
      have G2 : ∀ j, j ≠ 31 → j ≠ 32 → J1 68 j = J 68 j := fun j j1 j2 => by rw [← hJ1, up2_j j2, up2_j j1, up2_j j1]
      have G31 : J1 68 31 = nI c := by rw [← hJ1, up2_j (by omega), up2_s]
      have G32 : J1 68 32 = bI true := by rw [← hJ1, up2_s]
      have gs : ∀ J'' : I_T, (∀ y, y ≠ 91 → J'' y = J1 y) → SoilA sh.2.2 J'' L R d (so d l c true) := fun J'' fr i hi => soilO_ok h hd hl9 hi cl (by rw [fr 68 (by omega), G2 27 (by omega) (by omega), f2 27 (by omega) (by omega)]; exact e27) (by rw [fr 68 (by omega)]; exact G31) (by rw [fr 68 (by omega)]; exact G32) (by rw [fr 80 (by omega), G1 80 (by omega), f1 80 (by omega) (by omega)]; exact e80 i hi)
      obtain ⟨J2, lab, a1, a2, a3, a4⟩ := findParts_ok (Z := sh.2.2) (J := J1) (L := L) (R := R) (s := so d l c true) hd (h.r 68 45 91 rfl) (h.z 91 64 rfl) (by rw [G2 25 (by omega) (by omega), f2 25 (by omega) (by omega)]; exact e25) (by rw [G2 26 (by omega) (by omega), f2 26 (by omega) (by omega)]; exact e26) (fun J'' fr => gs J'' fr)
      have f26 : J2 68 26 = nI (cs_ d) := by rw [a2 68 (by omega), G2 26 (by omega) (by omega), f2 26 (by omega) (by omega)]; exact e26
      have fl := a3
      have fs := gs J2 a2
      have mv := mparts_ok hd (h.r 68 45 91 rfl) (h.z 91 64 rfl) f26 fl fs false
      have xs : isS (x ^^^ bit_ c) (Kd d (so d l c true) false) := fun i hi => by
        rw [tb_xor, tb_bit i hi, hx i hi]
        unfold wat
        by_cases z : i < cs_ d
        · rw [Kd_lt z, decide_eq_true z, Bool.true_and]
          unfold so
          by_cases w : i = c
          · subst w
            rw [if_pos rfl, decide_eq_true rfl]
            simp; have := of_decide_eq_false sc; omega
          · rw [if_neg w, decide_eq_false w]
            by_cases u : l < d 6 i
            · rw [decide_eq_true u, decide_eq_false (by omega)]
              rfl
            · rw [decide_eq_false u, decide_eq_true (by omega)]
              rfl
        · rw [Kd_ge (by omega), decide_eq_false z, decide_eq_false (show ¬ i = c by omega)]
          simp
      have cv := parts_ok (Z := sh.2.2) (R := R) hd hl kd_sub (a4 false) xs
      generalize fb_ct (lead (Kd d (so d l c true) false) lab) 64 = v at mv cv
      have Cst : B_X2_turned_38 sh.2.2 I L R a 1 sz x x (b, m, nI c) = some (.inl (if m < nI v then nI c else b, if m < nI v then nI v else m, nI (c + 1))) := by
        unfold B_X2_turned_38
        simp only [e0, e1, nI_mul]
        rw [if_pos lt, has_ok (show c < 64 by omega), bs_, q', if_neg (show ¬ bI true = 0 by decide), bit_ok (by omega), bs_, if_neg (show ¬ (1 : Int32) = 0 by decide), cv, bs_, D_X2_turned_90, nI_1]
        by_cases z : m < nI v
        · rw [if_pos z, if_pos z, if_pos z]
        · rw [if_neg z, if_neg z, if_neg z]
      have Mst : B_X11_dam_23 sh.2.2 I' L R 68 sz (b, m, nI c, J) = some (.inl (if m < nI v then nI c else b, if m < nI v then nI v else m, nI (c + 1), J2)) := by
        unfold B_X11_dam_23
        simp only [g26, lt, if_true, bs_, so1, sc]
        rw [if_pos (show bI false = 0 from rfl)]
        rw [show up2 (up2 (up2 J 68 31 (-1)) 68 31 (nI c)) 68 32 1 = J1 from hJ1, a1, bs_]
        rw [show D_X11_parts sh.2.2 J2 L R 68 0 = some (nI v) from mv, bs_]
        by_cases z : m < nI v
        · rw [if_pos z, D_X11_dam_81, greater_ok, bs_, nI_1]
          simp only [z, if_true]
        · rw [if_neg z, D_X11_dam_81, greater_ok, bs_, nI_1]
          simp only [z, if_false]
      obtain ⟨r, J', A, B, C⟩ := ih (c + 1) (by omega) (if m < nI v then nI c else b) (if m < nI v then nI v else m) J2 (fun y y1 y2 => by rw [a2 y y2, G1 y y1]; exact f1 y y1 y2) (fun j j1 j2 => by rw [a2 68 (by omega), G2 j j1 j2]; exact f2 j j1 j2)
      exact ⟨r, J', (itC_inl Cst).trans A, (itC_inl Mst).trans B, C⟩
theorem q_dam {sh : sh_T} {I : I_T} {L : L_T} {R : R_T} (h : Inv sh I L R) (v w : Int32) : ∃ r I2, D_X10_dam sh.2.2 I L R 6 v w = some r ∧ D_X11_dam sh.2.2 I L R 68 v w = some (r, I2) ∧ Inv sh I2 L R := by
  rcases land_or h v with ⟨a, b⟩ | ⟨k, d, hk, hv, a, vd, cl, ml, lz, b⟩
  · refine ⟨-1, _, ?_, ?_, h.code 0 0⟩
    · rw [D_X10_dam, h.r 6 0 7 rfl, bs_, a]
      rfl
    · rw [D_X11_dam, bs_, b _ L (up2_ne (by omega)), bs_, if_pos (show (0 : Int32) = 0 from rfl)]
  · obtain ⟨J, e, hd, fr⟩ := b (up2 I 68 0 0) L (up2_ne (by omega)) (up2_ne (by omega))
    have l9 : lv d ≤ 9 := vd.2.2.2.2.1
    have e2 : I (12 + 5 * k) 2 = nI (lv d) := cl.1 2 (by omega)
    obtain ⟨x, hx, xs⟩ := water_ok (Z := sh.2.2) (R := R) vd cl lz l9
    
    obtain ⟨r, J', A, B, C⟩ := dam_loop h vd cl l9 xs hd.2.1 hd.2.2.1 hd.2.2.2.1 (fun c hc => (hd.2.2.2.2.2.2.2.2 c hc).1) (I' := J) w (cs_ d) 0 (by omega) (-1) (-1) J (fun _ _ _ => rfl) (fun _ _ _ => rfl)
    refine ⟨r, J', ?_, ?_, h.fr (fun y hy => ?_)⟩
    · rw [D_X10_dam, h.r 6 0 7 rfl, bs_, a, bs_, ocase, D_X2_turned, e2, hx, bs_, if_neg (show ¬ (1 : Int32) = 0 by decide), D_X2_turned_27]
      rw [show D_X2_turned_38 sh.2.2 I L R (12 + 5 * k) 1 w x x (-1, -1, 0) = some r from A, bs_]
    · rw [D_X11_dam, bs_, e, bs_, if_neg (show ¬ (1 : Int32) = 0 by decide)]
      exact B
    · have p := pers_68 hy
      have p91 : y ≠ 91 := by unfold pers at hy; omega
      rw [C y p.1 p91, fr.at p.1 p.2.1 p.2.2]
