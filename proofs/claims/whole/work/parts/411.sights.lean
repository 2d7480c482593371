/-! sights: whether all that is told of is there -/
theorem VSight.line {n x y : Nat} {e : Nat → Nat → Int32} (v : VSight n x y e) {j : Nat} (hj : j < n) : (e j 0 = 0 ∨ e j 0 = 1) ∧ e j 1 = nI (sn e j 1) ∧ sn e j 1 ≤ 12 ∧ e j 2 = nI (sn e j 2) ∧ sn e j 2 ≤ 7 ∧ e j 3 = nI (sn e j 3) ∧ sn e j 3 ≤ 7 := by
  obtain ⟨a, ⟨p, p1, p2⟩, ⟨q, q1, q2⟩, r, r1, r2⟩ := v.2.2.2 j hj
  unfold sn
  rw [p2, q2, r2, cl_nI (by omega), cl_nI (by omega), cl_nI (by omega)]
  exact ⟨a, rfl, p1, rfl, q1, rfl, r1⟩
/-- all that a sight tells of is in the land -/
def allIn (d : ld_T) (n x y : Nat) (e : Nat → Nat → Int32) : Prop := (x < lw d ∧ y < lh d) ∧ ∀ j, j < n → sn e j 2 < lw d ∧ sn e j 3 < lh d
theorem hasAll_ok {Z : Nat → Nat} {I : I_T} {L : L_T} {R : R_T} {a b : Nat} {d : ld_T} (hd : VD d) (e0 : I a 0 = nI (lw d)) (e1 : I a 1 = nI (lh d)) {n x y : Nat} {e : Nat → Nat → Int32} (v : VSight n x y e) (hs : CS I b n x y e) (rb : R b 0 = some (b + 1)) (zb : Z (b + 1) = 40) : ∃ q : Bool, D_X2_hasAll Z I L R a b = some (bI q) ∧ (q = true ↔ allIn d n x y e) := by
  have n10 := v.1
  have x7 := v.2.1
  have y7 := v.2.2.1
  have w8 := hd.2.1
  have h8 := hd.2.2.2.1
  have e3 : I b 3 = nI n := hs.2.2.1
  have key : ∀ k j, j + k = n → ∃ q : Bool, itC (B_X2_hasAll_2 Z I L R a b) (nI j) = some (bI q) ∧ (q = true ↔ (x < lw d ∧ y < lh d) ∧ ∀ i, j ≤ i → i < n → sn e i 2 < lw d ∧ sn e i 3 < lh d) := by
    intro k
    induction k with
    | zero =>
      intro j hj
      have : j = n := by omega
      subst this
      refine ⟨decide (x < lw d ∧ y < lh d), itC_inr ?_, ?_⟩
      · unfold B_X2_hasAll_2
        rw [e3, if_neg Int32.lt_irrefl, isStart_ok hd e0 e1 (show x < 2 ^ 31 by omega) (show y < 2 ^ 31 by omega) hs.1 hs.2.1, bs_, if_pos (bI_isb _)]
      · rw [decide_eq_true_eq]
        exact ⟨fun u => ⟨u, fun i h1 h2 => by omega⟩, fun u => u.1⟩
    | succ k ih =>
      intro j hj
      obtain ⟨l1, l2, l3, l4, l5, l6, l7⟩ := v.line (j := j) (by omega)
      have v2 : D_X6_value Z I L R b (nI j) 2 = some (nI (sn e j 2)) := by rw [← l4]; exact value_ok (q := 2) hs rb (by omega) (by omega) (by omega) (by omega) (by omega)
      have v3 : D_X6_value Z I L R b (nI j) 3 = some (nI (sn e j 3)) := by rw [← l6]; exact value_ok (q := 3) hs rb (by omega) (by omega) (by omega) (by omega) (by omega)
      have co := cellOf_ok (Z := Z) (L := L) (R := R) hd e0 e1 (show sn e j 2 < 2 ^ 31 by omega) (show sn e j 3 < 2 ^ 31 by omega)
      have st : B_X2_hasAll_2 Z I L R a b (nI j) = (if sn e j 2 < lw d ∧ sn e j 3 < lh d then some (.inl (nI (j + 1))) else some (.inr 0)) := by
        unfold B_X2_hasAll_2
        rw [e3, if_pos ((nI_ltI (by omega) (by omega)).mpr (by omega)), v2, bs_, v3, bs_, co, bs_]
        by_cases z : sn e j 2 < lw d ∧ sn e j 3 < lh d
        · have : sn e j 3 * lw d ≤ 8 * 8 := Nat.mul_le_mul (by omega) w8
          rw [if_pos z, if_neg (nI_neg1 (by omega)), if_pos z, nI_1]
        · rw [if_neg z, if_pos rfl, if_neg z]
      by_cases z : sn e j 2 < lw d ∧ sn e j 3 < lh d
      · rw [if_pos z] at st
        obtain ⟨q, q1, q2⟩ := ih (j + 1) (by omega)
        refine ⟨q, (itC_inl st).trans q1, q2.trans ⟨fun u => ⟨u.1, fun i h1 h2 => ?_⟩, fun u => ⟨u.1, fun i h1 h2 => u.2 i (by omega) h2⟩⟩⟩
        by_cases w : i = j
        · subst w
          exact z
        · exact u.2 i (by omega) h2
      · rw [if_neg z] at st
        exact ⟨false, itC_inr st, (fun u => by cases u), fun u => (z (u.2 j (Nat.le_refl _) (by omega))).elim⟩
  obtain ⟨q, q1, q2⟩ := key n 0 (by omega)
  exact ⟨q, by rw [D_X2_hasAll]; exact q1, q2.trans ⟨fun u => ⟨u.1, fun j hj => u.2 j (by omega) hj⟩, fun u => ⟨u.1, fun j _ hj => u.2 j hj⟩⟩⟩
theorem isPlace_ok {Z : Nat → Nat} {J : I_T} {L : L_T} {R : R_T} {d : ld_T} (hd : VD d) (e25 : J 68 25 = nI (lw d)) (e26 : J 68 26 = nI (cs_ d)) {x y : Nat} (hx : x ≤ 7) (hy : y ≤ 7) : D_X11_isPlace Z J L R 68 (nI x) (nI y) = some (bI (decide (x < lw d ∧ y < lh d))) := by
  have h64 := cs_le hd
  have w8 := hd.2.1
  have w2 := hd.1
  have ym : lw d * y ≤ 8 * 7 := Nat.mul_le_mul w8 hy
  rw [D_X11_isPlace, e25, e26, nI_mul]
  by_cases p : x < lw d
  · rw [if_pos ((nI_ltI (by omega) (by omega)).mpr p)]
    by_cases q : y < lh d
    · have : lw d * y < cs_ d := Nat.mul_lt_mul_of_pos_left q (by omega)
      rw [if_pos ((nI_ltI (by omega) (by omega)).mpr this), decide_eq_true (show x < lw d ∧ y < lh d from ⟨p, q⟩)]
      rfl
    · have : cs_ d ≤ lw d * y := Nat.mul_le_mul_left _ (by omega)
      rw [if_neg (fun u => by have := (nI_ltI (by omega) (by omega)).mp u; omega), decide_eq_false (fun u : x < lw d ∧ y < lh d => q u.2)]
      rfl
  · rw [if_neg (fun u => p ((nI_ltI (by omega) (by omega)).mp u)), decide_eq_false (fun u : x < lw d ∧ y < lh d => p u.1)]
    rfl
/-- the model's hand of a land and a sight: the sight is there, the land is there, all is in it -/
theorem laySight_ok {sh : sh_T} {I J : I_T} {L L' : L_T} {R : R_T} (h : Inv sh I L R) {k j : Nat} (hk : k < 2) (hj : j < 2) {d : ld_T} (hd : VD d) (ml : ML I k d) (hv : ∀ (I' : I_T) (L' : L_T), I' 73 = I 73 → I' 74 = I 74 → ∃ I'', D_X11_hand sh.2.2 I' L' R 68 (nI k) = some (1, I'') ∧ HD I'' k d ∧ Fr I' I'') (hs : ∀ (I' : I_T) (L' : L_T), I' 73 = I 73 → D_X11_is sh.2.2 I' L' R 68 3 (nI j) = some 1) {n x y : Nat} {e : Nat → Nat → Int32} (v : VSight n x y e) (m0 : I 77 (43 * j) = nI x) (m1 : I 77 (43 * j + 1) = nI y) (m2 : I 77 (43 * j + 2) = nI n) (m3 : ∀ i q, i < n → q < 4 → I 77 (43 * j + (3 + 4 * i + q)) = e i q) (e73 : J 73 = I 73) (e74 : J 74 = I 74) (e77 : J 77 = I 77) {m : Nat} (hm : m ≤ 12) : ∃ (q : Bool) (J' : I_T), D_X11_laySight sh.2.2 J L' R 68 (nI k) (nI j) (nI m) = some (bI q, J') ∧ (q = true ↔ allIn d n x y e) ∧ HD J' k d ∧ J' 68 55 = nI j ∧ Fr (up2 J 68 55 (nI j)) J' := by
  have n10 := v.1
  have x7 := v.2.1
  have y7 := v.2.2.1
  have hr : D_X11_hasSight sh.2.2 J L' R 68 (nI j) = some (bI true, up2 J 68 55 (nI j)) := hasS_eq (hs _ L' (by rw [up2_ne (by omega)]; exact e73))
  obtain ⟨J', a1, a2, a3⟩ := hv (up2 J 68 55 (nI j)) L' (by rw [up2_ne (by omega)]; exact e73) (by rw [up2_ne (by omega)]; exact e74)
  have j55 : J' 68 55 = nI j := by rw [a3.2 55 (by omega), up2_s]
  have j77 : J' 77 = I 77 := by rw [a3.1 77 (by omega) (by omega) (by omega), up2_ne (by omega)]; exact e77
  have so : ∀ i, i < 43 → D_X11_sightOf sh.2.2 J' L' R 68 (nI i) = some (I 77 (43 * j + i)) := fun i hi => by rw [sightOf_ok h hj j55 hi, j77]
  have s0 : D_X11_sightOf sh.2.2 J' L' R 68 0 = some (nI x) := by rw [← m0]; exact so 0 (by omega)
  have s1 : D_X11_sightOf sh.2.2 J' L' R 68 1 = some (nI y) := by rw [← m1]; exact so 1 (by omega)
  have s2 : D_X11_sightOf sh.2.2 J' L' R 68 2 = some (nI n) := by rw [← m2]; exact so 2 (by omega)
  have key : ∀ k' i, i + k' = n → ∃ q : Bool, itC (B_X11_laySight_48 sh.2.2 J' L' R 68) (nI i) = some (bI q, J') ∧ (q = true ↔ ∀ i', i ≤ i' → i' < n → sn e i' 2 < lw d ∧ sn e i' 3 < lh d) := by
    intro k'
    induction k' with
    | zero =>
      intro i hi
      have : i = n := by omega
      subst this
      refine ⟨true, itC_inr ?_, fun _ i' h1 h2 => by omega, fun _ => rfl⟩
      unfold B_X11_laySight_48
      rw [s2, bs_, if_neg Int32.lt_irrefl]
      rfl
    | succ k' ih =>
      intro i hi
      obtain ⟨l1, l2, l3, l4, l5, l6, l7⟩ := v.line (j := i) (by omega)
      have t2 : D_X11_sightOf sh.2.2 J' L' R 68 (5 + 4 * nI i) = some (nI (sn e i 2)) := by
        rw [← l4, ← m3 i 2 (by omega) (by omega), show (5 : Int32) + 4 * nI i = nI (3 + 4 * i + 2) by rw [show (5 : Int32) = nI 5 from rfl, show (4 : Int32) = nI 4 from rfl, nI_mul, nI_add]; congr 1; omega]
        exact so _ (by omega)
      have t3 : D_X11_sightOf sh.2.2 J' L' R 68 (6 + 4 * nI i) = some (nI (sn e i 3)) := by
        rw [← l6, ← m3 i 3 (by omega) (by omega), show (6 : Int32) + 4 * nI i = nI (3 + 4 * i + 3) by rw [show (6 : Int32) = nI 6 from rfl, show (4 : Int32) = nI 4 from rfl, nI_mul, nI_add]; congr 1; omega]
        exact so _ (by omega)
      have st : B_X11_laySight_48 sh.2.2 J' L' R 68 (nI i) = (if bI (decide (sn e i 2 < lw d ∧ sn e i 3 < lh d)) = 0 then some (.inr (0, J')) else some (.inl (nI (i + 1)))) := by
        unfold B_X11_laySight_48
        rw [s2, bs_, if_pos ((nI_ltI (by omega) (by omega)).mpr (by omega)), t2, bs_, t3, bs_, isPlace_ok hd a2.2.1 a2.2.2.1 l5 l7, bs_, nI_1]
      by_cases z : sn e i 2 < lw d ∧ sn e i 3 < lh d
      · rw [decide_eq_true z, if_neg (show ¬ bI true = 0 by decide)] at st
        obtain ⟨q, q1, q2⟩ := ih (i + 1) (by omega)
        refine ⟨q, (itC_inl st).trans q1, q2.trans ⟨fun u i' h1 h2 => ?_, fun u i' h1 h2 => u i' (by omega) h2⟩⟩
        by_cases w : i' = i
        · subst w
          exact z
        · exact u i' (by omega) h2
      · rw [decide_eq_false z, if_pos (show bI false = 0 from rfl)] at st
        exact ⟨false, itC_inr st, (fun u => by cases u), fun u => (z (u i (Nat.le_refl _) (by omega))).elim⟩
  have hm' : ((0 : Nat) : Int) ≤ (nI m).toInt ∧ (nI m).toInt ≤ (12 : Nat) := by rw [nI_toInt (by omega)]; omega
  have inm : D_X11_in sh.2.2 J L' R (nI m) 0 12 = some (bI (decide (((0 : Nat) : Int) ≤ (nI m).toInt ∧ (nI m).toInt ≤ (12 : Nat)))) := in_rng (nI m) (a := 0) (b := 12) (by omega) (by omega)
  have base : D_X11_laySight sh.2.2 J L' R 68 (nI k) (nI j) (nI m) = (if bI (decide (x < lw d ∧ y < lh d)) = 0 then some (0, J') else D_X11_laySight_48 sh.2.2 J' L' R 68 0) := by
    rw [D_X11_laySight, inm, bs_, decide_eq_true hm', if_neg (show ¬ bI true = 0 by decide), hr, bs_, if_neg (show ¬ bI true = 0 by decide)]
    rw [show D_X11_hand sh.2.2 (bI true, up2 J 68 55 (nI j)).2 L' R 68 (nI k) = _ from a1, bs_, if_neg (show ¬ (1 : Int32) = 0 by decide)]
    dsimp only
    rw [s0, bs_, s1, bs_, isPlace_ok hd a2.2.1 a2.2.2.1 x7 y7, bs_]
  by_cases z : x < lw d ∧ y < lh d
  · obtain ⟨q, q1, q2⟩ := key n 0 (by omega)
    refine ⟨q, J', ?_, q2.trans ⟨fun u => ⟨z, fun j hj => u j (by omega) hj⟩, fun u i _ h2 => u.2 i h2⟩, a2, j55, a3⟩
    rw [base, decide_eq_true z, if_neg (show ¬ bI true = 0 by decide)]
    exact q1
  · refine ⟨false, J', ?_, ⟨(fun u => by cases u), fun u => (z u.1).elim⟩, a2, j55, a3⟩
    rw [base, decide_eq_false z, if_pos (show bI false = 0 from rfl)]
    rfl
