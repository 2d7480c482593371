/-! strait -/
def slv (d : ld_T) (l c : Nat) : Bool := decide (l < d 6 c)
theorem wat_kd {d : ld_T} {l : Nat} (i : Nat) : wat d l i = Kd d (slv d l) false i := by
  unfold wat Kd slv
  by_cases u : l < d 6 i
  · rw [decide_eq_true u, decide_eq_false (show ¬ d 6 i ≤ l by omega)]
    rfl
  · rw [decide_eq_false u, decide_eq_true (show d 6 i ≤ l by omega)]
    rfl
theorem grid_conn {d : ld_T} (hd : VD d) {P : Nat → Bool} (h : ∀ c, c < cs_ d → P c = true) : ∀ n c, c < n → c < cs_ d → Rch d P 0 c := by
  have h0 : 0 < lw d := by have := hd.1; omega
  intro n
  induction n with
  | zero => intro c hc; omega
  | succ n ih =>
    intro c hc hcs
    by_cases c0 : c = 0
    · subst c0
      exact .refl hcs (h 0 hcs)
    · by_cases q : c % lw d = 0
      · have cw : lw d ≤ c := by
          rcases Nat.lt_or_ge c (lw d) with z | z
          · rw [Nat.mod_eq_of_lt z] at q
            exact (c0 q).elim
          · exact z
        have e : nx d c 0 = some (c - lw d) := by
          unfold nx
          rw [if_pos rfl, if_neg (by omega)]
        exact (ih (c - lw d) (by omega) (by omega)).step (adj_sym hd hcs ⟨0, by omega, e⟩) (h c hcs)
      · have e : nx d c 3 = some (c - 1) := by
          unfold nx
          rw [if_neg (by decide), if_neg (by decide), if_neg (by decide), if_pos rfl, if_neg q]
        exact (ih (c - 1) (by omega) (by omega)).step (adj_sym hd hcs ⟨3, by omega, e⟩) (h c hcs)
theorem lab_iff {d : ld_T} (hd : VD d) {s : Nat → Bool} {lab : Nat → Nat} (h : ∀ q, LabS d (Kd d s q) lab) {a b : Nat} (ha : a < cs_ d) (hb : b < cs_ d) {q : Bool} (sa : s a = q) : lab a = lab b ↔ Rch d (Kd d s q) a b := by
  have ka : Kd d s q a = true := by rw [Kd_lt ha, sa]; simp
  constructor
  · intro e
    have kb : Kd d s (s b) b = true := by rw [Kd_lt hb]; simp
    have r1 := (h q a ha ka).1
    have r2 := (h (s b) b hb kb).1
    have e1 := (r1.ends hd).2.2
    have e2 := (r2.ends hd).2.2
    rw [← e, Kd_lt e1.1] at e2
    rw [Kd_lt e1.1] at e1
    have sq : s b = q := by
      have u := e1.2
      have v := e2.2
      simp at u v
      rw [← v, u]
    rw [sq, ← e] at r2
    exact r1.trans (r2.sym hd)
  · exact fun r => lab_eq hd (h q) r
theorem strait_loop {sh : sh_T} {I J0 : I_T} {L : L_T} {R : R_T} (h : Inv sh I L R) {a : Nat} {d : ld_T} (hd : VD d) (hl : CL I L a d) (lz : LZ sh.2.2 R a) (e25 : J0 68 25 = nI (lw d)) (e26 : J0 68 26 = nI (cs_ d)) (e31 : J0 68 31 = -1) (e80 : ∀ c, c < cs_ d → J0 80 c = nI (d 6 c)) {I' : I_T} {u v : Nat} (hu : u < cs_ d) (hv : v < cs_ d) : ∀ k l, l + k = 9 → ∀ J, (∀ y, y ≠ 68 → y ≠ 91 → J y = J0 y) → (∀ j, j ≠ 27 → J 68 j = J0 68 j) → J 68 27 = nI l → ∃ r J', itC (B_X10_strait_38 sh.2.2 I L R (nI u) (nI v) a) (nI l) = some r ∧ itC (B_X11_strait_36 sh.2.2 I' L R 68 (nI u) (nI v)) J = some (r, J') ∧ ∀ y, y ≠ 68 → y ≠ 91 → J' y = J0 y := by
  have h64 := cs_le hd
  intro k
  induction k with
  | zero =>
    intro l hl9 J f1 f2 f27
    have : l = 9 := by omega
    subst this
    obtain ⟨x, hx, xs⟩ := water_ok (Z := sh.2.2) (R := R) hd hl lz (show 9 ≤ 9 by omega)
    have all : ∀ c, c < cs_ d → tb x c = true := fun c hc => by
      have := (hd.2.2.2.2.2.2.2.2.2.1 c).1
      rw [xs c (by omega)]
      unfold wat
      rw [decide_eq_true hc, decide_eq_true this]
      rfl
    have xin : inC d x := fun i hi ge => by
      rw [xs i hi]
      unfold wat
      rw [decide_eq_false (by omega)]
      rfl
    obtain ⟨y, hy, ys⟩ := part_ok (Z := sh.2.2) (R := R) hd hl xin hu (all u hu)
    have yv : tb y v = true := (ys v (by omega)).mpr (((grid_conn hd all (cs_ d) u hu hu).sym hd).trans (grid_conn hd all (cs_ d) v hv hv))
    refine ⟨nI 9, J, itC_inr ?_, itC_inr ?_, f1⟩
    · unfold B_X10_strait_38
      rw [if_neg (show ¬ (9 : Int32) < nI 9 from Int32.lt_irrefl), hx, bs_, has_ok (by omega), bs_, all u hu, if_neg (show ¬ bI true = 0 by decide), bit_ok (by omega), bs_, hy, bs_, has_ok (by omega), bs_, yv, if_neg (show ¬ bI true = 0 by decide)]
    · unfold B_X11_strait_36
      rw [f27, if_neg (show ¬ nI 9 < 9 from Int32.lt_irrefl)]
      rfl
  | succ k ih =>
    intro l hl9 J f1 f2 f27
    have l9 : l ≤ 9 := by omega
    obtain ⟨x, hx, xs⟩ := water_ok (Z := sh.2.2) (R := R) hd hl lz l9
    have xk : ∀ i, i < 64 → tb x i = Kd d (slv d l) false i := fun i hi => by rw [xs i hi, wat_kd]
    have xin : inC d x := fun i hi ge => by rw [xk i hi, Kd_ge ge]
    have gs : ∀ J'' : I_T, (∀ y, y ≠ 91 → J'' y = J y) → SoilA sh.2.2 J'' L R d (slv d l) := fun J'' fr i hi => soil_ok h hd l9 hi (by rw [fr 68 (by omega)]; exact f27) (by rw [fr 68 (by omega), f2 31 (by omega)]; exact e31) (by rw [fr 80 (by omega), f1 80 (by omega) (by omega)]; exact e80 i hi)
    obtain ⟨J2, lab, a1, a2, a3, a4⟩ := findParts_ok (Z := sh.2.2) (J := J) (L := L) (R := R) (s := slv d l) hd (h.r 68 45 91 rfl) (h.z 91 64 rfl) (by rw [f2 25 (by omega)]; exact e25) (by rw [f2 26 (by omega)]; exact e26) (fun J'' fr => gs J'' fr)
    have G27 : J2 68 27 = nI l := by rw [a2 68 (by omega)]; exact f27
    obtain ⟨r, J', A, B, C⟩ := ih (l + 1) (by omega) (up2 J2 68 27 (nI (l + 1))) (fun y y1 y2 => by rw [up2_ne y1, a2 y y2]; exact f1 y y1 y2) (fun j j1 => by rw [up2_j j1, a2 68 (by omega)]; exact f2 j j1) (up2_s _ _ _ _)
    have nl : ¬ (9 : Int32) < nI l := fun z => by have := (nI_ltI (a := 9) (by omega) (by omega)).mp z; omega
    have ll : nI l < 9 := (nI_ltI (b := 9) (by omega) (by omega)).mpr (by omega)
    have M77 : D_X11_strait_77 sh.2.2 J2 L R 68 (nI u) (nI v) = some (.inl (up2 J2 68 27 (nI (l + 1)))) := by
      rw [D_X11_strait_77, G27, nI_1]
      rfl
    have su := gs J2 a2 u hu
    have iu : inb (nI u) (sh.2.2 91) = true := inb_nI (by rw [h.z 91 64 rfl]; omega) (by omega)
    have iv : inb (nI v) (sh.2.2 91) = true := inb_nI (by rw [h.z 91 64 rfl]; omega) (by omega)
    have r45 := h.r 68 45 91 rfl
    have lu := a3 u hu
    have lv' := a3 v hv
    cases sU : slv d l u with
    | true =>
      have xu : tb x u = false := by rw [xk u (by omega), Kd_lt hu, sU]; rfl
      refine ⟨r, J', (itC_inl ?_).trans A, (itC_inl ?_).trans B, C⟩
      · unfold B_X10_strait_38
        rw [if_neg nl, hx, bs_, has_ok (by omega), bs_, xu, if_pos (show bI false = 0 from rfl), nI_1]
      · unfold B_X11_strait_36
        rw [f27, if_pos ll, a1, bs_, su, bs_, sU, if_neg (show ¬ bI true = 0 by decide), M77]
    | false =>
      have xu : tb x u = true := by rw [xk u (by omega), Kd_lt hu, sU]; rfl
      obtain ⟨y, hy, ys⟩ := part_ok (Z := sh.2.2) (R := R) hd hl xin hu xu
      have li := lab_iff hd a4 hu hv sU
      have yi : tb y v = true ↔ lab u = lab v := by
        rw [ys v (by omega), li]
        exact ⟨Rch.mono (fun i hi e => by rw [← xk i (by omega)]; exact e) hd, Rch.mono (fun i hi e => by rw [xk i (by omega)]; exact e) hd⟩
      by_cases z : lab u = lab v
      · have yv := yi.mpr z
        refine ⟨nI l, J2, itC_inr ?_, itC_inr ?_, fun y y1 y2 => by rw [a2 y y2]; exact f1 y y1 y2⟩
        · unfold B_X10_strait_38
          rw [if_neg nl, hx, bs_, has_ok (by omega), bs_, xu, if_neg (show ¬ bI true = 0 by decide), bit_ok (by omega), bs_, hy, bs_, has_ok (by omega), bs_, yv, if_neg (show ¬ bI true = 0 by decide)]
        · unfold B_X11_strait_36
          rw [f27, if_pos ll, a1, bs_, su, bs_, sU, if_pos (show bI false = 0 from rfl), r45, bs_, if_pos iu, if_pos iv, cl_nI (by omega), cl_nI (by omega), lu.1, lv'.1, if_pos (by rw [z]), G27]
      · have yv : tb y v = false := by
          cases e : tb y v with
          | false => rfl
          | true => exact (z (yi.mp e)).elim
        refine ⟨r, J', (itC_inl ?_).trans A, (itC_inl ?_).trans B, C⟩
        · unfold B_X10_strait_38
          rw [if_neg nl, hx, bs_, has_ok (by omega), bs_, xu, if_neg (show ¬ bI true = 0 by decide), bit_ok (by omega), bs_, hy, bs_, has_ok (by omega), bs_, yv, if_pos (show bI false = 0 from rfl), nI_1]
        · unfold B_X11_strait_36
          have d1 := lu.2
          have d2 := lv'.2
          rw [f27, if_pos ll, a1, bs_, su, bs_, sU, if_pos (show bI false = 0 from rfl), r45, bs_, if_pos iu, if_pos iv, cl_nI (by omega), cl_nI (by omega), lu.1, lv'.1, if_neg (fun w => z ((nI_eq (by omega) (by omega)).mp w)), M77]
theorem misCell_ok {Z : Nat → Nat} {J : I_T} {L : L_T} {R : R_T} {d : ld_T} (hd : VD d) (e26 : J 68 26 = nI (cs_ d)) (v : Int32) : D_X11_isCell Z J L R 68 v = some (bI (decide (0 ≤ v.toInt ∧ v.toInt < (cs_ d : Nat)))) := by
  have h64 := cs_le hd
  rw [D_X11_isCell, e26, in_cnt v (by omega), bs_, if_pos (bI_isb _)]
theorem q_strait {sh : sh_T} {I : I_T} {L : L_T} {R : R_T} (h : Inv sh I L R) (v p q : Int32) : ∃ r I2, D_X10_strait sh.2.2 I L R 6 v p q = some r ∧ D_X11_strait sh.2.2 I L R 68 v p q = some (r, I2) ∧ Inv sh I2 L R := by
  rcases land_or h v with ⟨a, b⟩ | ⟨k, d, hk, hv, a, vd, cl, ml, lz, b⟩
  · refine ⟨-1, _, ?_, ?_, h.code 0 0⟩
    · rw [D_X10_strait, h.r 6 0 7 rfl, bs_, a]
      rfl
    · rw [D_X11_strait, bs_, b _ L (up2_ne (by omega)), bs_, if_pos (show (0 : Int32) = 0 from rfl)]
  · obtain ⟨J, e, hd, fr⟩ := b (up2 I 68 0 0) L (up2_ne (by omega)) (up2_ne (by omega))
    have hi : Inv sh J L R := h.fr (fun a ha => fr.at (pers_68 ha).1 (pers_68 ha).2.1 (pers_68 ha).2.2)
    have h64 := cs_le vd
    have C1 : D_X10_strait sh.2.2 I L R 6 v p q = (if bI (decide (0 ≤ p.toInt ∧ p.toInt < (cs_ d : Nat))) = 0 then some (-1) else if bI (decide (0 ≤ q.toInt ∧ q.toInt < (cs_ d : Nat))) = 0 then some (-1) else D_X10_strait_38 sh.2.2 I L R p q (12 + 5 * k) 0) := by
      rw [D_X10_strait, h.r 6 0 7 rfl, bs_, a, bs_, ocase, isCell_ok vd cl p, bs_, isCell_ok vd cl q, bs_]
    have M1 : D_X11_strait sh.2.2 I L R 68 v p q = (if bI (decide (0 ≤ p.toInt ∧ p.toInt < (cs_ d : Nat))) = 0 then some (-1, J) else if bI (decide (0 ≤ q.toInt ∧ q.toInt < (cs_ d : Nat))) = 0 then some (-1, J) else D_X11_strait_36 sh.2.2 (up2 J 68 27 0) L R 68 p q (up2 J 68 27 0)) := by
      rw [D_X11_strait, bs_, e, bs_, if_neg (show ¬ (1 : Int32) = 0 by decide)]
      rw [show D_X11_isCell sh.2.2 ((1 : Int32), J).2 L R 68 p = _ from misCell_ok vd hd.2.2.1 p, bs_, show D_X11_isCell sh.2.2 ((1 : Int32), J).2 L R 68 q = _ from misCell_ok vd hd.2.2.1 q, bs_]
      rfl
    rw [C1, M1]
    by_cases hp : 0 ≤ p.toInt ∧ p.toInt < (cs_ d : Nat)
    · rw [decide_eq_true hp, if_neg (show ¬ bI true = 0 by decide), if_neg (show ¬ bI true = 0 by decide)]
      by_cases hq : 0 ≤ q.toInt ∧ q.toInt < (cs_ d : Nat)
      · rw [decide_eq_true hq, if_neg (show ¬ bI true = 0 by decide), if_neg (show ¬ bI true = 0 by decide)]
        obtain ⟨i, il, rfl⟩ := clamp_lt hp (by omega)
        obtain ⟨j, jl, rfl⟩ := clamp_lt hq (by omega)
        obtain ⟨r, J', A, B, C⟩ := strait_loop (J0 := J) (I' := up2 J 68 27 0) h vd cl lz hd.2.1 hd.2.2.1 hd.2.2.2.2.2.2.2.1 (fun c hc => (hd.2.2.2.2.2.2.2.2 c hc).1) il jl 9 0 (by omega) (up2 J 68 27 0) (fun y y1 _ => up2_ne y1) (fun j j1 => up2_j j1) (up2_s _ _ _ _)
        exact ⟨r, J', A, B, h.fr (fun y hy => by
          have p := pers_68 hy
          have p91 : y ≠ 91 := by unfold pers at hy; omega
          rw [C y p.1 p91, fr.at p.1 p.2.1 p.2.2])⟩
      · rw [decide_eq_false hq, if_pos (show bI false = 0 from rfl), if_pos (show bI false = 0 from rfl)]
        exact ⟨_, _, rfl, rfl, hi⟩
    · rw [decide_eq_false hp, if_pos (show bI false = 0 from rfl), if_pos (show bI false = 0 from rfl)]
      exact ⟨_, _, rfl, rfl, hi⟩
