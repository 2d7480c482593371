/-! texts: the lines of people, both sides -/
section
variable {Z : Nat → Nat} {L : L_T} {R : R_T} {n : Nat} {T : Nat → Nat}
theorem mch_bind {w q0 : Nat} {k : I_T → L_T → Option (Int32 × I_T × L_T)} {g : Int32 × I_T × L_T → Option (Int32 × I_T × L_T)} (hg : ∀ K L, g (0, K, L) = some (0, K, L)) : ∀ c i K L, (mch Z R w q0 k c i K L).bind g = mch Z R w q0 (fun K L => (k K L).bind g) c i K L := by
  intro c
  induction c with
  | zero => intro i K L; rfl
  | succ c ih =>
    intro i K L
    show ((D_X11_take Z K L R 68 (nI (q0 + i)) (nI (lo_ w i)) (nI (hi_ w i))).bind fun q1 => if q1.1 = 0 then some (0, q1.2.1, q1.2.2) else mch Z R w q0 k c (i + 1) q1.2.1 q1.2.2).bind g = (D_X11_take Z K L R 68 (nI (q0 + i)) (nI (lo_ w i)) (nI (hi_ w i))).bind fun q1 => if q1.1 = 0 then some (0, q1.2.1, q1.2.2) else mch Z R w q0 (fun K L => (k K L).bind g) c (i + 1) q1.2.1 q1.2.2
    cases D_X11_take Z K L R 68 (nI (q0 + i)) (nI (lo_ w i)) (nI (hi_ w i)) with
    | none => rfl
    | some q =>
      rw [bs_, bs_]
      by_cases z : q.1 = 0
      · rw [if_pos z, if_pos z]
        exact hg _ _
      · rw [if_neg z, if_neg z]
        exact ih _ _ _
noncomputable def kCell (Z : Nat → Nat) (R : R_T) (I : I_T) (L : L_T) : Option (Int32 × I_T × L_T) := (R 68 20).bind fun q5 => if inb (0 : Int32) (Z q5) = true then (D_X11_greater Z I L R (I 68 21) (I q5 (0 : Int32).toNatClampNeg)).bind fun q7 => (some (up2 I 68 21 q7)).bind fun I8 => if inb ((0 : Int32) + (1 : Int32)) (Z q5) = true then (D_X11_greater Z I8 L R (I8 68 22) (I8 q5 ((0 : Int32) + (1 : Int32)).toNatClampNeg)).bind fun q10 => (some (up2 I8 68 22 q10)).bind fun I11 => some (((1 : Int32), I11, L)) else none else none
theorem cell_mch5 {K : I_T} {L : L_T} : D_X11_takeCell Z K L R 68 0 = mch Z R 5 0 (kCell Z R) 2 0 K L := rfl
theorem cell_mch6 {K : I_T} {L : L_T} : D_X11_takeCell Z K L R 68 0 = mch Z R 6 0 (kCell Z R) 2 0 K L := rfl
theorem cell_mch7 {K : I_T} {L : L_T} : D_X11_takeCell Z K L R 68 0 = mch Z R 7 0 (kCell Z R) 2 0 K L := rfl
theorem cell_mch8 {K : I_T} {L : L_T} : D_X11_takeCell Z K L R 68 0 = mch Z R 8 0 (kCell Z R) 2 0 K L := rfl
def cellK (K : I_T) : I_T := up2 (up2 K 68 21 (grt (K 68 21) (K 79 0))) 68 22 (grt (K 68 22) (K 79 1))
theorem cellK_o (K : I_T) {a : Nat} (h : a ≠ 68) : cellK K a = K a := by
  unfold cellK
  rw [up2_ne h, up2_ne h]
theorem cellK_j (K : I_T) {j : Nat} (h : j ≠ 21) (h2 : j ≠ 22) : cellK K 68 j = K 68 j := by
  unfold cellK
  rw [up2_j h2, up2_j h]
theorem kCell_ok (r20 : R 68 20 = some 79) (z79 : Z 79 = 4) (K : I_T) (L : L_T) : kCell Z R K L = some (1, cellK K, L) := by
  unfold kCell cellK
  rw [r20, bs_, z79, if_pos (show inb 0 4 = true from rfl), grt_ok, bs_, bs_, show (0 : Int32) + 1 = 1 from rfl, if_pos (show inb 1 4 = true from rfl), grt_ok, bs_, bs_, up2_j (show (22 : Nat) ≠ 21 by decide), up2_ne (show (79 : Nat) ≠ 68 by decide), show (0 : Int32).toNatClampNeg = 0 from rfl, show (1 : Int32).toNatClampNeg = 1 from rfl]
noncomputable def gP1 (Z : Nat → Nat) (R : R_T) (v1 : Int32) (I : I_T) (L : L_T) : Option (Int32 × I_T × L_T) := (R 68 19).bind fun q3 => if inb (5 : Int32) (Z q3) = true then if (I q3 (5 : Int32).toNatClampNeg) < (5 : Int32) then (if inb ((6 : Int32) + (I q3 (5 : Int32).toNatClampNeg)) (Z q3) = true then (some (up2 I q3 (((6 : Int32) + (I q3 (5 : Int32).toNatClampNeg)).toNatClampNeg) v1)).bind fun I7 => (R 68 20).bind fun q8 => if inb (0 : Int32) (Z q8) = true then if inb ((11 : Int32) + (I q3 (5 : Int32).toNatClampNeg)) (Z q3) = true then (some (up2 I7 q3 (((11 : Int32) + (I q3 (5 : Int32).toNatClampNeg)).toNatClampNeg) (I7 q8 (0 : Int32).toNatClampNeg))).bind fun I11 => if inb (1 : Int32) (Z q8) = true then if inb ((16 : Int32) + (I q3 (5 : Int32).toNatClampNeg)) (Z q3) = true then (some (up2 I11 q3 (((16 : Int32) + (I q3 (5 : Int32).toNatClampNeg)).toNatClampNeg) (I11 q8 (1 : Int32).toNatClampNeg))).bind fun I14 => if inb (5 : Int32) (Z q3) = true then if inb (5 : Int32) (Z q3) = true then (some (up2 I14 q3 ((5 : Int32).toNatClampNeg) ((I14 q3 (5 : Int32).toNatClampNeg) + (1 : Int32)))).bind fun I17 => some (((1 : Int32), I17, L)) else none else none else none else none else none else none else none) else (some (((1 : Int32), I, L))) else none
noncomputable def gPers (Z : Nat → Nat) (R : R_T) (v1 : Int32) (q1 : Int32 × I_T × L_T) : Option (Int32 × I_T × L_T) := if (q1.1) = 0 then (some (((0 : Int32), q1.2.1, q1.2.2))) else gP1 Z R v1 q1.2.1 q1.2.2
theorem person_gP {K : I_T} {L : L_T} {v : Int32} : D_X11_personLine Z K L R 68 v = (D_X11_takeCell Z K L R 68 0).bind (gPers Z R v) := rfl
noncomputable def kPers (Z : Nat → Nat) (R : R_T) (v : Int32) (K : I_T) (L : L_T) : Option (Int32 × I_T × L_T) := (kCell Z R K L).bind (gPers Z R v)
theorem person_mch {K : I_T} {L : L_T} {v : Int32} {w : Nat} (hw : w = 6 ∨ w = 7 ∨ w = 8) : D_X11_personLine Z K L R 68 v = mch Z R w 0 (kPers Z R v) 2 0 K L := by
  have hg : ∀ K L, gPers Z R v (0, K, L) = some (0, K, L) := fun K L => if_pos rfl
  rw [person_gP]
  rcases hw with rfl | rfl | rfl
  · rw [cell_mch6]; exact mch_bind hg 2 0 K L
  · rw [cell_mch7]; exact mch_bind hg 2 0 K L
  · rw [cell_mch8]; exact mch_bind hg 2 0 K L
def persK (K : I_T) (c : Nat) (v : Int32) : I_T := up2 (up2 (up2 (up2 (cellK K) 78 (6 + c) v) 78 (11 + c) (K 79 0)) 78 (16 + c) (K 79 1)) 78 5 (nI (c + 1))
theorem kPers_ok (r19 : R 68 19 = some 78) (z78 : Z 78 = 149) (r20 : R 68 20 = some 79) (z79 : Z 79 = 4) {K : I_T} {c : Nat} (hc : c ≤ 5) (k5 : K 78 5 = nI c) (v : Int32) (L : L_T) : kPers Z R v K L = some (1, if c < 5 then persK K c v else cellK K, L) := by
  unfold kPers
  rw [kCell_ok r20 z79, bs_]
  unfold gPers
  have k5' : cellK K 78 5 = nI c := by rw [cellK_o K (by omega)]; exact k5
  have e6 : (6 : Int32) + nI c = nI (6 + c) := nI_add 6 c
  have e11 : (11 : Int32) + nI c = nI (11 + c) := nI_add 11 c
  have e16 : (16 : Int32) + nI c = nI (16 + c) := nI_add 16 c
  dsimp only
  rw [if_neg (show ¬ (1 : Int32) = 0 by decide)]
  unfold gP1
  rw [r19, bs_, z78, if_pos (show inb 5 149 = true from rfl), show (5 : Int32).toNatClampNeg = 5 from rfl]
  by_cases z : c < 5
  · rw [if_pos (show cellK K 78 5 < 5 by rw [k5']; exact (nl_lt (k := 5) (j := 5) rfl (by omega) (by omega)).mpr z), k5', e6, e11, e16, if_pos (inb_nI (by omega) (by omega)), bs_, r20, bs_, z79, if_pos (show inb 0 4 = true from rfl), if_pos (inb_nI (by omega) (by omega)), bs_, if_pos (show inb 1 4 = true from rfl), if_pos (inb_nI (by omega) (by omega)), bs_, if_pos (show inb 5 149 = true from rfl), bs_, cl_nI (by omega), cl_nI (by omega), cl_nI (by omega), if_pos z]
    unfold persK
    rw [up2_j (show (5 : Nat) ≠ 16 + c by omega), up2_j (show (5 : Nat) ≠ 11 + c by omega), up2_j (show (5 : Nat) ≠ 6 + c by omega), k5', nI_1, up2_ne (show (79 : Nat) ≠ 78 by omega), up2_ne (show (79 : Nat) ≠ 78 by omega), cellK_o K (by omega)]
    rfl
  · rw [if_neg (show ¬ cellK K 78 5 < 5 by rw [k5']; exact fun u => z ((nl_lt (k := 5) (j := 5) rfl (by omega) (by omega)).mp u)), if_neg z]
theorem addPerson_ok {J : I_T} {c : Nat} (r8 : R 36 8 = some 39) (r9 : R 36 9 = some 40) (z39 : Z 39 = 5) (z40 : Z 40 = 5) (hc : c < 5) (j5 : J 36 5 = nI c) (v x : Int32) : D_X2_addPerson Z J L R 36 v x = some (up2 (up2 (up2 J 39 c v) 40 c x) 36 5 (nI (c + 1))) := by
  rw [D_X2_addPerson, r8, bs_, j5, put_ok (by omega) (by omega), bs_, r9, bs_, up2_ne (show (36 : Nat) ≠ 39 by omega), j5, put_ok (by omega) (by omega), bs_, bs_, up2_ne (show (36 : Nat) ≠ 40 by omega), up2_ne (show (36 : Nat) ≠ 39 by omega), j5, nI_1]
theorem ln_person {w : Nat} (hw : 6 ≤ w) (hw4 : w ≤ 8) (hr : ∀ (a j b : Nat), rlL.elem (a, j, b) = true → R a j = some b) (hz : ∀ (k n : Nat), zlL.elem (k, n) = true → Z k = n) {J : I_T} {F : Nat × Nat} {b i : Nat} (tp : TPc Z R J n T) (rt : RT Z J) (ct : CTok J T n b) (cf : CF J F) (hb : b < n) (hc : F.1 = 0 → CDr 0 J) : LRes Z R T n 0 b i F J L (nI w) (cst w) := by
  have r19 := hr 68 19 78 rfl
  have r20 := hr 68 20 79 rfl
  have z78 := hz 78 149 rfl
  have z79 := hz 79 4 rfl
  have w3 : w = 6 ∨ w = 7 ∨ w = 8 := by omega
  have nm : nm_ w = 2 := by rcases w3 with rfl | rfl | rfl <;> rfl
  have fw : fu w = true := decide_eq_true (by omega)
  have l0 : lo_ w 0 = 0 ∧ hi_ w 0 = 7 ∧ lo_ w 1 = 0 ∧ hi_ w 1 = 7 := by rcases w3 with rfl | rfl | rfl <;> exact ⟨rfl, rfl, rfl, rfl⟩
  refine line_gen (w := w) (s := 0) (q0 := 0) (pre := fun K => K) (k := kPers Z R (nI (w - 6))) (Pk := DRel 0) (by omega) (by omega) (by omega) (by omega) (hr 35 0 36 rfl) (hr 35 1 41 rfl) (hr 35 4 43 rfl) (hz 43 3 rfl) r19 z78 r20 z79 ?_ ?_ ?_ tp rt ct cf hb hc
  · intro b F J J3 N K LK hb f3 hN
    exact mrun (by omega) (by omega) (by omega) r19 z78 r20 z79 (fun _ _ _ => rfl) hb (fun K L K1 K2 L2 r K3 L3 h1 h2 ht h hbr => by
      rw [nm] at h
      exact disp_person hw hw4 (h1 fw) ht ((person_mch w3).trans h) hbr) f3 hN
  · intro J3 v hv cd hcc
    obtain ⟨c, c5q, jc⟩ := hcc fw
    have c5' : c < 5 := c5q
    have jc' : J3 36 5 = nI c := jc
    have o0 : lo_ w 0 ≤ v 0 ∧ v 0 ≤ hi_ w 0 := of_decide_eq_true (hv 0 (by omega)).1
    have o1 : lo_ w 1 ≤ v 1 ∧ v 1 ≤ hi_ w 1 := of_decide_eq_true (hv 1 (by omega)).1
    rw [l0.1, l0.2.1] at o0
    rw [l0.2.2.1, l0.2.2.2] at o1
    have j0 := (hv 0 (by omega)).2
    have j1 := (hv 1 (by omega)).2
    generalize hJa : up2 (up2 (up2 J3 39 c (nI (w - 6))) 40 c (nI (8 * v 1 + v 0))) 36 5 (nI (c + 1)) = Ja
    have a35 : Ja 35 = J3 35 := by rw [← hJa, up2_ne (by omega), up2_ne (by omega), up2_ne (by omega)]
    have ao : ∀ a, a ≠ 36 → a ≠ 39 → a ≠ 40 → Ja a = J3 a := fun a h1 h2 h3 => by rw [← hJa, up2_ne h1, up2_ne h3, up2_ne h2]
    have a36 : ∀ j, j ≠ 5 → Ja 36 j = J3 36 j := fun j h => by rw [← hJa, up2_j h, up2_ne (by omega), up2_ne (by omega)]
    have a365 : Ja 36 5 = nI (c + 1) := by rw [← hJa, up2_s]
    have a39 : Ja 39 c = nI (w - 6) := by rw [← hJa, up2_ne (by omega), up2_ne (by omega), up2_s]
    have a39' : ∀ p, p ≠ c → Ja 39 p = J3 39 p := fun p h => by rw [← hJa, up2_ne (by omega), up2_ne (by omega), up2_j h]
    have a40 : Ja 40 c = nI (8 * v 1 + v 0) := by rw [← hJa, up2_ne (by omega), up2_s]
    have a40' : ∀ p, p ≠ c → Ja 40 p = J3 40 p := fun p h => by rw [← hJa, up2_ne (by omega), up2_j h, up2_ne (by omega)]
    refine ⟨up2 (up2 Ja 35 9 (imax (J3 35 9) (nI (v 0)))) 35 10 (imax (J3 35 10) (nI (v 1))), take_l (hr 35 4 43 rfl) (hz 43 3 rfl) ?_, ⟨fun a ha => by rw [up2_ne (by omega), up2_ne (by omega), ao a (by omega) (by omega) (by omega)], fun j g1 g2 => by rw [up2_j g2, up2_j g1, a35]⟩, ⟨c + 1, c5q, ?_⟩, fun K2 L2 h79 _ _ dr => ?_⟩
    · rw [D_X5_takeLand, bs_, j0, j1, if_neg (fun u => by have := (nl_eq (k := 0) (j := 0) rfl (by omega) (by omega)).mp u; omega), if_neg (fun u => by have := (nl_eq (k := 1) (j := 1) rfl (by omega) (by omega)).mp u; omega), if_neg (fun u => by have := (nl_eq (k := 2) (j := 2) rfl (by omega) (by omega)).mp u; omega), if_neg (fun u => by have := (nl_eq (k := 3) (j := 3) rfl (by omega) (by omega)).mp u; omega), if_neg (fun u => by have := (nl_eq (k := 4) (j := 4) rfl (by omega) (by omega)).mp u; omega), if_neg (fun u => by have := (nl_eq (k := 5) (j := 5) rfl (by omega) (by omega)).mp u; omega), hr 35 0 36 rfl, bs_, show (6 : Int32) = nI 6 from rfl, show (8 : Int32) = nI 8 from rfl, nI_sub hw, nI_mul, nI_add, show v 1 * 8 + v 0 = 8 * v 1 + v 0 by omega, addPerson_ok (hr 36 8 39 rfl) (hr 36 9 40 rfl) (hz 39 5 rfl) (hz 40 5 rfl) c5' jc', bs_, hJa, tellOf_ok, bs_, a35]
    · unfold cnt_
      rw [if_pos rfl, up2_ne (by omega), up2_ne (by omega), a365]
    · have ld := dr.1 rfl
      have kc : K2 78 5 = nI c := by
        have := (dr.cnt (by omega)).2
        exact this.trans jc
      have ek := kPers_ok r19 z78 r20 z79 (Nat.le_of_lt c5') kc (nI (w - 6)) L2
      rw [if_pos c5'] at ek
      have q0 := h79 0 (by omega)
      have q1 := h79 1 (by omega)
      rw [Nat.zero_add] at q0 q1
      have p68 : persK K2 c (nI (w - 6)) 68 = cellK K2 68 := by unfold persK; rw [up2_ne (by omega), up2_ne (by omega), up2_ne (by omega), up2_ne (by omega)]
      have po : ∀ a, a ≠ 68 → a ≠ 78 → persK K2 c (nI (w - 6)) a = K2 a := fun a h1 h2 => by unfold persK; rw [up2_ne h2, up2_ne h2, up2_ne h2, up2_ne h2, cellK_o K2 h1]
      have p78 : ∀ j, j ≠ 5 → j ≠ 6 + c → j ≠ 11 + c → j ≠ 16 + c → persK K2 c (nI (w - 6)) 78 j = K2 78 j := fun j h1 h2 h3 h4 => by unfold persK; rw [up2_j h1, up2_j h4, up2_j h3, up2_j h2, cellK_o K2 (by omega)]
      refine ⟨_, ek, ⟨fun a a1 a2 a3 => po a a1 a2, fun j h1 h2 => by rw [p68]; exact cellK_j K2 h1 h2⟩, dr0 ?_⟩
      obtain ⟨⟨w', h, l, h', af, a1, a2, a3, a4, a5, a6, a7, a8, ⟨b1, b2, b3, b4, b5⟩, c1, c2, c3, c4, c5⟩, hh, hwk, cc, fc, fr, g1, g2, g3, g4, g5, g6, g7, g8, g9, g10⟩ := ld
      have ecc : cc = c := (nI_eq (by omega) (by omega)).mp (g2.symm.trans jc')
      subst ecc
      have jn : ∀ a, 36 ≤ a → up2 (up2 Ja 35 9 (imax (J3 35 9) (nI (v 0)))) 35 10 (imax (J3 35 10) (nI (v 1))) a = Ja a := fun a ha => by rw [up2_ne (by omega), up2_ne (by omega)]
      refine ⟨⟨w', h, l, h', af, a1, a2, a3, a4, a5, a6, a7, a8, ⟨?_, ?_, ?_, ?_, ?_⟩, ?_, ?_, ?_, ?_, ?_⟩, fun i hi => ?_, fun i hi => ?_, cc + 1, max fc (v 0), max fr (v 1), by omega, ?_, ?_, ?_, by omega, ?_, ?_, by omega, ?_, fun p hp => ?_⟩
      · rw [jn 36 (by omega), a36 0 (by omega)]; exact b1
      · rw [jn 36 (by omega), a36 1 (by omega)]; exact b2
      · rw [jn 36 (by omega), a36 2 (by omega)]; exact b3
      · rw [jn 36 (by omega), a36 3 (by omega)]; exact b4
      · rw [jn 36 (by omega), a36 4 (by omega)]; exact b5
      · rw [p78 0 (by omega) (by omega) (by omega) (by omega)]; exact c1
      · rw [p78 1 (by omega) (by omega) (by omega) (by omega)]; exact c2
      · rw [p78 2 (by omega) (by omega) (by omega) (by omega)]; exact c3
      · rw [p78 3 (by omega) (by omega) (by omega) (by omega)]; exact c4
      · rw [p78 4 (by omega) (by omega) (by omega) (by omega)]; exact c5
      · rw [jn 37 (by omega), ao 37 (by omega) (by omega) (by omega), p78 _ (by omega) (by omega) (by omega) (by omega)]
        exact hh i hi
      · rw [jn 38 (by omega), ao 38 (by omega) (by omega) (by omega), p78 _ (by omega) (by omega) (by omega) (by omega)]
        exact hwk i hi
      · rw [jn 36 (by omega)]; exact a365
      · unfold persK; rw [up2_s]
      · rw [up2_j (by omega), up2_s, g4]
        exact imax_nI (by omega) (by omega)
      · rw [p68]
        unfold cellK
        rw [up2_j (by omega), up2_s, q0]
        exact FEq_grt g6 (by omega) (by omega)
      · rw [up2_s, g7]
        exact imax_nI (by omega) (by omega)
      · rw [p68]
        unfold cellK
        rw [up2_s, q1]
        exact FEq_grt g9 (by omega) (by omega)
      · by_cases z : p = cc
        · subst z
          refine ⟨w - 6, v 0, v 1, by omega, by omega, by omega, by omega, by omega, by rw [jn 39 (by omega)]; exact a39, by rw [jn 40 (by omega)]; exact a40, ?_, ?_, ?_⟩
          · unfold persK; rw [up2_j (by omega), up2_j (by omega), up2_j (by omega), up2_s]
          · unfold persK; rw [up2_j (by omega), up2_j (by omega), up2_s, q0]
          · unfold persK; rw [up2_j (by omega), up2_s, q1]
        · obtain ⟨kd, x, y, e1, e2, e3, e4, e5, e6, e7, e8, e9, e10⟩ := g10 p (by omega)
          exact ⟨kd, x, y, e1, e2, e3, by omega, by omega, by rw [jn 39 (by omega), a39' p z]; exact e6, by rw [jn 40 (by omega), a40' p z]; exact e7, by rw [p78 _ (by omega) (by omega) (by omega) (by omega)]; exact e8, by rw [p78 _ (by omega) (by omega) (by omega) (by omega)]; exact e9, by rw [p78 _ (by omega) (by omega) (by omega) (by omega)]; exact e10⟩
  · intro K2 L2 v hv safe
    obtain ⟨c, c1, c2⟩ := safe
    have c1' : c ≤ 5 := c1
    refine ⟨_, kPers_ok r19 z78 r20 z79 c1' c2 (nI (w - 6)) L2, ?_, ?_⟩
    · by_cases z : c < 5
      · rw [if_pos z]
        exact ⟨fun a a1 a2 a3 => by unfold persK; rw [up2_ne a2, up2_ne a2, up2_ne a2, up2_ne a2, cellK_o K2 a1], fun j h1 h2 => by unfold persK; rw [up2_ne (by omega), up2_ne (by omega), up2_ne (by omega), up2_ne (by omega), cellK_j K2 h1 h2]⟩
      · rw [if_neg z]
        exact ⟨fun a a1 a2 a3 => cellK_o K2 a1, fun j h1 h2 => cellK_j K2 h1 h2⟩
    · by_cases z : c < 5
      · rw [if_pos z]
        exact ⟨c + 1, z, by unfold persK; exact up2_s _ _ _ _⟩
      · rw [if_neg z]
        exact ⟨c, c1, by rw [cellK_o K2 (by omega)]; exact c2⟩
end
