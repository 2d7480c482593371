/-! what is asked of a state -/
/-- the answer, by what; -2 for another -/
def askS (d : ld_T) (s : cr_T) (w : Int32) : Int32 :=
  if w = 0 then nI (s 6 0) else if w = 1 then nI (sm (s 5) (lpp d)) else if w = 2 then nI (sm (s 0) (cs_ d)) else if w = 3 then strd (slv d (s 6 0)) (s 1) (lpp d)
  else if 10 ≤ w.toInt ∧ w.toInt ≤ 59 ∧ w.toInt.toNat % 10 < lpp d then nI (s (if w.toInt.toNat / 10 = 5 then 5 else w.toInt.toNat / 10) (w.toInt.toNat % 10)) else -2
theorem sum_ok {Z : Nat → Nat} {I : I_T} {L : L_T} {R : R_T} {a n : Nat} {f : Nat → Nat} (hn : n ≤ Z a) (hz : Z a < 2 ^ 31) (e : ∀ j, j < n → I a j = nI (f j)) : D_X10_sum Z I L R a (nI n) = some (nI (sm f n)) := by
  refine itC_count (f := B_X10_sum_4 Z I L R a (nI n)) (fun j => (nI (sm f j), nI j)) (n := n) (fun j hj => ?_) ?_
  · unfold B_X10_sum_4
    simp only [cl_nI (show j < 2 ^ 31 by omega), e j hj]
    rw [if_pos ((nI_ltI (by omega) (by omega)).mpr hj), if_pos ((nI_ltI (by omega) (by omega)).mpr (by omega)), if_pos (inb_nI (by omega) (by omega)), nI_add, nI_1]
    rfl
  · unfold B_X10_sum_4
    rw [if_neg Int32.lt_irrefl]
theorem onSoil_ok {sh : sh_T} {I0 I : I_T} {L0 L : L_T} {R : R_T} (h : Inv sh I0 L0 R) {a : Nat} {d : ld_T} (hd : VD d) (cl : CL I L a d) {s : cr_T} (cc : CC I L d s) (vc : VC d s) : D_X0_onSoil sh.2.2 I L R 44 a = some (strd (slv d (s 6 0)) (s 1) (lpp d)) := by
  have p5 : lpp d ≤ 5 := hd.2.2.2.2.2.2.2.2.1
  have e5 : I a 5 = nI (lpp d) := cl.1 5 (by omega)
  refine itC_count (f := B_X0_onSoil_4 sh.2.2 I L R 44 a) (fun p => (strd (slv d (s 6 0)) (s 1) p, nI p)) (n := lpp d) (fun p hp => ?_) ?_
  · obtain ⟨w1, _⟩ := vc.2.2 p hp
    have g46 : D_X10_get sh.2.2 I L R 46 (nI p) = some (nI (s 1 p)) := cc.get (q := 1) h hd (by omega) (by omega) hp
    have wt := cc.wet hd (c := s 1 p) w1 (Z := sh.2.2) (J := I) (R := R) (L' := L)
    unfold B_X0_onSoil_4
    simp only [e5]
    rw [if_pos ((nI_ltI (by omega) (by omega)).mpr hp), h.r 44 1 46 rfl, bs_, g46, bs_, wt, bs_, nI_1]
    show _ = some (Sum.inl ((if slv d (s 6 0) (s 1 p) = true then strd (slv d (s 6 0)) (s 1) p ||| (1 <<< (nI p &&& 31)) else strd (slv d (s 6 0)) (s 1) p), nI (p + 1)))
    cases slv d (s 6 0) (s 1 p) with
    | false =>
      rw [if_neg (show ¬ bI (!false) = 0 by decide)]
      rfl
    | true =>
      rw [if_pos (show bI (!true) = 0 from rfl)]
      rfl
  · unfold B_X0_onSoil_4
    simp only [e5]
    rw [if_neg Int32.lt_irrefl]
theorem rem10 {w : Nat} (hw : w < 2 ^ 31) : nI w - nI w / 10 * 10 = nI (w % 10) ∧ nI w / 10 = nI (w / 10) := by
  have h2 : nI w / 10 = nI (w / 10) := by rw [show (10 : Int32) = nI 10 from rfl, pk_div (by omega) (by omega) (by omega)]
  refine ⟨?_, h2⟩
  have := nI_rem (a := w) (d := 10) (by omega) (by omega) (by omega)
  exact this
theorem ask_big {d : ld_T} {s : cr_T} {w : Nat} (h0 : 10 ≤ w) (h1 : w ≤ 59) : askS d s (nI w) = (if w % 10 < lpp d then nI (s (w / 10) (w % 10)) else -2) := by
  have t : (nI w).toInt = (w : Int) := nI_toInt (by omega)
  unfold askS
  rw [if_neg (fun u => by have := (nl_eq (k := 0) (j := 0) rfl (by omega) (by omega)).mp u; omega), if_neg (fun u => by have := (nl_eq (k := 1) (j := 1) rfl (by omega) (by omega)).mp u; omega), if_neg (fun u => by have := (nl_eq (k := 2) (j := 2) rfl (by omega) (by omega)).mp u; omega), if_neg (fun u => by have := (nl_eq (k := 3) (j := 3) rfl (by omega) (by omega)).mp u; omega), t]
  have tn : (w : Int).toNat = w := by omega
  rw [tn]
  by_cases q : w % 10 < lpp d
  · rw [if_pos ⟨by omega, by omega, q⟩, if_pos q]
    by_cases z : w / 10 = 5
    · rw [if_pos z, z]
    · rw [if_neg z]
  · rw [if_neg (fun u => q u.2.2), if_neg q]
theorem ask_out {d : ld_T} {s : cr_T} {w : Int32} (h : ¬ (((10 : Nat) : Int) ≤ w.toInt ∧ w.toInt ≤ (59 : Nat))) : askS d s w = (if w = 0 then nI (s 6 0) else if w = 1 then nI (sm (s 5) (lpp d)) else if w = 2 then nI (sm (s 0) (cs_ d)) else if w = 3 then strd (slv d (s 6 0)) (s 1) (lpp d) else -2) := by
  unfold askS
  rw [if_neg (show ¬ (10 ≤ w.toInt ∧ w.toInt ≤ 59 ∧ w.toInt.toNat % 10 < lpp d) from fun u => h ⟨by omega, by omega⟩)]
theorem askC_ok {sh : sh_T} {I0 I : I_T} {L0 L : L_T} {R : R_T} (h : Inv sh I0 L0 R) {a : Nat} {d : ld_T} (hd : VD d) (cl : CL I L a d) {s : cr_T} (cc : CC I L d s) (vc : VC d s) (w : Int32) : D_X0_asked sh.2.2 I L R 44 a w = some (askS d s w) := by
  have h64 := cs_le hd
  have p5 : lpp d ≤ 5 := hd.2.2.2.2.2.2.2.2.1
  have e5 : I a 5 = nI (lpp d) := cl.1 5 (by omega)
  have e0 : I a 0 = nI (lw d) := cl.1 0 (by omega)
  have e1 : I a 1 = nI (lh d) := cl.1 1 (by omega)
  have s1 : D_X10_sum sh.2.2 I L R 50 (I a 5) = some (nI (sm (s 5) (lpp d))) := by rw [e5]; exact sum_ok (by rw [h.z 50 5 rfl]; omega) (by rw [h.z 50 5 rfl]; decide) (fun j hj => cc.2.2.2 5 j (by omega) (by omega) hj)
  have s2 : D_X10_sum sh.2.2 I L R 45 (I a 0 * I a 1) = some (nI (sm (s 0) (cs_ d))) := by rw [e0, e1, nI_mul]; exact sum_ok (by rw [h.z 45 64 rfl]; omega) (by rw [h.z 45 64 rfl]; decide) (fun j hj => cc.2.2.1 j hj)
  rw [D_X0_asked, bs_, h.r 44 5 50 rfl, bs_, s1, bs_, h.r 44 0 45 rfl, bs_, s2, bs_, onSoil_ok h hd cl cc vc, bs_, cc.1]
  by_cases q : ((10 : Nat) : Int) ≤ w.toInt ∧ w.toInt ≤ (59 : Nat)
  · obtain ⟨n, hn, rfl⟩ := clamp_lt (v := w) (c := 60) ⟨by omega, by omega⟩ (by omega)
    rw [nI_toInt (by omega)] at q
    obtain ⟨m1, m2⟩ := rem10 (w := n) (by omega)
    rw [ask_big (by omega) (by omega), if_neg (fun u => by have := (nl_eq (k := 0) (j := 0) rfl (by omega) (by omega)).mp u; omega), if_neg (fun u => by have := (nl_eq (k := 1) (j := 1) rfl (by omega) (by omega)).mp u; omega), if_neg (fun u => by have := (nl_eq (k := 2) (j := 2) rfl (by omega) (by omega)).mp u; omega), if_neg (fun u => by have := (nl_eq (k := 3) (j := 3) rfl (by omega) (by omega)).mp u; omega)]
    rw [D_X0_ofPerson, if_neg (fun u => by have := (nl_lt (k := 10) (j := 10) rfl (by omega) (by omega)).mp u; omega), if_neg (fun u => by have := (ln_lt (k := 59) (j := 59) rfl (by omega) (by omega)).mp u; omega), m1, m2, e5]
    have g : ∀ q, 1 ≤ q → q ≤ 5 → n % 10 < lpp d → D_X10_get sh.2.2 I L R (45 + q) (nI (n % 10)) = some (nI (s q (n % 10))) := fun q h1 h5 hp => cc.get (q := q) h hd h1 h5 hp
    by_cases pl : n % 10 < lpp d
    · rw [if_pos ((nI_ltI (by omega) (by omega)).mpr pl), if_pos pl, bs_]
      have : n / 10 = 1 ∨ n / 10 = 2 ∨ n / 10 = 3 ∨ n / 10 = 4 ∨ n / 10 = 5 := by omega
      rcases this with z | z | z | z | z
      · rw [z, if_pos (show nI 1 = 1 from rfl), h.r 44 1 46 rfl, bs_, show D_X10_get sh.2.2 I L R 46 (nI (n % 10)) = _ from g 1 (by omega) (by omega) pl, bs_, bs_]
      · rw [z, if_neg (show ¬ nI 2 = 1 by decide), if_pos (show nI 2 = 2 from rfl), h.r 44 2 47 rfl, bs_, show D_X10_get sh.2.2 I L R 47 (nI (n % 10)) = _ from g 2 (by omega) (by omega) pl, bs_, bs_]
      · rw [z, if_neg (show ¬ nI 3 = 1 by decide), if_neg (show ¬ nI 3 = 2 by decide), if_pos (show nI 3 = 3 from rfl), h.r 44 3 48 rfl, bs_, show D_X10_get sh.2.2 I L R 48 (nI (n % 10)) = _ from g 3 (by omega) (by omega) pl, bs_, bs_]
      · rw [z, if_neg (show ¬ nI 4 = 1 by decide), if_neg (show ¬ nI 4 = 2 by decide), if_neg (show ¬ nI 4 = 3 by decide), if_pos (show nI 4 = 4 from rfl), h.r 44 4 49 rfl, bs_, show D_X10_get sh.2.2 I L R 49 (nI (n % 10)) = _ from g 4 (by omega) (by omega) pl, bs_, bs_]
      · rw [z, if_neg (show ¬ nI 5 = 1 by decide), if_neg (show ¬ nI 5 = 2 by decide), if_neg (show ¬ nI 5 = 3 by decide), if_neg (show ¬ nI 5 = 4 by decide), h.r 44 5 50 rfl, bs_, show D_X10_get sh.2.2 I L R 50 (nI (n % 10)) = _ from g 5 (by omega) (by omega) pl, bs_, bs_]
    · rw [if_neg (fun u => pl ((nI_ltI (by omega) (by omega)).mp u)), if_neg pl, bs_]
  · have po : D_X0_ofPerson sh.2.2 I L R 44 a w = some (-2) := by
      rw [D_X0_ofPerson]
      exact rng_no (a := 10) (b := 59) (by decide) (by decide) q _ _
    rw [ask_out q, po, bs_]
    by_cases w0 : w = 0
    · rw [if_pos w0, if_pos w0]
    rw [if_neg w0, if_neg w0]
    by_cases w1 : w = 1
    · rw [if_pos w1, if_pos w1]
    rw [if_neg w1, if_neg w1]
    by_cases w2 : w = 2
    · rw [if_pos w2, if_pos w2]
    rw [if_neg w2, if_neg w2]
    by_cases w3 : w = 3
    · rw [if_pos w3, if_pos w3]
    rw [if_neg w3, if_neg w3]
theorem askM_ok {sh : sh_T} {I J : I_T} {L L' : L_T} {R : R_T} (h : Inv sh I L R) {k : Nat} {d : ld_T} (hd : VD d) (m : MH J I k d) {s : cr_T} (cm : CM J d s) (vc : VC d s) (w : Int32) : D_X11_ofState sh.2.2 J L' R 68 w = some (askS d s w) := by
  have h64 := cs_le hd
  have p5 : lpp d ≤ 5 := hd.2.2.2.2.2.2.2.2.1
  have e30 : J 68 30 = nI (lpp d) := m.2.2.2.2.2.1
  have e26 : J 68 26 = nI (cs_ d) := m.2.2.1
  rw [D_X11_ofState, show D_X11_in sh.2.2 J L' R w 10 59 = _ from in_rng w (a := 10) (b := 59) (by omega) (by omega), bs_]
  by_cases q : ((10 : Nat) : Int) ≤ w.toInt ∧ w.toInt ≤ (59 : Nat)
  · rw [decide_eq_true q, if_neg (show ¬ bI true = 0 by decide)]
    obtain ⟨n, hn, rfl⟩ := clamp_lt (v := w) (c := 60) ⟨by omega, by omega⟩ (by omega)
    rw [nI_toInt (by omega)] at q
    obtain ⟨m1, m2⟩ := rem10 (w := n) (by omega)
    rw [ask_big (by omega) (by omega), m1, m2, e30]
    by_cases pl : n % 10 < lpp d
    · have ip : inb (nI (n % 10)) 5 = true := inb_nI (by omega) (by omega)
      have cp : (nI (n % 10)).toNatClampNeg = n % 10 := cl_nI (by omega)
      have g : ∀ q, 1 ≤ q → q ≤ 5 → J (81 + q) (n % 10) = nI (s q (n % 10)) := fun q h1 h5 => cm.2.2 q _ h1 h5 pl
      rw [if_pos ((nI_ltI (by omega) (by omega)).mpr pl), if_pos pl, D_X11_ofPerson, bs_]
      have : n / 10 = 1 ∨ n / 10 = 2 ∨ n / 10 = 3 ∨ n / 10 = 4 ∨ n / 10 = 5 := by omega
      rcases this with z | z | z | z | z
      · rw [z, if_pos (show nI 1 = 1 from rfl), h.r 68 36 82 rfl, bs_, h.z 82 5 rfl, if_pos ip, cp, show J 82 (n % 10) = _ from g 1 (by omega) (by omega), bs_]
      · rw [z, if_neg (show ¬ nI 2 = 1 by decide), if_pos (show nI 2 = 2 from rfl), h.r 68 37 83 rfl, bs_, h.z 83 5 rfl, if_pos ip, cp, show J 83 (n % 10) = _ from g 2 (by omega) (by omega), bs_]
      · rw [z, if_neg (show ¬ nI 3 = 1 by decide), if_neg (show ¬ nI 3 = 2 by decide), if_pos (show nI 3 = 3 from rfl), h.r 68 38 84 rfl, bs_, h.z 84 5 rfl, if_pos ip, cp, show J 84 (n % 10) = _ from g 3 (by omega) (by omega), bs_]
      · rw [z, if_neg (show ¬ nI 4 = 1 by decide), if_neg (show ¬ nI 4 = 2 by decide), if_neg (show ¬ nI 4 = 3 by decide), if_pos (show nI 4 = 4 from rfl), h.r 68 39 85 rfl, bs_, h.z 85 5 rfl, if_pos ip, cp, show J 85 (n % 10) = _ from g 4 (by omega) (by omega), bs_]
      · rw [z, if_neg (show ¬ nI 5 = 1 by decide), if_neg (show ¬ nI 5 = 2 by decide), if_neg (show ¬ nI 5 = 3 by decide), if_neg (show ¬ nI 5 = 4 by decide), h.r 68 40 86 rfl, bs_, h.z 86 5 rfl, if_pos ip, cp, show J 86 (n % 10) = _ from g 5 (by omega) (by omega), bs_]
    · rw [if_neg (fun u => pl ((nI_ltI (by omega) (by omega)).mp u)), if_neg pl]
  · rw [decide_eq_false q, if_pos (show bI false = 0 from rfl), ask_out q]
    have inner : D_X11_ofState_103 sh.2.2 J L' R 68 w (nI (sm (s 5) (lpp d))) (strd (slv d (s 6 0)) (s 1) (lpp d)) (0, 0) = some (if w = 0 then nI (s 6 0) else if w = 1 then nI (sm (s 5) (lpp d)) else if w = 2 then nI (sm (s 0) (cs_ d)) else if w = 3 then strd (slv d (s 6 0)) (s 1) (lpp d) else -2) := by
      refine itC_count (f := B_X11_ofState_103 sh.2.2 J L' R 68 w (nI (sm (s 5) (lpp d))) (strd (slv d (s 6 0)) (s 1) (lpp d))) (fun c => (nI (sm (s 0) c), nI c)) (n := cs_ d) (fun c hc => ?_) ?_
      · unfold B_X11_ofState_103
        simp only [e26, cl_nI (show c < 2 ^ 31 by omega)]
        rw [if_pos ((nI_ltI (by omega) (by omega)).mpr hc), h.r 68 34 81 rfl, bs_, if_pos (inb_nI (by rw [h.z 81 64 rfl]; omega) (by omega)), cm.2.1 c hc, nI_add, nI_1]
        rfl
      · unfold B_X11_ofState_103
        simp only [e26]
        rw [if_neg Int32.lt_irrefl, cm.1]
        by_cases w0 : w = 0
        · rw [if_pos w0, if_pos w0]
        rw [if_neg w0, if_neg w0]
        by_cases w1 : w = 1
        · rw [if_pos w1, if_pos w1]
        rw [if_neg w1, if_neg w1]
        by_cases w2 : w = 2
        · rw [if_pos w2, if_pos w2]
        rw [if_neg w2, if_neg w2]
        by_cases w3 : w = 3
        · rw [if_pos w3, if_pos w3]
        rw [if_neg w3, if_neg w3]
    refine itC_count (f := B_X11_ofState_50 sh.2.2 J L' R 68 w 0) (fun p => (nI (sm (s 5) p), strd (slv d (s 6 0)) (s 1) p, nI p)) (n := lpp d) (fun p hp => ?_) ?_
    · obtain ⟨w1, _⟩ := vc.2.2 p hp
      have ip : inb (nI p) 5 = true := inb_nI (by omega) (by omega)
      have g86 : J 86 p = nI (s 5 p) := cm.2.2 5 p (by omega) (by omega) hp
      have g82 : J 82 p = nI (s 1 p) := cm.2.2 1 p (by omega) (by omega) hp
      unfold B_X11_ofState_50
      simp only [e30, cl_nI (show p < 2 ^ 31 by omega)]
      rw [if_pos ((nI_ltI (by omega) (by omega)).mpr hp), h.r 68 40 86 rfl, bs_, h.z 86 5 rfl, if_pos ip, h.r 68 36 82 rfl, bs_, h.z 82 5 rfl, if_pos ip, g82, m.soil h hd cm vc w1, bs_, g86, nI_add, nI_1]
      show _ = some (Sum.inl (nI (sm (s 5) p + s 5 p), (if slv d (s 6 0) (s 1 p) = true then strd (slv d (s 6 0)) (s 1) p ||| (1 <<< (nI p &&& 31)) else strd (slv d (s 6 0)) (s 1) p), nI (p + 1)))
      cases slv d (s 6 0) (s 1 p) with
      | false =>
        rw [if_pos (show bI false = 0 from rfl), Int32.or_zero]
        rfl
      | true =>
        rw [if_neg (show ¬ bI true = 0 by decide)]
        rfl
    · unfold B_X11_ofState_50
      simp only [e30]
      rw [if_neg Int32.lt_irrefl, inner, bs_]
