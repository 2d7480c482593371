/-! a deed: the model's side -/
def MH (J I : I_T) (k : Nat) (d : ld_T) : Prop := J 68 24 = nI k ∧ J 68 25 = nI (lw d) ∧ J 68 26 = nI (cs_ d) ∧ J 68 28 = nI (lhr d) ∧ J 68 29 = nI (laf d) ∧ J 68 30 = nI (lpp d) ∧ J 68 31 = -1 ∧ (∀ c, c < cs_ d → J 80 c = nI (d 6 c)) ∧ J 74 = I 74
theorem MH.fr {J J' I : I_T} {k : Nat} {d : ld_T} (m : MH J I k d) (a : J' 74 = J 74) (b : J' 80 = J 80) (c : ∀ j, 24 ≤ j → j ≤ 31 → j ≠ 27 → J' 68 j = J 68 j) : MH J' I k d := by
  unfold MH at m ⊢
  rw [a, b, c 24 (by omega) (by omega) (by omega), c 25 (by omega) (by omega) (by omega), c 26 (by omega) (by omega) (by omega), c 28 (by omega) (by omega) (by omega), c 29 (by omega) (by omega) (by omega), c 30 (by omega) (by omega) (by omega), c 31 (by omega) (by omega) (by omega)]
  exact m
theorem MH.fr' {J J' I : I_T} {k : Nat} {d : ld_T} (m : MH J I k d) (f : ∀ i, i < 81 ∨ 86 < i → J' i = J i) : MH J' I k d := m.fr (f 74 (by omega)) (f 80 (by omega)) (fun j _ _ _ => by rw [f 68 (by omega)])
theorem MH.soil {sh : sh_T} {I J : I_T} {L L' : L_T} {R : R_T} (h : Inv sh I L R) {k : Nat} {d : ld_T} (hd : VD d) (m : MH J I k d) {s : cr_T} (cm : CM J d s) (vc : VC d s) {c : Nat} (hc : c < cs_ d) : D_X11_isSoil sh.2.2 J L' R 68 (nI c) = some (bI (slv d (s 6 0) c)) := soil_ok h hd vc.1 hc cm.1 m.2.2.2.2.2.2.1 (m.2.2.2.2.2.2.2.1 c hc)
theorem Z82 {sh : sh_T} {I0 : I_T} {L0 : L_T} {R : R_T} (h : Inv sh I0 L0 R) {q : Nat} (h1 : 1 ≤ q) (h5 : q ≤ 5) : sh.2.2 (81 + q) = 5 := by
  have : q = 1 ∨ q = 2 ∨ q = 3 ∨ q = 4 ∨ q = 5 := by omega
  rcases this with rfl | rfl | rfl | rfl | rfl
  · exact h.z 82 5 rfl
  · exact h.z 83 5 rfl
  · exact h.z 84 5 rfl
  · exact h.z 85 5 rfl
  · exact h.z 86 5 rfl
theorem minute_ok {sh : sh_T} {I J : I_T} {L L' : L_T} {R : R_T} (h : Inv sh I L R) {k : Nat} (hk : k < 2) {d : ld_T} (hd : VD d) (ml : ML I k d) (m : MH J I k d) {s : cr_T} (cm : CM J d s) (vc : VC d s) {p : Nat} (hp : p < lpp d) : ∃ J', D_X11_minute sh.2.2 J L' R 68 (nI p) = some J' ∧ CM J' d (mnS d s p) ∧ ∀ i, i < 81 ∨ 86 < i → J' i = J i := by
  have p5 : lpp d ≤ 5 := hd.2.2.2.2.2.2.2.2.1
  have k2 : d 8 p ≤ 2 := (hd.2.2.2.2.2.2.2.2.2.2 p hp).1
  obtain ⟨w1, w2, w3, w4, w5⟩ := vc.2.2 p hp
  have ll := lim_le hd (d 8 p)
  have a20 : laf d ≤ 20 := hd.2.2.2.2.2.2.2.1
  have ip : inb (nI p) 5 = true := inb_nI (by omega) (by omega)
  have cp : (nI p).toNatClampNeg = p := cl_nI (by omega)
  have z83 : sh.2.2 83 = 5 := h.z 83 5 rfl
  have z82 : sh.2.2 82 = 5 := h.z 82 5 rfl
  have z84 : sh.2.2 84 = 5 := h.z 84 5 rfl
  have z85 : sh.2.2 85 = 5 := h.z 85 5 rfl
  have z86 : sh.2.2 86 = 5 := h.z 86 5 rfl
  have e2 : J 83 p = nI (s 2 p) := cm.2.2 2 p (by omega) (by omega) hp
  rw [D_X11_minute, h.r 68 37 83 rfl, bs_, z83, if_pos ip, if_pos ip, bs_, cp, e2, nI_1]
  have s13 : up2 s 2 p (s 2 p + 1) 3 p = s 3 p := up2_a (by omega)
  have s14 : up2 s 2 p (s 2 p + 1) 4 p = s 4 p := up2_a (by omega)
  have s15 : up2 s 2 p (s 2 p + 1) 5 p = s 5 p := up2_a (by omega)
  have s11 : up2 s 2 p (s 2 p + 1) 1 p = s 1 p := up2_a (by omega)
  have s16 : up2 s 2 p (s 2 p + 1) 6 0 = s 6 0 := up2_a (by omega)
  have c1 : CM (up2 J 83 p (nI (s 2 p + 1))) d (up2 s 2 p (s 2 p + 1)) := cm.set (q := 2) (by omega) rfl
  have fr1 : ∀ i, i < 81 ∨ 86 < i → up2 J 83 p (nI (s 2 p + 1)) i = J i := fun i hi => up2_ne (by omega)
  generalize up2 J 83 p (nI (s 2 p + 1)) = J1 at c1 fr1
  unfold mnS
  generalize up2 s 2 p (s 2 p + 1) = s1 at *
  have m1 := m.fr' fr1
  have of6 : D_X11_of sh.2.2 J1 L' R 68 (6 + nI p) = some (nI (d 8 p)) := by
    rw [show (6 : Int32) + nI p = nI (6 + p) by rw [show (6 : Int32) = nI 6 from rfl, nI_add], of_ok h hk (by omega) m1.1, m1.2.2.2.2.2.2.2.2, (ml.2.2 p hp).1]
  have e1 : J1 82 p = nI (s 1 p) := by rw [← s11]; exact c1.2.2 1 p (by omega) (by omega) hp
  have sl1 : D_X11_isSoil sh.2.2 J1 L' R 68 (nI (s 1 p)) = some (bI (slv d (s 6 0) (s 1 p))) := soil_ok h hd vc.1 w1 (by rw [← s16]; exact c1.1) m1.2.2.2.2.2.2.1 (m1.2.2.2.2.2.2.2.1 _ w1)
  rw [of6, bs_, h.r 68 36 82 rfl, bs_, z82, if_pos ip, e1, sl1, bs_]
  cases sl : slv d (s 6 0) (s 1 p) with
  | false =>
    have e4 : J1 85 p = nI (s 4 p) := by rw [← s14]; exact c1.2.2 4 p (by omega) (by omega) hp
    rw [if_pos (show bI false = 0 from rfl), h.r 68 39 85 rfl, bs_, z85, if_pos ip, if_pos ip, bs_, e4, nI_1, if_neg (show ¬ false = true by decide)]
    have c2 : CM (up2 J1 85 p (nI (s 4 p + 1))) d (up2 s1 4 p (s 4 p + 1)) := c1.set (q := 4) (by omega) rfl
    have fr2 : ∀ i, i < 81 ∨ 86 < i → up2 J1 85 p (nI (s 4 p + 1)) i = J i := fun i hi => by rw [up2_ne (by omega)]; exact fr1 i hi
    have s24 : up2 s1 4 p (s 4 p + 1) 4 p = s 4 p + 1 := up2_s _ _ _ _
    have s23 : up2 s1 4 p (s 4 p + 1) 3 p = s 3 p := by rw [up2_a (by omega), s13]
    generalize up2 J1 85 p (nI (s 4 p + 1)) = J2 at c2 fr2
    generalize up2 s1 4 p (s 4 p + 1) = s2 at *
    have m2 := m.fr' fr2
    have e24 : J2 85 p = nI (s 4 p + 1) := by rw [← s24]; exact c2.2.2 4 p (by omega) (by omega) hp
    have e23 : J2 84 p = nI (s 3 p) := by rw [← s23]; exact c2.2.2 3 p (by omega) (by omega) hp
    rw [h.r 68 38 84 rfl, bs_, if_pos ip, e24, m2.2.2.2.2.1, z84]
    by_cases q : s 4 p + 1 < laf d
    · rw [if_pos ((nI_ltI (by omega) (by omega)).mpr q), if_pos ip, if_pos ip, bs_, if_pos q, e23]
      exact ⟨_, rfl, c2.set (q := 3) (by omega) rfl, fun i hi => by rw [up2_ne (by omega)]; exact fr2 i hi⟩
    · rw [if_neg (fun u => q ((nI_ltI (by omega) (by omega)).mp u)), if_pos ip, bs_, if_neg q]
      exact ⟨_, rfl, c2.set (q := 3) (by omega) rfl, fun i hi => by rw [up2_ne (by omega)]; exact fr2 i hi⟩
  | true =>
    have e3 : J1 84 p = nI (s 3 p) := by rw [← s13]; exact c1.2.2 3 p (by omega) (by omega) hp
    rw [if_neg (show ¬ bI true = 0 by decide), h.r 68 38 84 rfl, bs_, z84, if_pos ip, if_pos ip, bs_, e3, nI_1, h.r 68 39 85 rfl, bs_, z85, if_pos ip, bs_, h.r 68 40 86 rfl, bs_, z86, if_pos ip, if_pos ip, if_pos rfl]
    have c3 : CM (up2 (up2 J1 84 p (nI (s 3 p + 1))) 85 p 0) d (up2 (up2 s1 4 p 0) 3 p (s 3 p + 1)) := by
      rw [up2_comm (by omega)]
      exact (c1.set (q := 4) (p := p) (v := 0) (by omega) rfl).set (q := 3) (p := p) (v := s 3 p + 1) (by omega) rfl
    have fr3 : ∀ i, i < 81 ∨ 86 < i → up2 (up2 J1 84 p (nI (s 3 p + 1))) 85 p 0 i = J i := fun i hi => by rw [up2_ne (by omega), up2_ne (by omega)]; exact fr1 i hi
    have s33 : up2 (up2 s1 4 p 0) 3 p (s 3 p + 1) 3 p = s 3 p + 1 := up2_s _ _ _ _
    have s35 : up2 (up2 s1 4 p 0) 3 p (s 3 p + 1) 5 p = s 5 p := by rw [up2_a (by omega), up2_a (by omega), s15]
    generalize up2 (up2 J1 84 p (nI (s 3 p + 1))) 85 p 0 = J3 at c3 fr3
    generalize up2 (up2 s1 4 p 0) 3 p (s 3 p + 1) = s3 at *
    have m3 := m.fr' fr3
    have e33 : J3 84 p = nI (s 3 p + 1) := by rw [← s33]; exact c3.2.2 3 p (by omega) (by omega) hp
    have e35 : J3 86 p = nI (s 5 p) := by rw [← s35]; exact c3.2.2 5 p (by omega) (by omega) hp
    rw [mlimit_ok hd m3.2.2.2.1 k2, bs_, e33]
    have fin : ∀ n : Nat, ∃ J', some (up2 J3 86 p (nI (s 5 p) + nI n)) = some J' ∧ CM J' d (up2 s3 5 p (s 5 p + n)) ∧ ∀ i, i < 81 ∨ 86 < i → J' i = J i := fun n => ⟨_, rfl, c3.set (q := 5) (by omega) (nI_add _ _), fun i hi => by rw [up2_ne (by omega)]; exact fr3 i hi⟩
    unfold fn_
    by_cases q : lim_ d (d 8 p) < s 3 p + 1
    · rw [if_pos ((nI_ltI (by omega) (by omega)).mpr q), if_pos q]
      by_cases w : d 8 p = 2
      · rw [if_pos w, if_pos (show nI (d 8 p) = 2 by rw [w]; rfl), if_pos ip, bs_, e35]
        exact fin 2
      · rw [if_neg w, if_neg (fun u => w ((nl_eq (k := 2) (j := 2) rfl (by omega) (by omega)).mp u)), if_pos ip, bs_, e35]
        exact fin 1
    · rw [if_neg (fun u => q ((nI_ltI (by omega) (by omega)).mp u)), if_neg q, if_pos ip, bs_, e35]
      exact fin 0
theorem goes_ok {sh : sh_T} {I J : I_T} {L L' : L_T} {R : R_T} (h : Inv sh I L R) {k : Nat} (hk : k < 2) {d : ld_T} (hd : VD d) (ml : ML I k d) (m : MH J I k d) {s : cr_T} (cm : CM J d s) (vc : VC d s) {p x : Nat} (hp : p < lpp d) (hx : x < 4) : ∃ J', D_X11_goes sh.2.2 J L' R 68 (nI p) (nI x) = some (bI (perfS d 0 p x s).1, J') ∧ CM J' d (perfS d 0 p x s).2 ∧ ∀ i, i < 81 ∨ 86 < i → J' i = J i := by
  have h64 := cs_le hd
  have p5 : lpp d ≤ 5 := hd.2.2.2.2.2.2.2.2.1
  obtain ⟨w1, w2, w3, w4, w5⟩ := vc.2.2 p hp
  have ip : inb (nI p) 5 = true := inb_nI (by omega) (by omega)
  have cp : (nI p).toNatClampNeg = p := cl_nI (by omega)
  have e1 : J 82 p = nI (s 1 p) := cm.2.2 1 p (by omega) (by omega) hp
  have e2 : J 83 p = nI (s 2 p) := cm.2.2 2 p (by omega) (by omega) hp
  have pf : perfS d 0 p x s = (match nx d (s 1 p) x with | none => (false, s) | some c => if s 2 p < 99 then (true, mnS d (up2 s 1 p c) p) else (false, s)) := by
    unfold perfS
    rw [if_neg (by omega), if_neg (by omega), if_pos rfl]
    cases nx d (s 1 p) x <;> rfl
  rw [pf, D_X11_goes, h.r 68 36 82 rfl, bs_, h.z 82 5 rfl, if_pos ip, cp, e1, next_ok hd m.2.1 m.2.2.1 w1 (by omega), bs_]
  cases e : nx d (s 1 p) x with
  | none =>
    rw [if_pos (show oI none = -1 from rfl)]
    exact ⟨J, rfl, cm, fun _ _ => rfl⟩
  | some c =>
    have cl' := nx_lt hd w1 e
    rw [if_neg (show ¬ oI (some c) = -1 from nI_neg1 (by omega)), h.r 68 37 83 rfl, bs_, h.z 83 5 rfl, if_pos ip, e2]
    show ∃ J', _ = some (bI (if s 2 p < 99 then (true, mnS d (up2 s 1 p c) p) else (false, s)).1, J') ∧ CM J' d (if s 2 p < 99 then (true, mnS d (up2 s 1 p c) p) else (false, s)).2 ∧ _
    by_cases q : s 2 p < 99
    · have c1 : CM (up2 J 82 p (nI c)) d (up2 s 1 p c) := cm.set (q := 1) (by omega) rfl
      obtain ⟨J', r1, r2, r3⟩ := minute_ok (L' := L') h hk hd ml (m.fr' (J' := up2 J 82 p (nI c)) (fun i hi => up2_ne (by omega))) c1 (vc.go cl') hp
      rw [if_pos q, if_neg (fun u => by have := (nl_eq (k := 99) (j := 99) rfl (by omega) (by omega)).mp u; omega), if_pos ip, bs_]
      rw [show D_X11_minute sh.2.2 (up2 J 82 p (oI (some c))) L' R 68 (nI p) = some J' from r1, bs_]
      exact ⟨J', rfl, r2, fun i hi => by rw [r3 i hi, up2_ne (by omega)]⟩
    · rw [if_neg q, if_pos (show nI (s 2 p) = 99 by rw [show s 2 p = 99 by omega]; rfl)]
      exact ⟨J, rfl, cm, fun _ _ => rfl⟩
theorem works_ok {sh : sh_T} {I J : I_T} {L L' : L_T} {R : R_T} (h : Inv sh I L R) {k : Nat} (hk : k < 2) {d : ld_T} (hd : VD d) (ml : ML I k d) (m : MH J I k d) {s : cr_T} (cm : CM J d s) (vc : VC d s) {p : Nat} (x : Nat) (hp : p < lpp d) : ∃ J', D_X11_works sh.2.2 J L' R 68 (nI p) = some (bI (perfS d 1 p x s).1, J') ∧ CM J' d (perfS d 1 p x s).2 ∧ ∀ i, i < 81 ∨ 86 < i → J' i = J i := by
  have h64 := cs_le hd
  have p5 : lpp d ≤ 5 := hd.2.2.2.2.2.2.2.2.1
  obtain ⟨w1, w2, w3, w4, w5⟩ := vc.2.2 p hp
  have w20 := vc.2.1 (s 1 p)
  have ip : inb (nI p) 5 = true := inb_nI (by omega) (by omega)
  have cp : (nI p).toNatClampNeg = p := cl_nI (by omega)
  have e1 : J 82 p = nI (s 1 p) := cm.2.2 1 p (by omega) (by omega) hp
  have e2 : J 83 p = nI (s 2 p) := cm.2.2 2 p (by omega) (by omega) hp
  have e0 : J 81 (s 1 p) = nI (s 0 (s 1 p)) := cm.2.1 _ w1
  have ic : inb (nI (s 1 p)) (sh.2.2 81) = true := inb_nI (by rw [h.z 81 64 rfl]; omega) (by omega)
  have cc : (nI (s 1 p)).toNatClampNeg = s 1 p := cl_nI (by omega)
  have pf : perfS d 1 p x s = (if slv d (s 6 0) (s 1 p) = true ∧ 0 < s 0 (s 1 p) ∧ s 2 p < 99 then (true, mnS d (up2 s 0 (s 1 p) (s 0 (s 1 p) - 1)) p) else (false, s)) := by
    unfold perfS
    rw [if_neg (by omega), if_neg (by omega), if_neg (by omega), if_pos rfl]
  rw [pf, D_X11_works, h.r 68 36 82 rfl, bs_, h.z 82 5 rfl, if_pos ip, cp, e1, m.soil h hd cm vc w1, bs_]
  cases sl : slv d (s 6 0) (s 1 p) with
  | false =>
    rw [if_pos (show bI false = 0 from rfl), if_neg (show ¬ (false = true ∧ 0 < s 0 (s 1 p) ∧ s 2 p < 99) from fun u => by cases u.1)]
    exact ⟨J, rfl, cm, fun _ _ => rfl⟩
  | true =>
    rw [if_neg (show ¬ bI true = 0 by decide), h.r 68 34 81 rfl, bs_, if_pos ic, cc, e0]
    by_cases q0 : 0 < s 0 (s 1 p)
    · rw [if_neg (fun u => by have := (nl_eq (k := 0) (j := 0) rfl (by omega) (by omega)).mp u; omega), h.r 68 37 83 rfl, bs_, h.z 83 5 rfl, if_pos ip, e2]
      by_cases q : s 2 p < 99
      · have c1 : CM (up2 J 81 (s 1 p) (nI (s 0 (s 1 p)) - 1)) d (up2 s 0 (s 1 p) (s 0 (s 1 p) - 1)) := cm.set (q := 0) (by omega) (by rw [show (1 : Int32) = nI 1 from rfl, nI_sub (by omega)])
        obtain ⟨J', r1, r2, r3⟩ := minute_ok (L' := L') h hk hd ml (m.fr' (J' := up2 J 81 (s 1 p) (nI (s 0 (s 1 p)) - 1)) (fun i hi => up2_ne (by omega))) c1 (vc.work (by omega)) hp
        rw [if_neg (fun u => by have := (nl_eq (k := 99) (j := 99) rfl (by omega) (by omega)).mp u; omega), if_pos ic, if_pos ic, bs_, r1, bs_, if_pos (show true = true ∧ 0 < s 0 (s 1 p) ∧ s 2 p < 99 from ⟨rfl, q0, q⟩)]
        exact ⟨J', rfl, r2, fun i hi => by rw [r3 i hi, up2_ne (by omega)]⟩
      · rw [if_pos (show nI (s 2 p) = 99 by rw [show s 2 p = 99 by omega]; rfl), if_neg (show ¬ (true = true ∧ 0 < s 0 (s 1 p) ∧ s 2 p < 99) from fun u => q u.2.2)]
        exact ⟨J, rfl, cm, fun _ _ => rfl⟩
    · rw [if_pos (show nI (s 0 (s 1 p)) = 0 by rw [show s 0 (s 1 p) = 0 by omega]; rfl), if_neg (show ¬ (true = true ∧ 0 < s 0 (s 1 p) ∧ s 2 p < 99) from fun u => q0 u.2.1)]
      exact ⟨J, rfl, cm, fun _ _ => rfl⟩
theorem waits_ok {sh : sh_T} {I J : I_T} {L L' : L_T} {R : R_T} (h : Inv sh I L R) {k : Nat} (hk : k < 2) {d : ld_T} (hd : VD d) (ml : ML I k d) (m : MH J I k d) {s : cr_T} (cm : CM J d s) (vc : VC d s) {p : Nat} (x : Nat) (hp : p < lpp d) : ∃ J', D_X11_waits sh.2.2 J L' R 68 (nI p) = some (bI (perfS d 2 p x s).1, J') ∧ CM J' d (perfS d 2 p x s).2 ∧ ∀ i, i < 81 ∨ 86 < i → J' i = J i := by
  have p5 : lpp d ≤ 5 := hd.2.2.2.2.2.2.2.2.1
  obtain ⟨w1, w2, w3, w4, w5⟩ := vc.2.2 p hp
  have ip : inb (nI p) 5 = true := inb_nI (by omega) (by omega)
  have cp : (nI p).toNatClampNeg = p := cl_nI (by omega)
  have e2 : J 83 p = nI (s 2 p) := cm.2.2 2 p (by omega) (by omega) hp
  have pf : perfS d 2 p x s = (if s 2 p < 99 then (true, mnS d s p) else (false, s)) := by
    unfold perfS
    rw [if_neg (by omega), if_neg (by omega), if_neg (by omega), if_neg (by omega), if_pos rfl]
  rw [pf, D_X11_waits, h.r 68 37 83 rfl, bs_, h.z 83 5 rfl, if_pos ip, cp, e2]
  by_cases q : s 2 p < 99
  · obtain ⟨J', r1, r2, r3⟩ := minute_ok (L' := L') h hk hd ml m cm vc hp
    rw [if_neg (fun u => by have := (nl_eq (k := 99) (j := 99) rfl (by omega) (by omega)).mp u; omega), r1, bs_, if_pos q]
    exact ⟨J', rfl, r2, r3⟩
  · rw [if_pos (show nI (s 2 p) = 99 by rw [show s 2 p = 99 by omega]; rfl), if_neg q]
    exact ⟨J, rfl, cm, fun _ _ => rfl⟩
theorem moors_ok {sh : sh_T} {I J : I_T} {L L' : L_T} {R : R_T} (h : Inv sh I L R) {k : Nat} (hk : k < 2) {d : ld_T} (hd : VD d) (ml : ML I k d) (m : MH J I k d) {s : cr_T} (cm : CM J d s) (vc : VC d s) {p : Nat} (x : Nat) (hp : p < lpp d) : ∃ J', D_X11_moors sh.2.2 J L' R 68 (nI p) = some (bI (perfS d 3 p x s).1, J') ∧ CM J' d (perfS d 3 p x s).2 ∧ ∀ i, i < 81 ∨ 86 < i → J' i = J i := by
  have p5 : lpp d ≤ 5 := hd.2.2.2.2.2.2.2.2.1
  have a20 : laf d ≤ 20 := hd.2.2.2.2.2.2.2.1
  obtain ⟨w1, w2, w3, w4, w5⟩ := vc.2.2 p hp
  have ip : inb (nI p) 5 = true := inb_nI (by omega) (by omega)
  have cp : (nI p).toNatClampNeg = p := cl_nI (by omega)
  have e1 : J 82 p = nI (s 1 p) := cm.2.2 1 p (by omega) (by omega) hp
  have e2 : J 83 p = nI (s 2 p) := cm.2.2 2 p (by omega) (by omega) hp
  have pf : perfS d 3 p x s = (if slv d (s 6 0) (s 1 p) = false ∧ s 2 p + laf d ≤ 99 then (true, itS d p (laf d) s) else (false, s)) := by
    unfold perfS
    rw [if_neg (by omega), if_neg (by omega), if_neg (by omega), if_neg (by omega), if_neg (by omega)]
  rw [pf, D_X11_moors, h.r 68 36 82 rfl, bs_, h.z 82 5 rfl, if_pos ip, cp, e1, m.soil h hd cm vc w1, bs_]
  cases sl : slv d (s 6 0) (s 1 p) with
  | true =>
    rw [if_neg (show ¬ bI true = 0 by decide), if_neg (show ¬ (true = false ∧ s 2 p + laf d ≤ 99) from fun u => by cases u.1)]
    exact ⟨J, rfl, cm, fun _ _ => rfl⟩
  | false =>
    rw [if_pos (show bI false = 0 from rfl), h.r 68 37 83 rfl, bs_, h.z 83 5 rfl, if_pos ip, e2, m.2.2.2.2.1, nI_add]
    by_cases q : s 2 p + laf d ≤ 99
    · rw [if_neg (fun u => by have := (ln_lt (k := 99) (j := 99) rfl (by omega) (by omega)).mp u; omega), if_pos (show false = false ∧ s 2 p + laf d ≤ 99 from ⟨rfl, q⟩)]
      have loop : ∀ n i, i + n = laf d → ∀ K : I_T, CM K d (itS d p i s) → (∀ j, j < 81 ∨ 86 < j → K j = J j) → ∃ J', itC (B_X11_moors_33 sh.2.2 J L' R 68 (nI p)) (nI i, K) = some (1, J') ∧ CM J' d (itS d p (laf d) s) ∧ ∀ j, j < 81 ∨ 86 < j → J' j = J j := by
        intro n
        induction n with
        | zero =>
          intro i hi K c1 f1
          have : i = laf d := by omega
          subst this
          refine ⟨K, itC_inr ?_, c1, f1⟩
          unfold B_X11_moors_33
          simp only [f1 68 (by omega), m.2.2.2.2.1]
          rw [if_neg Int32.lt_irrefl]
        | succ n ih =>
          intro i hi K c1 f1
          obtain ⟨J', r1, r2, r3⟩ := minute_ok (L' := L') h hk hd ml (m.fr' f1) c1 (itS_v vc i (by omega)) hp
          obtain ⟨J'', A, B⟩ := ih (i + 1) (by omega) J' r2 (fun j hj => by rw [r3 j hj]; exact f1 j hj)
          refine ⟨J'', (itC_inl ?_).trans A, B⟩
          unfold B_X11_moors_33
          simp only [f1 68 (by omega), m.2.2.2.2.1]
          rw [if_pos ((nI_ltI (by omega) (by omega)).mpr (by omega)), r1, bs_, nI_1]
      exact loop (laf d) 0 (by omega) J cm (fun _ _ => rfl)
    · rw [if_pos ((ln_lt (k := 99) (j := 99) rfl (by omega) (by omega)).mpr (by omega)), if_neg (fun u => q u.2)]
      exact ⟨J, rfl, cm, fun _ _ => rfl⟩
