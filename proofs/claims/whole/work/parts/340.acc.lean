/-! lands and scripts by their numbers -/
theorem nI_mul (a b : Nat) : nI a * nI b = nI (a * b) := by
  apply Int32.toBitVec_inj.mp
  rw [Int32.toBitVec_mul]
  show BitVec.ofNat 32 a * BitVec.ofNat 32 b = BitVec.ofNat 32 (a * b)
  exact (BitVec.ofNat_mul a b).symm
theorem nI_sub {a b : Nat} (h : b ≤ a) : nI a - nI b = nI (a - b) := by
  obtain ⟨c, rfl⟩ : ∃ c, a = b + c := ⟨a - b, by omega⟩
  rw [← nI_add, Nat.add_sub_cancel_left]
  apply Int32.toBitVec_inj.mp
  rw [Int32.toBitVec_sub, Int32.toBitVec_add, BitVec.add_comm]
  exact BitVec.add_sub_cancel _ _
theorem nI_rem {a d : Nat} (ha : a < 2 ^ 31) (h0 : 0 < d) (hd : d < 2 ^ 31) : nI a - nI a / nI d * nI d = nI (a % d) := by
  rw [pk_div ha h0 hd, nI_mul, nI_sub (Nat.div_mul_le_self a d)]
  congr 1
  have := Nat.div_add_mod a d
  rw [Nat.mul_comm] at this
  omega
theorem in_cnt {Z : Nat → Nat} {I : I_T} {L : L_T} {R : R_T} (v : Int32) {c : Nat} (hc : c < 2 ^ 31) : D_X11_in Z I L R v 0 (nI c - 1) = some (bI (decide (0 ≤ v.toInt ∧ v.toInt < c))) := by
  have e : (nI c - 1).toInt = (c : Int) - 1 := by
    cases c with
    | zero => rfl
    | succ c => rw [nI_pred, nI_toInt (by omega)]; omega
  have e0 : (0 : Int32).toInt = 0 := rfl
  by_cases h1 : v < 0
  · have h2 : v.toInt < 0 := Int32.lt_iff_toInt_lt.mp h1
    rw [D_X11_in, if_pos h1, decide_eq_false (by omega)]
    rfl
  · have h2 : ¬ v.toInt < 0 := fun z => h1 (Int32.lt_iff_toInt_lt.mpr z)
    by_cases h3 : nI c - 1 < v
    · have h4 := Int32.lt_iff_toInt_lt.mp h3
      rw [D_X11_in, if_neg h1, if_pos h3, decide_eq_false (by omega)]
      rfl
    · have h4 : ¬ (nI c - 1).toInt < v.toInt := fun z => h3 (Int32.lt_iff_toInt_lt.mpr z)
      rw [D_X11_in, if_neg h1, if_neg h3, decide_eq_true (by omega)]
      rfl
theorem is_ok {sh : sh_T} {I : I_T} {L : L_T} {R : R_T} (h : Inv sh I L R) {L' : L_T} {s c : Nat} (hs : s < 4) (hc : I 73 s = nI c) (h2 : c ≤ 2) (v : Int32) : D_X11_is sh.2.2 I L' R 68 (nI s) v = some (bI (decide (0 ≤ v.toInt ∧ v.toInt < c))) := by
  rw [D_X11_is, h.r 68 5 73 rfl, bs_, if_pos (inb_nI (by rw [h.z 73 16 rfl]; omega) (by omega)), cl_nI (by omega), hc, in_cnt v (by omega), bs_, if_pos (bI_isb _)]
theorem is_eq {Z : Nat → Nat} {I I' : I_T} {L L' : L_T} {R : R_T} (h5 : R 68 5 = some 73) (e : I' 73 = I 73) (s v : Int32) : D_X11_is Z I' L' R 68 s v = D_X11_is Z I L R 68 s v := by
  rw [D_X11_is, D_X11_is, h5, bs_, bs_, e]
  rfl
def LZ (Z : Nat → Nat) (R : R_T) (a : Nat) : Prop := R a 6 = some (a + 1) ∧ R a 7 = some (a + 2) ∧ R a 8 = some (a + 3) ∧ R a 9 = some (a + 4) ∧ Z (a + 1) = 64 ∧ Z (a + 2) = 64 ∧ Z (a + 3) = 5 ∧ Z (a + 4) = 5
theorem Inv.lz {sh : sh_T} {I : I_T} {L : L_T} {R : R_T} (h : Inv sh I L R) {k : Nat} (hk : k < 2) : LZ sh.2.2 R (12 + 5 * k) := by
  have : k = 0 ∨ k = 1 := by omega
  rcases this with rfl | rfl
  · exact ⟨h.r 12 6 13 rfl, h.r 12 7 14 rfl, h.r 12 8 15 rfl, h.r 12 9 16 rfl, h.z 13 64 rfl, h.z 14 64 rfl, h.z 15 5 rfl, h.z 16 5 rfl⟩
  · exact ⟨h.r 17 6 18 rfl, h.r 17 7 19 rfl, h.r 17 8 20 rfl, h.r 17 9 21 rfl, h.z 18 64 rfl, h.z 19 64 rfl, h.z 20 5 rfl, h.z 21 5 rfl⟩
/-- the model's hand holds a land -/
def HD (I : I_T) (k : Nat) (d : ld_T) : Prop := I 68 24 = nI k ∧ I 68 25 = nI (lw d) ∧ I 68 26 = nI (lw d * lh d) ∧ I 68 27 = nI (lv d) ∧ I 68 28 = nI (lhr d) ∧ I 68 29 = nI (laf d) ∧ I 68 30 = nI (lpp d) ∧ I 68 31 = -1 ∧ ∀ c, c < lw d * lh d → I 80 c = nI (d 6 c) ∧ I 81 c = nI (d 7 c)
def Fr (I I' : I_T) : Prop := (∀ a, a ≠ 68 → a ≠ 80 → a ≠ 81 → I' a = I a) ∧ ∀ j, j < 24 ∨ 31 < j → I' 68 j = I 68 j
theorem of_ok {sh : sh_T} {I : I_T} {L : L_T} {R : R_T} (h : Inv sh I L R) {I' : I_T} {L' : L_T} {k j : Nat} (hk : k < 2) (hj : j < 149) (h24 : I' 68 24 = nI k) : D_X11_of sh.2.2 I' L' R 68 (nI j) = some (I' 74 (149 * k + j)) := by
  have e : (149 : Int32) * I' 68 24 + nI j = nI (149 * k + j) := by rw [h24, show (149 : Int32) = nI 149 from rfl, nI_mul, nI_add]
  rw [D_X11_of, h.r 68 6 74 rfl, bs_, e, if_pos (inb_nI (by rw [h.z 74 1192 rfl]; omega) (by omega)), cl_nI (by omega)]
def hfI (I : I_T) (d : ld_T) : Nat → I_T
  | 0 => I
  | c + 1 => up2 (up2 (hfI I d c) 80 c (nI (d 6 c))) 81 c (nI (d 7 c))
theorem hfI_ne {I : I_T} {d : ld_T} {a : Nat} (h1 : a ≠ 80) (h2 : a ≠ 81) : ∀ c, hfI I d c a = I a
  | 0 => rfl
  | c + 1 => by
    show up2 (up2 (hfI I d c) 80 c _) 81 c _ a = _
    rw [up2_ne h2, up2_ne h1, hfI_ne h1 h2 c]
theorem hfI_at {I : I_T} {d : ld_T} : ∀ c i, i < c → hfI I d c 80 i = nI (d 6 i) ∧ hfI I d c 81 i = nI (d 7 i)
  | 0, i, h => by omega
  | c + 1, i, h => by
    show up2 (up2 (hfI I d c) 80 c _) 81 c _ 80 i = _ ∧ up2 (up2 (hfI I d c) 80 c _) 81 c _ 81 i = _
    by_cases e : i = c
    · subst e
      rw [up2_a (by omega), up2_s, up2_s]
      exact ⟨rfl, rfl⟩
    · rw [up2_a (by omega), up2_j e, up2_j e, up2_a (by omega)]
      exact hfI_at c i (by omega)
theorem hand_ok {sh : sh_T} {I : I_T} {L : L_T} {R : R_T} (h : Inv sh I L R) {k : Nat} {d : ld_T} (hk : k < 2) (hd : VD d) (hm : ML I k d) {I' : I_T} {L' : L_T} (e73 : D_X11_is sh.2.2 I' L' R 68 0 (nI k) = some 1) (e74 : I' 74 = I 74) : ∃ I'', D_X11_hand sh.2.2 I' L' R 68 (nI k) = some (1, I'') ∧ HD I'' k d ∧ Fr I' I'' := by
  obtain ⟨m1, m2, m3⟩ := hm
  obtain ⟨v1, v2, v3, v4, v5, v6, v7, v8, v9, v10, v11⟩ := hd
  have hwh : lw d * lh d ≤ 64 := Nat.le_trans (Nat.mul_le_mul v2 v4) (by decide)
  have OF : ∀ (J : I_T) (j : Nat), j < 6 → J 68 24 = nI k → J 74 = I 74 → D_X11_of sh.2.2 J L' R 68 (nI j) = some (nI (d j 0)) := fun J j hj q1 q2 => by rw [of_ok h hk (by omega) q1, q2, m1 j hj]
  unfold D_X11_hand
  generalize hm1 : (-1 : Int32) = mm
  rw [e73, bs_, if_neg (by decide), bs_]
  rw [show (0 : Int32) = nI 0 from rfl, OF _ 0 (by omega) (up2_s _ _ _ _) (by rw [up2_ne (by omega)]; exact e74), bs_, bs_]
  rw [show (1 : Int32) = nI 1 from rfl, OF _ 1 (by omega) (by rw [up2_j (by omega), up2_s]) (by rw [up2_ne (by omega), up2_ne (by omega)]; exact e74), bs_, bs_, up2_s, nI_mul]
  rw [show (2 : Int32) = nI 2 from rfl, OF _ 2 (by omega) (by rw [up2_j (by omega), up2_j (by omega), up2_s]) (by rw [up2_ne (by omega), up2_ne (by omega), up2_ne (by omega)]; exact e74), bs_, bs_]
  rw [show (3 : Int32) = nI 3 from rfl, OF _ 3 (by omega) (by rw [up2_j (by omega), up2_j (by omega), up2_j (by omega), up2_s]) (by rw [up2_ne (by omega), up2_ne (by omega), up2_ne (by omega), up2_ne (by omega)]; exact e74), bs_, bs_]
  rw [show (4 : Int32) = nI 4 from rfl, OF _ 4 (by omega) (by rw [up2_j (by omega), up2_j (by omega), up2_j (by omega), up2_j (by omega), up2_s]) (by rw [up2_ne (by omega), up2_ne (by omega), up2_ne (by omega), up2_ne (by omega), up2_ne (by omega)]; exact e74), bs_, bs_]
  rw [show (5 : Int32) = nI 5 from rfl, OF _ 5 (by omega) (by rw [up2_j (by omega), up2_j (by omega), up2_j (by omega), up2_j (by omega), up2_j (by omega), up2_s]) (by rw [up2_ne (by omega), up2_ne (by omega), up2_ne (by omega), up2_ne (by omega), up2_ne (by omega), up2_ne (by omega)]; exact e74), bs_, bs_, bs_]
  generalize hJ : up2 (up2 (up2 (up2 (up2 (up2 (up2 (up2 I' 68 24 (nI k)) 68 25 (nI (d 0 0))) 68 26 (nI (d 0 0 * d 1 0))) 68 27 (nI (d 2 0))) 68 28 (nI (d 3 0))) 68 29 (nI (d 4 0))) 68 30 (nI (d 5 0))) 68 31 mm = J
  have o1 : ∀ a, a ≠ 68 → J a = I' a := fun a ha => by rw [← hJ]; simp only [up2_ne ha]
  have f24 : J 68 24 = nI k := by rw [← hJ]; simp [up2_j, up2_s]
  have f25 : J 68 25 = nI (lw d) := by rw [← hJ]; simp [up2_j, up2_s]
  have f26 : J 68 26 = nI (lw d * lh d) := by rw [← hJ]; simp [up2_j, up2_s]
  have f27 : J 68 27 = nI (lv d) := by rw [← hJ]; simp [up2_j, up2_s]
  have f28 : J 68 28 = nI (lhr d) := by rw [← hJ]; simp [up2_j, up2_s]
  have f29 : J 68 29 = nI (laf d) := by rw [← hJ]; simp [up2_j, up2_s]
  have f30 : J 68 30 = nI (lpp d) := by rw [← hJ]; simp [up2_j, up2_s]
  have f31 : J 68 31 = -1 := by rw [← hJ, hm1]; exact up2_s _ _ _ _
  have f32 : ∀ j, j < 24 ∨ 31 < j → J 68 j = I' 68 j := fun j hj => by
    rw [← hJ]
    rw [up2_j (by omega), up2_j (by omega), up2_j (by omega), up2_j (by omega), up2_j (by omega), up2_j (by omega), up2_j (by omega), up2_j (by omega)]
  refine ⟨hfI J d (lw d * lh d), ?_, ⟨?_, ?_, ?_, ?_, ?_, ?_, ?_, ?_, fun c hc => hfI_at _ c hc⟩, ⟨fun a a1 a2 a3 => by rw [hfI_ne a2 a3, o1 a a1], fun j hj => by rw [hfI_ne (by omega) (by omega)]; exact f32 j hj⟩⟩
  · have := itC_count (f := B_X11_hand_82 sh.2.2 I' L' R 68) (fun c => (nI c, hfI J d c)) (n := lw d * lh d) (r := (1, hfI J d (lw d * lh d))) (fun c hc => ?_) ?_
    · exact this
    · have g25 : hfI J d c 68 25 = nI (lw d) := by rw [hfI_ne (by omega) (by omega)]; exact f25
      have g26 : hfI J d c 68 26 = nI (lw d * lh d) := by rw [hfI_ne (by omega) (by omega)]; exact f26
      have g24 : hfI J d c 68 24 = nI k := by rw [hfI_ne (by omega) (by omega)]; exact f24
      have g74 : hfI J d c 74 = I 74 := by rw [hfI_ne (by omega) (by omega), o1 74 (by omega)]; exact e74
      have hr : c / lw d < lh d := Nat.div_lt_of_lt_mul hc
      have hcc : c % lw d < lw d := Nat.mod_lt _ (by omega)
      have hdm := Nat.div_add_mod c (lw d)
      have w0 : ¬ nI (lw d) = 0 := nI_ne0 (by omega) (by omega)
      have lt : nI c < nI (lw d * lh d) := (nI_ltI (by omega) (by omega)).mpr hc
      have ex : (8 : Int32) * (nI c / nI (lw d)) + (nI c - nI c / nI (lw d) * nI (lw d)) = nI (8 * (c / lw d) + c % lw d) := by
        rw [nI_rem (by omega) (by omega) (by omega), pk_div (by omega) (by omega) (by omega), show (8 : Int32) = nI 8 from rfl, nI_mul, nI_add]
      obtain ⟨p1, p2⟩ := m2 (c / lw d) (c % lw d) hr hcc
      rw [hdm] at p1 p2
      unfold B_X11_hand_82
      simp only [g25, g26, w0, lt, if_true, not_false_eq_true, bs_, ex, h.r 68 33 80 rfl, h.r 68 34 81 rfl]
      rw [show (21 : Int32) = nI 21 from rfl, show (85 : Int32) = nI 85 from rfl, nI_add, nI_add, of_ok h hk (by omega) g24, bs_, g74, p1, if_pos (inb_nI (by rw [h.z 80 64 rfl]; omega) (by omega)), of_ok h hk (by omega) (by rw [up2_a (by omega)]; exact g24), bs_, if_pos (inb_nI (by rw [h.z 81 64 rfl]; omega) (by omega)), up2_ne (by omega), g74, p2, cl_nI (by omega), nI_1]
      rfl
    · have g26 : hfI J d (lw d * lh d) 68 26 = nI (lw d * lh d) := by rw [hfI_ne (by omega) (by omega)]; exact f26
      have lt : ¬ nI (lw d * lh d) < nI (lw d * lh d) := Int32.lt_irrefl
      unfold B_X11_hand_82
      simp only [g26, lt, if_false]
  all_goals rw [hfI_ne (by omega) (by omega)]
  · exact f24
  · exact f25
  · exact f26
  · exact f27
  · exact f28
  · exact f29
  · exact f30
  · exact f31
