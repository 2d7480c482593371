/-! relay -/
theorem nl_eq {a : Nat} {k : Int32} {j : Nat} (e : k = nI j) (ha : a < 2 ^ 31) (hj : j < 2 ^ 31) : nI a = k ↔ a = j := by rw [e]; exact nI_eq ha hj
theorem nl_lt {a : Nat} {k : Int32} {j : Nat} (e : k = nI j) (ha : a < 2 ^ 31) (hj : j < 2 ^ 31) : nI a < k ↔ a < j := by rw [e]; exact nI_ltI ha hj
theorem ln_lt {a : Nat} {k : Int32} {j : Nat} (e : k = nI j) (ha : a < 2 ^ 31) (hj : j < 2 ^ 31) : k < nI a ↔ j < a := by rw [e]; exact nI_ltI hj ha
theorem kind_or {Z : Nat → Nat} {I I' : I_T} {L L' : L_T} {R : R_T} (v : Int32) : (D_X10_isKind Z I L R v = some 0 ∧ D_X11_isKind Z I' L' R v = some 0) ∨ ∃ kd, kd ≤ 2 ∧ v = nI kd ∧ D_X10_isKind Z I L R v = some 1 ∧ D_X11_isKind Z I' L' R v = some 1 := by
  have m : D_X11_isKind Z I' L' R v = some (bI (decide (((0 : Nat) : Int) ≤ v.toInt ∧ v.toInt ≤ (2 : Nat)))) := by
    rw [D_X11_isKind, show D_X11_in Z I' L' R v 0 2 = _ from in_rng v (a := 0) (b := 2) (by omega) (by omega), bs_, if_pos (bI_isb _)]
  by_cases q : ((0 : Nat) : Int) ≤ v.toInt ∧ v.toInt ≤ (2 : Nat)
  · obtain ⟨kd, hk, rfl⟩ := clamp_lt (v := v) (c := 3) ⟨by omega, by omega⟩ (by omega)
    refine Or.inr ⟨kd, by omega, rfl, ?_, by rw [m, decide_eq_true q]; rfl⟩
    have lt : nI kd < 3 := (nI_ltI (b := 3) (by omega) (by omega)).mpr hk
    rw [D_X10_isKind, if_neg (nI_pos (by omega)), if_pos lt]
  · refine Or.inl ⟨?_, by rw [m, decide_eq_false q]; rfl⟩
    rw [D_X10_isKind]
    by_cases p0 : v < 0
    · rw [if_pos p0]
    · rw [if_neg p0, if_neg (fun z => q (by
        have h1 : ¬ v.toInt < (0 : Int32).toInt := fun z => p0 (Int32.lt_iff_toInt_lt.mpr z)
        have h2 : (0 : Int32).toInt = 0 := by decide
        have h3 : (3 : Int32).toInt = 3 := by decide
        have h4 := Int32.lt_iff_toInt_lt.mp z
        omega))]
/-- LIMIT of a KIND -/
def lim_ (d : ld_T) (kd : Nat) : Nat := if kd = 1 then max (lhr d / 2) 1 else lhr d
theorem lim_le {d : ld_T} (hd : VD d) (kd : Nat) : 1 ≤ lim_ d kd ∧ lim_ d kd ≤ 60 := by
  have a := hd.2.2.2.2.2.1
  have b := hd.2.2.2.2.2.2.1
  unfold lim_
  split <;> omega
theorem limit_ok {Z : Nat → Nat} {I : I_T} {L : L_T} {R : R_T} {a : Nat} {d : ld_T} (hd : VD d) (hl : CL I L a d) {kd : Nat} (hk : kd ≤ 2) : D_X2_limit Z I L R a (nI kd) = some (nI (lim_ d kd)) := by
  have b := hd.2.2.2.2.2.2.1
  have e3 : I a 3 = nI (lhr d) := hl.1 3 (by omega)
  rw [D_X2_limit, e3]
  unfold lim_
  by_cases z : kd = 1
  · subst z
    rw [if_pos (show nI 1 = 1 from rfl), if_pos rfl, show (2 : Int32) = nI 2 from rfl, pk_div (by omega) (by omega) (by omega)]
    exact congrArg some (imax_nI (b := 1) (by omega) (by omega))
  · rw [if_neg (fun w => z ((nl_eq (k := 1) (j := 1) rfl (by omega) (by omega)).mp w)), if_neg z]
theorem mlimit_ok {Z : Nat → Nat} {J : I_T} {L : L_T} {R : R_T} {d : ld_T} (hd : VD d) (e28 : J 68 28 = nI (lhr d)) {kd : Nat} (hk : kd ≤ 2) : D_X11_limit Z J L R 68 (nI kd) = some (nI (lim_ d kd)) := by
  have b := hd.2.2.2.2.2.2.1
  rw [D_X11_limit, e28]
  unfold lim_
  by_cases z : kd = 1
  · subst z
    rw [if_pos (show nI 1 = 1 from rfl), if_pos rfl, show (2 : Int32) = nI 2 from rfl, pk_div (by omega) (by omega) (by omega), greater_ok, bs_]
    by_cases w : 1 < lhr d / 2
    · rw [if_pos ((ln_lt (k := 1) (j := 1) rfl (by omega) (by omega)).mpr w), Nat.max_eq_left (by omega)]
    · rw [if_neg (fun u => w ((ln_lt (k := 1) (j := 1) rfl (by omega) (by omega)).mp u)), Nat.max_eq_right (by omega)]
      rfl
  · rw [if_neg (fun w => z ((nl_eq (k := 1) (j := 1) rfl (by omega) (by omega)).mp w)), if_neg z]
theorem ow1 {q b : Nat} (hq : q ≤ 60) (hb : 1 ≤ b) (hb2 : b ≤ 126) : imax (nI q - ((2 * nI b) - 1)) 0 = nI (q + 1 - 2 * b) := by
  have e : (2 * nI b) - 1 = nI (2 * b - 1) := by
    rw [show (2 : Int32) = nI 2 from rfl, nI_mul, show (1 : Int32) = nI 1 from rfl, nI_sub (by omega)]
  rw [e]
  by_cases z : 2 * b - 1 ≤ q
  · rw [nI_sub z]
    have := imax_nI (a := q - (2 * b - 1)) (b := 0) (by omega) (by omega)
    rw [show (0 : Int32) = nI 0 from rfl, this]
    congr 1
    omega
  · have e2 : (nI q - nI (2 * b - 1)).toInt = (q : Int) - (2 * b - 1 : Nat) := by
      rw [Int32.toInt_sub, nI_toInt (by omega), nI_toInt (by omega)]
      exact Int.bmod_eq_of_le (by omega) (by omega)
    unfold imax
    rw [if_pos (Int32.lt_iff_toInt_lt.mpr (by rw [e2]; have h2 : (0 : Int32).toInt = 0 := by decide
                                              omega))]
    rw [show q + 1 - 2 * b = 0 by omega]
    rfl
theorem ow2 {q b : Nat} (hq : q ≤ 60) (hb : b ≤ 126) : (if (0 : Int32) < (nI q - (2 * nI b)) + 1 then (nI q - (2 * nI b)) + 1 else 0) = nI (q + 1 - 2 * b) := by
  have e : (nI q - (2 * nI b)) + 1 = nI (q + 1) - nI (2 * b) := by
    rw [show (2 : Int32) = nI 2 from rfl, nI_mul, ← nI_add, show (1 : Int32) = nI 1 from rfl]
    rw [Int32.sub_eq_add_neg, Int32.sub_eq_add_neg, Int32.add_assoc, Int32.add_assoc, Int32.add_comm (nI 1)]
  rw [e]
  by_cases z : 2 * b ≤ q + 1
  · rw [nI_sub z]
    by_cases w : 0 < q + 1 - 2 * b
    · rw [if_pos ((ln_lt (k := 0) (j := 0) rfl (by omega) (by omega)).mpr w)]
    · rw [show q + 1 - 2 * b = 0 by omega]
      rfl
  · have e2 : (nI (q + 1) - nI (2 * b)).toInt = ((q + 1 : Nat) : Int) - (2 * b : Nat) := by
      rw [Int32.toInt_sub, nI_toInt (by omega), nI_toInt (by omega)]
      exact Int.bmod_eq_of_le (by omega) (by omega)
    rw [if_neg (fun u => by
      have := Int32.lt_iff_toInt_lt.mp u
      rw [e2] at this
      have h2 : (0 : Int32).toInt = 0 := by decide
      omega)]
    rw [show q + 1 - 2 * b = 0 by omega]
    rfl
/-- minutes one can work -/
def owk (d : ld_T) (kd : Nat) (f : Nat → Nat) (c : Nat) : Nat := lim_ d kd + 1 - 2 * f c
/-- how many it takes -/
def tkk (d : ld_T) (kd : Nat) (f : Nat → Nat) (c : Nat) : Int32 := if owk d kd f c = 0 then (if d 7 c = 0 then 0 else -1) else nI ((d 7 c + owk d kd f c - 1) / owk d kd f c)
theorem bks_le {d : ld_T} {W : Nat → Bool} {f : Nat → Nat} (h : BkS d W f) {c : Nat} (hc : c < cs_ d) : f c ≤ 126 ∨ f c = far_ := by
  rcases h with ⟨_, fr⟩ | ⟨_, fr⟩
  · exact Or.inr (fr c hc)
  · exact Or.inl (fr c hc).1
theorem stint_ok {Z : Nat → Nat} {I : I_T} {L : L_T} {R : R_T} {a : Nat} {d : ld_T} (hd : VD d) (hl : CL I L a d) (lz : LZ Z R a) {c : Nat} (hc : c < cs_ d) {f : Nat → Nat} (hf : BkS d (Wt d (lv d)) f) {kd : Nat} (hk : kd ≤ 2) : D_X2_stint Z I L R a (nI c) (nI kd) = some (if slv d (lv d) c = false ∨ far_ ≤ f c then -1 else nI (owk d kd f c)) := by
  have ll := lim_le hd kd
  have ff : far_ = 1000000 := rfl
  rw [D_X2_stint, bankC_ok hd hl lz hc hf, bs_]
  by_cases z : slv d (lv d) c = false ∨ far_ ≤ f c
  · rw [if_pos z, if_pos z, if_pos rfl]
  · have b := bks_le hf hc
    have p : 1 ≤ f c := by
      rcases Nat.eq_zero_or_pos (f c) with q | q
      · have := (bks_0 hf hc).mpr q
        unfold Wt at this
        exact (z (Or.inl (by simpa using this))).elim
      · exact q
    have u : ¬ far_ ≤ f c := fun u => z (Or.inr u)
    rw [if_neg z, if_neg z, if_neg (nI_neg1 (by omega)), limit_ok hd hl hk, bs_, ow1 (by omega) p (by omega)]
    rfl
theorem turns_ok {Z : Nat → Nat} {I : I_T} {L : L_T} {R : R_T} {a : Nat} {d : ld_T} (hd : VD d) (hl : CL I L a d) (lz : LZ Z R a) {c : Nat} (hc : c < cs_ d) {f : Nat → Nat} (hf : BkS d (Wt d (lv d)) f) {kd : Nat} (hk : kd ≤ 2) : D_X2_turns Z I L R a (nI c) (nI kd) = some (if slv d (lv d) c = false ∨ far_ ≤ f c then -1 else tkk d kd f c) := by
  have h64 := cs_le hd
  have ll := lim_le hd kd
  have w20 := (hd.2.2.2.2.2.2.2.2.2.1 c).2
  rw [D_X2_turns, stint_ok hd hl lz hc hf hk, bs_]
  by_cases z : slv d (lv d) c = false ∨ far_ ≤ f c
  · rw [if_pos z, if_pos z, if_pos rfl]
  · have o61 : owk d kd f c ≤ 61 := by unfold owk; omega
    rw [if_neg z, if_neg z, if_neg (nI_neg1 (by omega)), lz.2.1, bs_, get_ok (by rw [lz.2.2.2.2.2.1]; omega) (by rw [lz.2.2.2.2.2.1]; decide), (hl.2.1 c hc).2, bs_]
    unfold tkk
    by_cases q : owk d kd f c = 0
    · rw [q, if_neg (show ¬ (0 : Int32) < nI 0 by decide), if_pos rfl]
      by_cases w : d 7 c = 0
      · rw [w, if_pos (show nI 0 = 0 from rfl), if_pos rfl]
      · rw [if_neg (fun u => w ((nl_eq (k := 0) (j := 0) rfl (by omega) (by omega)).mp u)), if_neg w]
    · rw [if_pos ((ln_lt (k := 0) (j := 0) rfl (by omega) (by omega)).mpr (by omega)), if_pos (fun u => q ((nl_eq (k := 0) (j := 0) rfl (by omega) (by omega)).mp u)), if_neg q, nI_add, show (1 : Int32) = nI 1 from rfl, nI_sub (by omega), pk_div (by omega) (by omega) (by omega)]
theorem mworks_ok {Z : Nat → Nat} {J : I_T} {L : L_T} {R : R_T} {d : ld_T} (hd : VD d) (r44 : R 68 44 = some 90) (z90 : Z 90 = 64) (e28 : J 68 28 = nI (lhr d)) {f : Nat → Nat} (hJ : ∀ c, c < cs_ d → J 90 c = nI (f c)) {c : Nat} (hc : c < cs_ d) (hf : f c ≤ 126) {kd : Nat} (hk : kd ≤ 2) : D_X11_oneWorks Z J L R 68 (nI c) (nI kd) = some (nI (owk d kd f c)) := by
  have h64 := cs_le hd
  have ll := lim_le hd kd
  rw [D_X11_oneWorks, mlimit_ok hd e28 hk, bs_, r44, bs_, if_pos (inb_nI (by omega) (by omega)), cl_nI (by omega), hJ c hc, greater_ok, bs_, ow2 (by omega) hf]
  rfl
theorem mtakes_ok {Z : Nat → Nat} {J : I_T} {L : L_T} {R : R_T} {d : ld_T} (hd : VD d) (r44 : R 68 44 = some 90) (z90 : Z 90 = 64) (r34 : R 68 34 = some 81) (z81 : Z 81 = 64) (e28 : J 68 28 = nI (lhr d)) (e81 : ∀ c, c < cs_ d → J 81 c = nI (d 7 c)) {f : Nat → Nat} (hJ : ∀ c, c < cs_ d → J 90 c = nI (f c)) {c : Nat} (hc : c < cs_ d) {W : Nat → Bool} (hf : BkS d W f) {kd : Nat} (hk : kd ≤ 2) : D_X11_takes Z J L R 68 (nI c) (nI kd) = some (if far_ ≤ f c then (if d 7 c = 0 then 0 else -1) else tkk d kd f c) := by
  have h64 := cs_le hd
  have ll := lim_le hd kd
  have ff : far_ = 1000000 := rfl
  have w20 := (hd.2.2.2.2.2.2.2.2.2.1 c).2
  have i81 : inb (nI c) (Z 81) = true := inb_nI (by omega) (by omega)
  have b := bks_le hf hc
  have t22 : ∀ o : Nat, o ≤ 61 → D_X11_takes_22 Z J L R 68 (nI c) (nI o) = some (if o = 0 then (if d 7 c = 0 then 0 else -1) else nI ((d 7 c + o - 1) / o)) := fun o ho => by
    rw [D_X11_takes_22, r34, bs_, if_pos i81, cl_nI (by omega), e81 c hc]
    by_cases w : d 7 c = 0
    · rw [w, if_pos (show nI 0 = 0 from rfl), if_pos rfl]
      by_cases q : o = 0
      · rw [if_pos q]
      · rw [if_neg q, Nat.div_eq_of_lt (by omega)]
        rfl
    · rw [if_neg (fun u => w ((nl_eq (k := 0) (j := 0) rfl (by omega) (by omega)).mp u)), if_neg w]
      by_cases q : o = 0
      · subst q
        rw [if_pos (show nI 0 = 0 from rfl), if_pos rfl]
      · rw [if_neg (fun u => q ((nl_eq (k := 0) (j := 0) rfl (by omega) (by omega)).mp u)), if_pos i81, if_pos (fun u => q ((nl_eq (k := 0) (j := 0) rfl (by omega) (by omega)).mp u)), if_neg q, nI_add, show (1 : Int32) = nI 1 from rfl, nI_sub (by omega), pk_div (by omega) (by omega) (by omega)]
  rw [D_X11_takes, r44, bs_, if_pos (inb_nI (by omega) (by omega)), cl_nI (by omega), hJ c hc]
  by_cases z : far_ ≤ f c
  · rw [if_neg (fun u => by
      have := (nl_lt (k := 1000000) (j := 1000000) rfl (by omega) (by omega)).mp u
      omega), if_pos z, show (0 : Int32) = nI 0 from rfl, t22 0 (by omega), if_pos rfl]
    rfl
  · have lt : nI (f c) < 1000000 := (nI_ltI (b := 1000000) (by omega) (by omega)).mpr (by omega)
    rw [if_pos lt, mworks_ok hd r44 z90 e28 hJ hc (by omega) hk, bs_, t22 _ (by unfold owk; omega), if_neg z]
    rfl
