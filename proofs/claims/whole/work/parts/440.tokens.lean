/-! texts: the tape's tokens, the class's side -/
theorem up2_2 {α : Type} (f : Nat → Nat → α) (a j : Nat) (v w : α) : up2 (up2 f a j v) a j w = up2 f a j w := by
  funext b i
  unfold up2
  by_cases h : b = a
  · rw [if_pos h, if_pos h]
    by_cases q : i = j
    · rw [if_pos q, if_pos q, if_pos h]
    · rw [if_neg q, if_neg q, if_pos h, if_neg q]
  · rw [if_neg h, if_neg h, if_neg h]
theorem up2_4 {α : Type} (f : Nat → Nat → α) (a x y : Nat) (v w v' w' : α) : up2 (up2 (up2 (up2 f a x v) a y w) a x v') a y w' = up2 (up2 f a x v') a y w' := by
  funext b i
  by_cases h : b = a
  · subst h
    by_cases q : i = y
    · subst q
      rw [up2_s, up2_s]
    · rw [up2_j q, up2_j q]
      by_cases r : i = x
      · subst r
        rw [up2_s, up2_s]
      · rw [up2_j r, up2_j q, up2_j r, up2_j r]
  · simp only [up2_ne h]
/-- the first place from p on (k at most) whose sign is not so -/
def skp (P : Nat → Bool) (T : Nat → Nat) (n : Nat) : Nat → Nat → Nat
  | 0, p => p
  | k + 1, p => if p < n ∧ P (T p) = true then skp P T n k (p + 1) else p
def sk (P : Nat → Bool) (T : Nat → Nat) (n p : Nat) : Nat := skp P T n (n - p) p
theorem sk_no {P : Nat → Bool} {T : Nat → Nat} {n p : Nat} (h : ¬ (p < n ∧ P (T p) = true)) : sk P T n p = p := by
  unfold sk
  cases n - p with
  | zero => rfl
  | succ k => exact if_neg h
theorem sk_on {P : Nat → Bool} {T : Nat → Nat} {n p : Nat} (h : p < n ∧ P (T p) = true) : sk P T n p = sk P T n (p + 1) := by
  unfold sk
  rw [show n - p = (n - (p + 1)) + 1 by omega]
  exact if_pos h
theorem sk_ind {P : Nat → Bool} {T : Nat → Nat} {n : Nat} : ∀ k p, n - p = k → p ≤ n → p ≤ sk P T n p ∧ sk P T n p ≤ n ∧ (∀ i, p ≤ i → i < sk P T n p → P (T i) = true) ∧ (sk P T n p < n → ¬ P (T (sk P T n p)) = true) := by
  intro k
  induction k with
  | zero =>
    intro p h h2
    rw [sk_no (fun z => by omega)]
    exact ⟨Nat.le_refl _, h2, fun i _ _ => by omega, fun _ => by omega⟩
  | succ k ih =>
    intro p h h2
    by_cases c : p < n ∧ P (T p) = true
    · rw [sk_on c]
      obtain ⟨a1, a2, a3, a4⟩ := ih (p + 1) (by omega) (by omega)
      refine ⟨by omega, a2, fun i hi hi2 => ?_, a4⟩
      by_cases e : i = p
      · rw [e]; exact c.2
      · exact a3 i (by omega) hi2
    · rw [sk_no c]
      exact ⟨Nat.le_refl _, h2, fun i _ _ => by omega, fun h3 h4 => c ⟨h3, h4⟩⟩
theorem sk_ge {P : Nat → Bool} {T : Nat → Nat} {n p : Nat} (h : p ≤ n) : p ≤ sk P T n p := (sk_ind _ p rfl h).1
theorem sk_le {P : Nat → Bool} {T : Nat → Nat} {n p : Nat} (h : p ≤ n) : sk P T n p ≤ n := (sk_ind _ p rfl h).2.1
theorem sk_end {P : Nat → Bool} {T : Nat → Nat} {n p : Nat} (h : p ≤ n) (h2 : sk P T n p < n) : ¬ P (T (sk P T n p)) = true := (sk_ind _ p rfl h).2.2.2 h2
def blk (c : Nat) : Bool := decide (c = 10 ∨ c = 32)
def let_ (c : Nat) : Bool := decide (97 ≤ c ∧ c ≤ 122)
def dig_ (c : Nat) : Bool := decide (48 ≤ c ∧ c ≤ 57)
/-- the number that m digits from b on tell, as the class counts it -/
def dvl (T : Nat → Nat) (b : Nat) : Nat → Nat
  | 0 => 0
  | m + 1 => (dvl T b m * 10 + (T (b + m) - 48)) % 1000
theorem dvl_lt (T : Nat → Nat) (b m : Nat) : dvl T b m < 1000 := by
  cases m with
  | zero => exact Nat.lt_of_lt_of_le (Nat.zero_lt_one) (by omega)
  | succ m => exact Nat.mod_lt _ (by omega)
/-- of a token that begins at b: where it ends, its kind (as the class has it), its number -/
def tkE (T : Nat → Nat) (n b : Nat) : Nat := if b < n then (if let_ (T b) = true then sk let_ T n b else if dig_ (T b) = true then sk dig_ T n b else b + 1) else b
def tkK (T : Nat → Nat) (n b : Nat) : Nat := if b < n then (if let_ (T b) = true then 1 else if dig_ (T b) = true then (if 2 < sk dig_ T n b - b then 4 else 2) else if T b = 59 then 3 else 4) else 0
def tkV (T : Nat → Nat) (n b : Nat) : Nat := dvl T b (tkE T n b - b)
def nbt (T : Nat → Nat) (n b : Nat) : Nat := sk blk T n (tkE T n b)
theorem tkE_ge {T : Nat → Nat} {n b : Nat} (h : b ≤ n) : b ≤ tkE T n b ∧ tkE T n b ≤ n := by
  unfold tkE
  by_cases h1 : b < n
  · rw [if_pos h1]
    by_cases h2 : let_ (T b) = true
    · rw [if_pos h2]; exact ⟨sk_ge h, sk_le h⟩
    · rw [if_neg h2]
      by_cases h3 : dig_ (T b) = true
      · rw [if_pos h3]; exact ⟨sk_ge h, sk_le h⟩
      · rw [if_neg h3]; omega
  · rw [if_neg h1]; omega
theorem tkE_gt {T : Nat → Nat} {n b : Nat} (h1 : b < n) : b < tkE T n b := by
  unfold tkE
  rw [if_pos h1]
  by_cases h2 : let_ (T b) = true
  · rw [if_pos h2, sk_on ⟨h1, h2⟩]; exact sk_ge (p := b + 1) h1
  · rw [if_neg h2]
    by_cases h3 : dig_ (T b) = true
    · rw [if_pos h3, sk_on ⟨h1, h3⟩]; exact sk_ge (p := b + 1) h1
    · rw [if_neg h3]; omega
theorem nbt_le {T : Nat → Nat} {n b : Nat} (h : b ≤ n) : nbt T n b ≤ n := sk_le (tkE_ge h).2
theorem nbt_gt {T : Nat → Nat} {n b : Nat} (h1 : b < n) : b < nbt T n b := Nat.lt_of_lt_of_le (tkE_gt h1) (sk_ge (tkE_ge (by omega)).2)
theorem tkK_lt {T : Nat → Nat} {n b : Nat} (h : ¬ tkK T n b = 0) : b < n := by
  by_cases h1 : b < n
  · exact h1
  · exact (h (by unfold tkK; rw [if_neg h1])).elim
theorem tkK_le (T : Nat → Nat) (n b : Nat) : tkK T n b ≤ 4 := by
  unfold tkK
  repeat' split
  all_goals omega
/-- the class's tape -/
def TPc (Z : Nat → Nat) (R : R_T) (J : I_T) (n : Nat) (T : Nat → Nat) : Prop := J 7 1 = nI n ∧ n ≤ 600 ∧ R 7 0 = some 8 ∧ Z 8 = 600 ∧ ∀ i, i < n → J 8 i &&& 255 = nI (T i) ∧ T i < 256
theorem TPc.fr {Z : Nat → Nat} {R : R_T} {J J' : I_T} {n : Nat} {T : Nat → Nat} (h : TPc Z R J n T) (e7 : J' 7 = J 7) (e8 : J' 8 = J 8) : TPc Z R J' n T := by
  unfold TPc at h ⊢
  rw [e7, e8]
  exact h
theorem sign_ok {Z : Nat → Nat} {J : I_T} {L : L_T} {R : R_T} {n : Nat} {T : Nat → Nat} (tp : TPc Z R J n T) {p : Nat} (hp : p ≤ 600) : D_X8_sign Z J L R 7 (nI p) = some (nI (if p < n then T p else 0)) := by
  obtain ⟨t1, t2, t3, t4, t5⟩ := tp
  rw [D_X8_sign, if_neg (nI_pos (by omega)), t1]
  by_cases h : p < n
  · rw [if_pos ((nI_ltI (by omega) (by omega)).mpr h), t3, bs_, t4, if_pos ((nI_ltI (by omega) (by omega)).mpr (by omega)), if_pos (inb_nI (by omega) (by omega)), cl_nI (by omega), (t5 p h).1, if_pos h]
  · rw [if_neg (fun z => h ((nI_ltI (by omega) (by omega)).mp z)), if_neg h]
    rfl
theorem isL_ok {Z : Nat → Nat} {I : I_T} {L : L_T} {R : R_T} {c : Nat} (hc : c < 2 ^ 31) : D_X5_isLetter Z I L R (nI c) = some (bI (let_ c)) := by
  rw [D_X5_isLetter]
  unfold let_
  by_cases h1 : c < 97
  · rw [if_pos ((nl_lt (k := 97) (j := 97) rfl hc (by omega)).mpr h1), decide_eq_false (by omega)]; rfl
  · rw [if_neg (fun z => h1 ((nl_lt (k := 97) (j := 97) rfl hc (by omega)).mp z))]
    by_cases h2 : 122 < c
    · rw [if_pos ((ln_lt (k := 122) (j := 122) rfl hc (by omega)).mpr h2), decide_eq_false (by omega)]; rfl
    · rw [if_neg (fun z => h2 ((ln_lt (k := 122) (j := 122) rfl hc (by omega)).mp z)), decide_eq_true (by omega)]; rfl
theorem isD_ok {Z : Nat → Nat} {I : I_T} {L : L_T} {R : R_T} {c : Nat} (hc : c < 2 ^ 31) : D_X5_isDigit Z I L R (nI c) = some (bI (dig_ c)) := by
  rw [D_X5_isDigit]
  unfold dig_
  by_cases h1 : c < 48
  · rw [if_pos ((nl_lt (k := 48) (j := 48) rfl hc (by omega)).mpr h1), decide_eq_false (by omega)]; rfl
  · rw [if_neg (fun z => h1 ((nl_lt (k := 48) (j := 48) rfl hc (by omega)).mp z))]
    by_cases h2 : 57 < c
    · rw [if_pos ((ln_lt (k := 57) (j := 57) rfl hc (by omega)).mpr h2), decide_eq_false (by omega)]; rfl
    · rw [if_neg (fun z => h2 ((ln_lt (k := 57) (j := 57) rfl hc (by omega)).mp z)), decide_eq_true (by omega)]; rfl
theorem isB_ok {Z : Nat → Nat} {I : I_T} {L : L_T} {R : R_T} {c : Nat} (hc : c < 2 ^ 31) : D_X5_isBlank Z I L R (nI c) = some (bI (blk c)) := by
  rw [D_X5_isBlank]
  unfold blk
  by_cases h1 : c = 10
  · rw [if_pos ((nl_eq (k := 10) (j := 10) rfl hc (by omega)).mpr h1), decide_eq_true (by omega)]; rfl
  · rw [if_neg (fun z => h1 ((nl_eq (k := 10) (j := 10) rfl hc (by omega)).mp z))]
    by_cases h2 : c = 32
    · rw [if_pos ((nl_eq (k := 32) (j := 32) rfl hc (by omega)).mpr h2), decide_eq_true (by omega)]; rfl
    · rw [if_neg (fun z => h2 ((nl_eq (k := 32) (j := 32) rfl hc (by omega)).mp z)), decide_eq_false (by omega)]; rfl
theorem sg_lt {T : Nat → Nat} {n p : Nat} (h : ∀ i, i < n → T i < 256) : (if p < n then T p else 0) < 2 ^ 31 := by
  split
  · have := h p ‹_›; omega
  · omega
theorem sg_no {P : Nat → Bool} {T : Nat → Nat} {n p : Nat} (h0 : P 0 = false) (h : ¬ (p < n ∧ P (T p) = true)) : bI (P (if p < n then T p else 0)) = 0 := by
  by_cases z : p < n
  · rw [if_pos z]
    cases q : P (T p) with
    | false => rfl
    | true => exact (h ⟨z, q⟩).elim
  · rw [if_neg z, h0]; rfl
theorem sg_on {P : Nat → Bool} {T : Nat → Nat} {n p : Nat} (h : p < n ∧ P (T p) = true) : ¬ bI (P (if p < n then T p else 0)) = 0 := by
  rw [if_pos h.1, h.2]
  decide
theorem blanks_ok {Z : Nat → Nat} {L : L_T} {R : R_T} {n : Nat} {T : Nat → Nat} (I0 : I_T) : ∀ (k p i : Nat) (J : I_T) (r : I_T), n - p = k → p ≤ n → i ≤ p → TPc Z R J n T → J 35 5 = nI p → D_X5_advance_39 Z (up2 J 35 5 (nI (sk blk T n p))) L R 35 7 = some r → itC (B_X5_advance_2 Z I0 L R 35 7) (nI i, J) = some r := by
  intro k
  induction k with
  | zero =>
    intro p i J r hk hp hi tp h5 h
    have n600 := tp.2.1
    have c : ¬ (p < n ∧ blk (T p) = true) := fun z => by omega
    rw [sk_no c, up2_id h5.symm] at h
    refine itC_inr ?_
    unfold B_X5_advance_2
    dsimp only
    by_cases z : i < 600
    · rw [if_pos ((nl_lt (k := 600) (j := 600) rfl (by omega) (by omega)).mpr z), h5, sign_ok tp (by omega), bs_, isB_ok (sg_lt (fun i hi => (tp.2.2.2.2 i hi).2)), bs_, if_pos (sg_no rfl c), h, bs_]
    · rw [if_neg (fun u => z ((nl_lt (k := 600) (j := 600) rfl (by omega) (by omega)).mp u)), h, bs_]
  | succ k ih =>
    intro p i J r hk hp hi tp h5 h
    have n600 := tp.2.1
    by_cases c : p < n ∧ blk (T p) = true
    · rw [sk_on c] at h
      refine (itC_inl ?_).trans (ih (p + 1) (i + 1) (up2 J 35 5 (nI (p + 1))) r (by omega) (by omega) (by omega) (tp.fr (up2_ne (by omega)) (up2_ne (by omega))) (up2_s _ _ _ _) (by rw [up2_2]; exact h))
      unfold B_X5_advance_2
      dsimp only
      rw [if_pos ((nl_lt (k := 600) (j := 600) rfl (by omega) (by omega)).mpr (by omega)), h5, sign_ok tp (by omega), bs_, isB_ok (sg_lt (fun i hi => (tp.2.2.2.2 i hi).2)), bs_, if_neg (sg_on c), bs_, nI_1, nI_1]
    · rw [sk_no c, up2_id h5.symm] at h
      refine itC_inr ?_
      unfold B_X5_advance_2
      dsimp only
      rw [if_pos ((nl_lt (k := 600) (j := 600) rfl (by omega) (by omega)).mpr (by omega)), h5, sign_ok tp (by omega), bs_, isB_ok (sg_lt (fun i hi => (tp.2.2.2.2 i hi).2)), bs_, if_pos (sg_no rfl c), h, bs_]
theorem letters_ok {Z : Nat → Nat} {L : L_T} {R : R_T} {n : Nat} {T : Nat → Nat} (I0 : I_T) : ∀ (k p i : Nat) (J : I_T), n - p = k → p ≤ n → i ≤ p → TPc Z R J n T → J 35 5 = nI p → itC (B_X5_readWord_7 Z I0 L R 35 7) (nI i, J) = some (up2 J 35 5 (nI (sk let_ T n p))) := by
  intro k
  induction k with
  | zero =>
    intro p i J hk hp hi tp h5
    have n600 := tp.2.1
    have c : ¬ (p < n ∧ let_ (T p) = true) := fun z => by omega
    rw [sk_no c, up2_id h5.symm]
    refine itC_inr ?_
    unfold B_X5_readWord_7
    dsimp only
    by_cases z : i < 600
    · rw [if_pos ((nl_lt (k := 600) (j := 600) rfl (by omega) (by omega)).mpr z), h5, sign_ok tp (by omega), bs_, isL_ok (sg_lt (fun i hi => (tp.2.2.2.2 i hi).2)), bs_, if_pos (sg_no rfl c)]
    · rw [if_neg (fun u => z ((nl_lt (k := 600) (j := 600) rfl (by omega) (by omega)).mp u))]
  | succ k ih =>
    intro p i J hk hp hi tp h5
    have n600 := tp.2.1
    by_cases c : p < n ∧ let_ (T p) = true
    · rw [sk_on c]
      have e := ih (p + 1) (i + 1) (up2 J 35 5 (nI (p + 1))) (by omega) (by omega) (by omega) (tp.fr (up2_ne (by omega)) (up2_ne (by omega))) (up2_s _ _ _ _)
      rw [up2_2] at e
      refine (itC_inl ?_).trans e
      unfold B_X5_readWord_7
      dsimp only
      rw [if_pos ((nl_lt (k := 600) (j := 600) rfl (by omega) (by omega)).mpr (by omega)), h5, sign_ok tp (by omega), bs_, isL_ok (sg_lt (fun i hi => (tp.2.2.2.2 i hi).2)), bs_, if_neg (sg_on c), bs_, nI_1, nI_1]
    · rw [sk_no c, up2_id h5.symm]
      refine itC_inr ?_
      unfold B_X5_readWord_7
      dsimp only
      rw [if_pos ((nl_lt (k := 600) (j := 600) rfl (by omega) (by omega)).mpr (by omega)), h5, sign_ok tp (by omega), bs_, isL_ok (sg_lt (fun i hi => (tp.2.2.2.2 i hi).2)), bs_, if_pos (sg_no rfl c)]
theorem dig_st {x c : Nat} (hx : x < 1000) (hc : 48 ≤ c ∧ c ≤ 57) : nI x * 10 + nI c - 48 - (nI x * 10 + nI c - 48) / 1000 * 1000 = nI ((x * 10 + (c - 48)) % 1000) := by
  have e : nI x * 10 + nI c - 48 = nI (x * 10 + (c - 48)) := by
    rw [show (10 : Int32) = nI 10 from rfl, show (48 : Int32) = nI 48 from rfl, nI_mul, nI_add, nI_sub (by omega)]
    exact congrArg nI (by omega)
  rw [e]
  exact nI_rem (d := 1000) (by omega) (by omega) (by omega)
theorem digits_ok {Z : Nat → Nat} {L : L_T} {R : R_T} {n : Nat} {T : Nat → Nat} {b : Nat} (I0 : I_T) : ∀ (k p i : Nat) (J : I_T) (r : I_T), n - p = k → p ≤ n → i ≤ p → b ≤ p → TPc Z R J n T → J 35 5 = nI p → J 35 8 = nI (dvl T b (p - b)) → D_X5_readNumber_71 Z (up2 (up2 J 35 8 (nI (dvl T b (sk dig_ T n p - b)))) 35 5 (nI (sk dig_ T n p))) L R 35 = some r → itC (B_X5_readNumber_7 Z I0 L R 35 7) (nI i, J) = some r := by
  intro k
  induction k with
  | zero =>
    intro p i J r hk hp hi hb tp h5 h8 h
    have n600 := tp.2.1
    have c : ¬ (p < n ∧ dig_ (T p) = true) := fun z => by omega
    rw [sk_no c, up2_id h8.symm, up2_id h5.symm] at h
    refine itC_inr ?_
    unfold B_X5_readNumber_7
    dsimp only
    by_cases z : i < 600
    · rw [if_pos ((nl_lt (k := 600) (j := 600) rfl (by omega) (by omega)).mpr z), h5, sign_ok tp (by omega), bs_, isD_ok (sg_lt (fun i hi => (tp.2.2.2.2 i hi).2)), bs_, if_pos (sg_no rfl c), h, bs_]
    · rw [if_neg (fun u => z ((nl_lt (k := 600) (j := 600) rfl (by omega) (by omega)).mp u)), h, bs_]
  | succ k ih =>
    intro p i J r hk hp hi hb tp h5 h8 h
    have n600 := tp.2.1
    by_cases c : p < n ∧ dig_ (T p) = true
    · rw [sk_on c] at h
      have dd : 48 ≤ T p ∧ T p ≤ 57 := of_decide_eq_true c.2
      have ev : dvl T b (p + 1 - b) = (dvl T b (p - b) * 10 + (T p - 48)) % 1000 := by
        rw [show p + 1 - b = (p - b) + 1 by omega]
        show (dvl T b (p - b) * 10 + (T (b + (p - b)) - 48)) % 1000 = _
        rw [show b + (p - b) = p by omega]
      refine (itC_inl ?_).trans (ih (p + 1) (i + 1) (up2 (up2 J 35 8 (nI (dvl T b (p + 1 - b)))) 35 5 (nI (p + 1))) r (by omega) (by omega) (by omega) (by omega) (tp.fr (by rw [up2_ne (by omega), up2_ne (by omega)]) (by rw [up2_ne (by omega), up2_ne (by omega)])) (up2_s _ _ _ _) (by rw [up2_j (by omega), up2_s]) (by rw [up2_4]; exact h))
      unfold B_X5_readNumber_7
      dsimp only
      rw [if_pos ((nl_lt (k := 600) (j := 600) rfl (by omega) (by omega)).mpr (by omega)), h5, h8, sign_ok tp (by omega), bs_, isD_ok (sg_lt (fun i hi => (tp.2.2.2.2 i hi).2)), bs_, if_neg (sg_on c), bs_, if_pos c.1, bs_, bs_, dig_st (dvl_lt T b (p - b)) dd, ← ev, up2_j (show (5 : Nat) ≠ 8 by decide), h5, nI_1, nI_1]
    · rw [sk_no c, up2_id h8.symm, up2_id h5.symm] at h
      refine itC_inr ?_
      unfold B_X5_readNumber_7
      dsimp only
      rw [if_pos ((nl_lt (k := 600) (j := 600) rfl (by omega) (by omega)).mpr (by omega)), h5, sign_ok tp (by omega), bs_, isD_ok (sg_lt (fun i hi => (tp.2.2.2.2 i hi).2)), bs_, if_pos (sg_no rfl c), h, bs_]
/-- the class stands at the token that begins at b -/
def CTok (J : I_T) (T : Nat → Nat) (n b : Nat) : Prop := J 35 5 = nI (tkE T n b) ∧ J 35 6 = nI b ∧ J 35 7 = nI (tkK T n b) ∧ (tkK T n b = 2 → J 35 8 = nI (tkV T n b))
def CFr (J J' : I_T) : Prop := (∀ a, a ≠ 35 → J' a = J a) ∧ ∀ j, j < 5 ∨ 8 < j → J' 35 j = J 35 j
theorem advance_ok {Z : Nat → Nat} {J : I_T} {L : L_T} {R : R_T} {n : Nat} {T : Nat → Nat} (tp : TPc Z R J n T) {p : Nat} (hp : p ≤ n) (h5 : J 35 5 = nI p) : ∃ J', D_X5_advance Z J L R 35 7 = some J' ∧ CTok J' T n (sk blk T n p) ∧ CFr J J' := by
  have n600 := tp.2.1
  have bl : sk blk T n p ≤ n := sk_le hp
  rw [D_X5_advance, D_X5_advance_2, show (0 : Int32) = nI 0 from rfl]
  generalize hb : sk blk T n p = b at bl
  generalize h1 : up2 (up2 J 35 5 (nI b)) 35 6 (nI b) = I1
  have go : ∀ J', ((if I1 35 5 < I1 7 1 then (D_X8_sign Z I1 L R 7 (I1 35 5)).bind fun q3 => (D_X5_isLetter Z I1 L R q3).bind fun q4 => if q4 = 0 then (D_X5_isDigit Z I1 L R q3).bind fun q6 => if q6 = 0 then (if q3 = (59) then (D_X5_advance_115 Z I1 L R 35 (3) 35) else (D_X5_advance_115 Z I1 L R 35 (4) 35)) else ((D_X5_readNumber Z I1 L R 35 7).bind fun q9 => some (q9)) else ((D_X5_readWord Z I1 L R 35 7).bind fun q10 => some (q10)) else ((some (up2 I1 35 7 (0))).bind fun I11 => some (I11))) = some J') → itC (B_X5_advance_2 Z J L R 35 7) (nI 0, J) = some J' := fun J' h => by
    refine blanks_ok (T := T) (n := n) J _ p 0 J J' rfl hp (Nat.zero_le _) tp h5 ?_
    rw [hb, D_X5_advance_39, bs_, up2_s, h1]
    exact h
  have f0 : ∀ a, a ≠ 35 → I1 a = J a := fun a ha => by rw [← h1, up2_ne ha, up2_ne ha]
  have f1 : ∀ j, j ≠ 5 → j ≠ 6 → I1 35 j = J 35 j := fun j g5 g6 => by rw [← h1, up2_j g6, up2_j g5]
  have g5 : I1 35 5 = nI b := by rw [← h1, up2_j (by omega), up2_s]
  have g6 : I1 35 6 = nI b := by rw [← h1, up2_s]
  have tp1 : TPc Z R I1 n T := tp.fr (f0 7 (by omega)) (f0 8 (by omega))
  have t7 := tp1.1
  rw [g5, t7] at go
  by_cases hbn : b < n
  · rw [if_pos ((nI_ltI (by omega) (by omega)).mpr hbn), sign_ok tp1 (by omega), bs_, if_pos hbn] at go
    have Tb := (tp.2.2.2.2 b hbn).2
    rw [isL_ok (by omega), bs_] at go
    by_cases hl : let_ (T b) = true
    · rw [hl, if_neg (show ¬ bI true = 0 by decide), D_X5_readWord, bs_, D_X5_readWord_7, show (0 : Int32) = nI 0 from rfl, letters_ok (T := T) (n := n) (up2 I1 35 7 1) _ b 0 (up2 I1 35 7 1) rfl bl (Nat.zero_le _) (tp1.fr (up2_ne (by omega)) (up2_ne (by omega))) (by rw [up2_j (by omega)]; exact g5), bs_] at go
      have eE : tkE T n b = sk let_ T n b := by unfold tkE; rw [if_pos hbn, if_pos hl]
      have eK : tkK T n b = 1 := by unfold tkK; rw [if_pos hbn, if_pos hl]
      refine ⟨_, go _ rfl, ⟨by rw [up2_s, eE], by rw [up2_j (by omega), up2_j (by omega)]; exact g6, by rw [up2_j (by omega), up2_s, eK]; rfl, fun z => by omega⟩, fun a ha => by rw [up2_ne ha, up2_ne ha]; exact f0 a ha, fun j hj => ?_⟩
      rw [up2_j (by omega), up2_j (by omega)]
      exact f1 j (by omega) (by omega)
    · have hl' : let_ (T b) = false := by
        cases q : let_ (T b) with
        | false => rfl
        | true => exact (hl q).elim
      rw [hl', if_pos (show bI false = 0 from rfl), isD_ok (by omega), bs_] at go
      by_cases hd : dig_ (T b) = true
      · rw [hd, if_neg (show ¬ bI true = 0 by decide), D_X5_readNumber, bs_, D_X5_readNumber_7, show (0 : Int32) = nI 0 from rfl] at go
        have eE : tkE T n b = sk dig_ T n b := by unfold tkE; rw [if_pos hbn, if_neg hl, if_pos hd]
        have eK : tkK T n b = if 2 < sk dig_ T n b - b then 4 else 2 := by unfold tkK; rw [if_pos hbn, if_neg hl, if_pos hd]
        have sg : b ≤ sk dig_ T n b := sk_ge bl
        have sl : sk dig_ T n b ≤ n := sk_le bl
        generalize hq : sk dig_ T n b = q at eE eK sg sl
        have key : ∀ r, D_X5_readNumber_71 Z (up2 (up2 (up2 I1 35 8 (nI 0)) 35 8 (nI (dvl T b (q - b)))) 35 5 (nI q)) L R 35 = some r → itC (B_X5_readNumber_7 Z (up2 I1 35 8 (nI 0)) L R 35 7) (nI 0, up2 I1 35 8 (nI 0)) = some r := fun r h => by
          refine digits_ok (T := T) (n := n) (b := b) (up2 I1 35 8 (nI 0)) _ b 0 (up2 I1 35 8 (nI 0)) r rfl bl (Nat.zero_le _) (Nat.le_refl _) (tp1.fr (up2_ne (by omega)) (up2_ne (by omega))) (by rw [up2_j (by omega)]; exact g5) (by rw [up2_s, Nat.sub_self]; rfl) ?_
          rw [hq]
          exact h
        rw [up2_2] at key
        generalize hI2 : up2 (up2 I1 35 8 (nI (dvl T b (q - b)))) 35 5 (nI q) = I2 at key
        have i5 : I2 35 5 = nI q := by rw [← hI2, up2_s]
        have i6 : I2 35 6 = nI b := by rw [← hI2, up2_j (by omega), up2_j (by omega)]; exact g6
        have i8 : I2 35 8 = nI (tkV T n b) := by
          rw [← hI2, up2_j (by omega), up2_s]
          unfold tkV
          rw [eE]
        have e71 : D_X5_readNumber_71 Z I2 L R 35 = some (up2 I2 35 7 (nI (tkK T n b))) := by
          rw [D_X5_readNumber_71, i5, i6, nI_sub sg, eK]
          by_cases z : 2 < q - b
          · rw [if_pos ((ln_lt (k := 2) (j := 2) rfl (by omega) (by omega)).mpr z), if_pos z]; rfl
          · rw [if_neg (fun u => z ((ln_lt (k := 2) (j := 2) rfl (by omega) (by omega)).mp u)), if_neg z]; rfl
        rw [key _ e71, bs_] at go
        refine ⟨_, go _ rfl, ⟨by rw [up2_j (by omega), i5, eE], by rw [up2_j (by omega)]; exact i6, up2_s _ _ _ _, fun _ => by rw [up2_j (by omega)]; exact i8⟩, fun a ha => by rw [up2_ne ha, ← hI2, up2_ne ha, up2_ne ha]; exact f0 a ha, fun j hj => ?_⟩
        rw [up2_j (by omega), ← hI2, up2_j (by omega), up2_j (by omega)]
        exact f1 j (by omega) (by omega)
      · have hd' : dig_ (T b) = false := by
          cases q : dig_ (T b) with
          | false => rfl
          | true => exact (hd q).elim
        have eE : tkE T n b = b + 1 := by unfold tkE; rw [if_pos hbn, if_neg hl, if_neg hd]
        have eK : tkK T n b = if T b = 59 then 3 else 4 := by unfold tkK; rw [if_pos hbn, if_neg hl, if_neg hd]
        have e115 : ∀ x, D_X5_advance_115 Z I1 L R 35 x 35 = some (up2 (up2 I1 35 7 x) 35 5 (nI (b + 1))) := fun x => by
          rw [D_X5_advance_115, bs_, bs_, up2_j (by omega), g5, nI_1]
        have go2 : itC (B_X5_advance_2 Z J L R 35 7) (nI 0, J) = some (up2 (up2 I1 35 7 (nI (tkK T n b))) 35 5 (nI (b + 1))) := by
          refine go _ ?_
          rw [hd', if_pos (show bI false = 0 from rfl), eK]
          by_cases z : T b = 59
          · rw [if_pos ((nl_eq (k := 59) (j := 59) rfl (by omega) (by omega)).mpr z), if_pos z, e115]; rfl
          · rw [if_neg (fun u => z ((nl_eq (k := 59) (j := 59) rfl (by omega) (by omega)).mp u)), if_neg z, e115]; rfl
        have k2 : tkK T n b ≠ 2 := by rw [eK]; split <;> omega
        refine ⟨_, go2, ⟨by rw [up2_s, eE], by rw [up2_j (by omega), up2_j (by omega)]; exact g6, by rw [up2_j (by omega), up2_s], fun z => (k2 z).elim⟩, fun a ha => by rw [up2_ne ha, up2_ne ha]; exact f0 a ha, fun j hj => ?_⟩
        rw [up2_j (by omega), up2_j (by omega)]
        exact f1 j (by omega) (by omega)
  · rw [if_neg (fun z => hbn ((nI_ltI (by omega) (by omega)).mp z)), bs_] at go
    have eE : tkE T n b = b := by unfold tkE; rw [if_neg hbn]
    have eK : tkK T n b = 0 := by unfold tkK; rw [if_neg hbn]
    refine ⟨_, go _ rfl, ⟨by rw [up2_j (by omega), g5, eE], by rw [up2_j (by omega)]; exact g6, by rw [up2_s, eK]; rfl, fun z => by omega⟩, fun a ha => by rw [up2_ne ha]; exact f0 a ha, fun j hj => ?_⟩
    rw [up2_j (by omega)]
    exact f1 j (by omega) (by omega)
