/-! texts: the tape's tokens, the model's side -/
def TPm (Z : Nat → Nat) (R : R_T) (K : I_T) (n : Nat) (T : Nat → Nat) : Prop := K 68 11 = nI n ∧ n ≤ 600 ∧ R 68 1 = some 69 ∧ Z 69 = 2400 ∧ ∀ i, i < n → K 69 i &&& 255 = nI (T i) ∧ T i < 256
theorem TPm.fr {Z : Nat → Nat} {R : R_T} {K K' : I_T} {n : Nat} {T : Nat → Nat} (h : TPm Z R K n T) (e1 : K' 68 11 = K 68 11) (e2 : K' 69 = K 69) : TPm Z R K' n T := by
  unfold TPm at h ⊢
  rw [e1, e2]
  exact h
/-- what is seen at p -/
def sv (T : Nat → Nat) (n p : Nat) : Int32 := if p < n then nI (T p) else -1
theorem see_ok {Z : Nat → Nat} {K : I_T} {L : L_T} {R : R_T} {n : Nat} {T : Nat → Nat} (tp : TPm Z R K n T) {p : Nat} (hp : p ≤ n) (h10 : K 68 10 = nI p) : D_X11_see Z K L R 68 = some (sv T n p) := by
  obtain ⟨t1, t2, t3, t4, t5⟩ := tp
  unfold sv
  rw [D_X11_see, h10, t1]
  by_cases h : p < n
  · rw [if_pos ((nI_ltI (by omega) (by omega)).mpr h), t3, bs_, t4, if_pos (inb_nI (by omega) (by omega)), cl_nI (by omega), (t5 p h).1, if_pos h]
  · rw [if_neg (fun z => h ((nI_ltI (by omega) (by omega)).mp z)), if_neg h]
theorem sv_eq {k : Int32} {T : Nat → Nat} {n p c : Nat} (e : k = nI c) (hT : ∀ i, i < n → T i < 256) (hc : c < 256) : sv T n p = k ↔ p < n ∧ T p = c := by
  subst e
  unfold sv
  by_cases h : p < n
  · have := hT p h
    rw [if_pos h, nI_eq (by omega) (by omega)]
    exact ⟨fun z => ⟨h, z⟩, fun z => z.2⟩
  · rw [if_neg h]
    exact ⟨fun z => (nI_neg1 (by omega) z.symm).elim, fun z => (h z.1).elim⟩
theorem sv_in {Z : Nat → Nat} {I : I_T} {L : L_T} {R : R_T} {T : Nat → Nat} {n p lo hi : Nat} {P : Nat → Bool} (hT : ∀ i, i < n → T i < 256) (h1 : lo < 256) (h2 : hi < 256) (hP : ∀ c, P c = decide (lo ≤ c ∧ c ≤ hi)) : D_X11_in Z I L R (sv T n p) (nI lo) (nI hi) = some (bI (decide (p < n) && P (T p))) := by
  rw [in_rng _ (by omega) (by omega), hP]
  unfold sv
  by_cases h : p < n
  · have := hT p h
    rw [if_pos h, nI_toInt (by omega), decide_eq_true h, Bool.true_and]
    exact congrArg (fun q => some (bI q)) (decide_eq_decide.mpr ⟨fun z => by omega, fun z => by omega⟩)
  · rw [if_neg h, decide_eq_false h, Bool.false_and, show (-1 : Int32).toInt = -1 by decide, decide_eq_false (fun z => by omega)]
theorem inL_ok {Z : Nat → Nat} {I : I_T} {L : L_T} {R : R_T} {T : Nat → Nat} {n p : Nat} (hT : ∀ i, i < n → T i < 256) : D_X11_in Z I L R (sv T n p) 97 122 = some (bI (decide (p < n) && let_ (T p))) := sv_in (lo := 97) (hi := 122) hT (by omega) (by omega) (fun _ => rfl)
theorem inD_ok {Z : Nat → Nat} {I : I_T} {L : L_T} {R : R_T} {T : Nat → Nat} {n p : Nat} (hT : ∀ i, i < n → T i < 256) : D_X11_in Z I L R (sv T n p) 48 57 = some (bI (decide (p < n) && dig_ (T p))) := sv_in (lo := 48) (hi := 57) hT (by omega) (by omega) (fun _ => rfl)
theorem bI_no {p n : Nat} {P : Nat → Bool} {T : Nat → Nat} (h : ¬ (p < n ∧ P (T p) = true)) : bI (decide (p < n) && P (T p)) = 0 := by
  by_cases z : p < n
  · cases q : P (T p) with
    | false => rw [Bool.and_false]; rfl
    | true => exact (h ⟨z, q⟩).elim
  · rw [decide_eq_false z, Bool.false_and]; rfl
theorem bI_on {p n : Nat} {P : Nat → Bool} {T : Nat → Nat} (h : p < n ∧ P (T p) = true) : ¬ bI (decide (p < n) && P (T p)) = 0 := by
  rw [decide_eq_true h.1, h.2]
  decide
/-- letters packed, as the model packs them -/
noncomputable def wpk (T : Nat → Nat) (b : Nat) : Nat → Int64
  | 0 => 0
  | m + 1 => (wpk T b m <<< ((8 : Int32).toInt64 &&& 63)) ||| (nI (T (b + m))).toInt64
noncomputable def tkW (T : Nat → Nat) (b m : Nat) : Int64 := if 8 < m then 0 else wpk T b m
theorem mlet_ok {Z : Nat → Nat} {R : R_T} {n b : Nat} {T : Nat → Nat} (I0 : I_T) (L0 : L_T) : ∀ (k p m : Nat) (K : I_T) (L : L_T), n - p = k → p ≤ n → b + m = p → TPm Z R K n T → K 68 10 = nI p → L 68 15 = wpk T b m → itC (B_X11_token_74 Z I0 L0 R 68) (nI m, K, L) = some (up2 (up2 K 68 10 (nI (sk let_ T n p))) 68 13 2, up2 L 68 15 (tkW T b (sk let_ T n p - b))) := by
  intro k
  induction k with
  | zero =>
    intro p m K L hk hp hm tp h10 h15
    have n600 := tp.2.1
    have hT : ∀ i, i < n → T i < 256 := fun i hi => (tp.2.2.2.2 i hi).2
    have c : ¬ (p < n ∧ let_ (T p) = true) := fun z => by omega
    rw [sk_no c, up2_id h10.symm]
    refine itC_inr ?_
    unfold B_X11_token_74 tkW
    dsimp only
    rw [see_ok tp hp h10, bs_, inL_ok hT, bs_, if_pos (bI_no c), show p - b = m by omega]
    by_cases z : 8 < m
    · rw [if_pos ((ln_lt (k := 8) (j := 8) rfl (by omega) (by omega)).mpr z), if_pos z, bs_, bs_]
    · rw [if_neg (fun u => z ((ln_lt (k := 8) (j := 8) rfl (by omega) (by omega)).mp u)), if_neg z, h15, bs_, bs_]
  | succ k ih =>
    intro p m K L hk hp hm tp h10 h15
    have n600 := tp.2.1
    have hT : ∀ i, i < n → T i < 256 := fun i hi => (tp.2.2.2.2 i hi).2
    by_cases c : p < n ∧ let_ (T p) = true
    · rw [sk_on c]
      have e := ih (p + 1) (m + 1) (up2 K 68 10 (nI (p + 1))) (up2 L 68 15 (wpk T b (m + 1))) (by omega) (by omega) (by omega) (tp.fr (up2_j (by omega)) (up2_ne (by omega))) (up2_s _ _ _ _) (up2_s _ _ _ _)
      rw [up2_2, up2_2] at e
      refine (itC_inl ?_).trans e
      unfold B_X11_token_74
      dsimp only
      rw [see_ok tp hp h10, bs_, inL_ok hT, bs_, if_neg (bI_on c), bs_, bs_, bs_, h10, h15, nI_1, nI_1]
      show some (Sum.inl (nI (m + 1), up2 K 68 10 (nI (p + 1)), up2 L 68 15 ((wpk T b m <<< ((8 : Int32).toInt64 &&& 63)) ||| (sv T n p).toInt64))) = _
      rw [show sv T n p = nI (T (b + m)) by unfold sv; rw [if_pos c.1, hm]]
      rfl
    · rw [sk_no c, up2_id h10.symm]
      refine itC_inr ?_
      unfold B_X11_token_74 tkW
      dsimp only
      rw [see_ok tp hp h10, bs_, inL_ok hT, bs_, if_pos (bI_no c), show p - b = m by omega]
      by_cases z : 8 < m
      · rw [if_pos ((ln_lt (k := 8) (j := 8) rfl (by omega) (by omega)).mpr z), if_pos z, bs_, bs_]
      · rw [if_neg (fun u => z ((ln_lt (k := 8) (j := 8) rfl (by omega) (by omega)).mp u)), if_neg z, h15, bs_, bs_]
/-- the number that digits tell, as the model counts it -/
def mvl (T : Nat → Nat) (b : Nat) : Nat → Nat
  | 0 => 0
  | m + 1 => if m < 2 then 10 * mvl T b m + (T (b + m) - 48) else mvl T b m
theorem mvl_dvl {T : Nat → Nat} {b m : Nat} (h : m ≤ 2) (hd : ∀ i, i < m → 48 ≤ T (b + i) ∧ T (b + i) ≤ 57) : mvl T b m = dvl T b m := by
  have h2 : m = 0 ∨ m = 1 ∨ m = 2 := by omega
  rcases h2 with rfl | rfl | rfl
  · rfl
  · have := hd 0 (by omega)
    show (if 0 < 2 then 10 * 0 + (T (b + 0) - 48) else 0) = (0 * 10 + (T (b + 0) - 48)) % 1000
    rw [if_pos (by omega)]
    omega
  · have := hd 0 (by omega)
    have := hd 1 (by omega)
    show (if 1 < 2 then 10 * (if 0 < 2 then 10 * 0 + (T (b + 0) - 48) else 0) + (T (b + 1) - 48) else _) = ((0 * 10 + (T (b + 0) - 48)) % 1000 * 10 + (T (b + 1) - 48)) % 1000
    rw [if_pos (by omega), if_pos (by omega)]
    omega
theorem mdig_ok {Z : Nat → Nat} {R : R_T} {n b : Nat} {T : Nat → Nat} (I0 : I_T) (L : L_T) : ∀ (k p m : Nat) (K : I_T), n - p = k → p ≤ n → b + m = p → TPm Z R K n T → K 68 10 = nI p → K 68 14 = nI (mvl T b m) → itC (B_X11_token_163 Z I0 L R 68) (nI m, K) = some (up2 (up2 (up2 K 68 14 (nI (mvl T b (sk dig_ T n p - b)))) 68 10 (nI (sk dig_ T n p))) 68 13 (if 2 < sk dig_ T n p - b then 1 else 3), L) := by
  intro k
  induction k with
  | zero =>
    intro p m K hk hp hm tp h10 h14
    have n600 := tp.2.1
    have hT : ∀ i, i < n → T i < 256 := fun i hi => (tp.2.2.2.2 i hi).2
    have c : ¬ (p < n ∧ dig_ (T p) = true) := fun z => by omega
    rw [sk_no c, show p - b = m by omega, up2_id h14.symm, up2_id h10.symm]
    refine itC_inr ?_
    unfold B_X11_token_163
    dsimp only
    rw [see_ok tp hp h10, bs_, inD_ok hT, bs_, if_pos (bI_no c)]
    by_cases z : 2 < m
    · rw [if_pos ((ln_lt (k := 2) (j := 2) rfl (by omega) (by omega)).mpr z), if_pos z, bs_]
    · rw [if_neg (fun u => z ((ln_lt (k := 2) (j := 2) rfl (by omega) (by omega)).mp u)), if_neg z, bs_]
  | succ k ih =>
    intro p m K hk hp hm tp h10 h14
    have n600 := tp.2.1
    have hT : ∀ i, i < n → T i < 256 := fun i hi => (tp.2.2.2.2 i hi).2
    by_cases c : p < n ∧ dig_ (T p) = true
    · rw [sk_on c]
      have dd : 48 ≤ T p ∧ T p ≤ 57 := of_decide_eq_true c.2
      have e := ih (p + 1) (m + 1) (up2 (up2 K 68 14 (nI (mvl T b (m + 1)))) 68 10 (nI (p + 1))) (by omega) (by omega) (by omega) (tp.fr (by rw [up2_j (by omega), up2_j (by omega)]) (by rw [up2_ne (by omega), up2_ne (by omega)])) (up2_s _ _ _ _) (by rw [up2_j (by omega), up2_s])
      rw [up2_4] at e
      refine (itC_inl ?_).trans e
      unfold B_X11_token_163
      dsimp only
      rw [see_ok tp hp h10, bs_, inD_ok hT, bs_, if_neg (bI_on c)]
      have e2 : ∀ x : Int32, D_X11_token_205 Z K L R 68 (nI m) x 68 = some (.inl (nI (m + 1), up2 (up2 K 68 14 x) 68 10 (nI (p + 1)))) := fun x => by
        rw [D_X11_token_205, bs_, bs_, up2_j (by omega), h10, nI_1, nI_1]
      have em : mvl T b (m + 1) = if m < 2 then 10 * mvl T b m + (T (b + m) - 48) else mvl T b m := rfl
      by_cases z : m < 2
      · rw [if_pos ((nl_lt (k := 2) (j := 2) rfl (by omega) (by omega)).mpr z), bs_, e2, em, if_pos z, h14, show sv T n p = nI (T p) by unfold sv; rw [if_pos c.1], show (10 : Int32) = nI 10 from rfl, show (48 : Int32) = nI 48 from rfl, nI_mul, nI_add, nI_sub (by omega), hm, show 10 * mvl T b m + T p - 48 = 10 * mvl T b m + (T p - 48) by omega]
      · rw [if_neg (fun u => z ((nl_lt (k := 2) (j := 2) rfl (by omega) (by omega)).mp u)), e2, em, if_neg z, h14]
    · rw [sk_no c, show p - b = m by omega, up2_id h14.symm, up2_id h10.symm]
      refine itC_inr ?_
      unfold B_X11_token_163
      dsimp only
      rw [see_ok tp hp h10, bs_, inD_ok hT, bs_, if_pos (bI_no c)]
      by_cases z : 2 < m
      · rw [if_pos ((ln_lt (k := 2) (j := 2) rfl (by omega) (by omega)).mpr z), if_pos z, bs_]
      · rw [if_neg (fun u => z ((ln_lt (k := 2) (j := 2) rfl (by omega) (by omega)).mp u)), if_neg z, bs_]
theorem mblanks_ok {Z : Nat → Nat} {L : L_T} {R : R_T} {n : Nat} {T : Nat → Nat} (I0 : I_T) : ∀ (k p : Nat) (K : I_T) (r : I_T × L_T), n - p = k → p ≤ n → TPm Z R K n T → K 68 10 = nI p → B_X11_token_0 Z I0 L R 68 (up2 K 68 10 (nI (sk blk T n p))) = some (.inr r) → itC (B_X11_token_0 Z I0 L R 68) K = some r := by
  intro k
  induction k with
  | zero =>
    intro p K r hk hp tp h10 h
    rw [sk_no (fun z => by omega), up2_id h10.symm] at h
    exact itC_inr h
  | succ k ih =>
    intro p K r hk hp tp h10 h
    have hT : ∀ i, i < n → T i < 256 := fun i hi => (tp.2.2.2.2 i hi).2
    by_cases c : p < n ∧ blk (T p) = true
    · rw [sk_on c] at h
      refine (itC_inl ?_).trans (ih (p + 1) (up2 K 68 10 (nI (p + 1))) r (by omega) (by omega) (tp.fr (up2_j (by omega)) (up2_ne (by omega))) (up2_s _ _ _ _) (by rw [up2_2]; exact h))
      unfold B_X11_token_0
      have e18 : D_X11_token_18 Z K L R 68 = some (.inl (up2 K 68 10 (nI (p + 1)))) := by rw [D_X11_token_18, bs_, h10, nI_1]
      have hb : T p = 10 ∨ T p = 32 := of_decide_eq_true c.2
      rw [see_ok tp hp h10, bs_]
      by_cases z : T p = 10
      · rw [if_pos ((sv_eq (k := 10) (c := 10) rfl hT (by omega)).mpr ⟨c.1, z⟩), e18]
      · rw [if_neg (fun u => z ((sv_eq (k := 10) (c := 10) rfl hT (by omega)).mp u).2), bs_, if_pos ((sv_eq (k := 32) (c := 32) rfl hT (by omega)).mpr ⟨c.1, by omega⟩), e18]
    · rw [sk_no c, up2_id h10.symm] at h
      exact itC_inr h
def mkK (k : Nat) : Nat := [0, 2, 3, 4, 1].getD k 1
/-- the model stands at the token that begins at b -/
def MTok (K : I_T) (L : L_T) (T : Nat → Nat) (n b : Nat) : Prop := K 68 10 = nI (tkE T n b) ∧ K 68 12 = nI b ∧ K 68 13 = nI (mkK (tkK T n b)) ∧ (tkK T n b = 2 → K 68 14 = nI (tkV T n b)) ∧ (tkK T n b = 1 → L 68 15 = tkW T b (tkE T n b - b))
def MFr (K : I_T) (L : L_T) (K' : I_T) (L' : L_T) : Prop := (∀ a, a ≠ 68 → K' a = K a) ∧ (∀ j, j ≠ 10 → j ≠ 12 → j ≠ 13 → j ≠ 14 → K' 68 j = K 68 j) ∧ (∀ a, a ≠ 68 → L' a = L a) ∧ ∀ j, j ≠ 15 → L' 68 j = L 68 j
theorem token_ok {Z : Nat → Nat} {K : I_T} {L : L_T} {R : R_T} {n : Nat} {T : Nat → Nat} (tp : TPm Z R K n T) {p : Nat} (hp : p ≤ n) (h10 : K 68 10 = nI p) : ∃ K' L', D_X11_token Z K L R 68 = some (K', L') ∧ MTok K' L' T n (sk blk T n p) ∧ MFr K L K' L' := by
  have n600 := tp.2.1
  have hT : ∀ i, i < n → T i < 256 := fun i hi => (tp.2.2.2.2 i hi).2
  have bl : sk blk T n p ≤ n := sk_le hp
  have nbk : ¬ (sk blk T n p < n ∧ blk (T (sk blk T n p)) = true) := fun z => sk_end hp z.1 z.2
  rw [D_X11_token, D_X11_token_0]
  have go := mblanks_ok (Z := Z) (L := L) (R := R) (n := n) (T := T) K (n - p) p K
  revert go bl nbk
  generalize sk blk T n p = b
  intro bl nbk go
  generalize h1 : up2 K 68 10 (nI b) = K1 at go
  have f0 : ∀ a, a ≠ 68 → K1 a = K a := fun a ha => by rw [← h1, up2_ne ha]
  have f1 : ∀ j, j ≠ 10 → K1 68 j = K 68 j := fun j g => by rw [← h1, up2_j g]
  have g10 : K1 68 10 = nI b := by rw [← h1, up2_s]
  have tp1 : TPm Z R K1 n T := tp.fr (f1 11 (by omega)) (f0 69 (by omega))
  generalize h2 : up2 K1 68 12 (nI b) = K2
  have e0 : ∀ a, a ≠ 68 → K2 a = K a := fun a ha => by rw [← h2, up2_ne ha]; exact f0 a ha
  have e1 : ∀ j, j ≠ 10 → j ≠ 12 → K2 68 j = K 68 j := fun j g g2 => by rw [← h2, up2_j g2]; exact f1 j g
  have k10 : K2 68 10 = nI b := by rw [← h2, up2_j (by omega)]; exact g10
  have k12 : K2 68 12 = nI b := by rw [← h2, up2_s]
  have tp2 : TPm Z R K2 n T := tp.fr (e1 11 (by omega) (by omega)) (e0 69 (by omega))
  generalize h3 : up2 L 68 15 (0 : Int64) = L7
  have l0 : ∀ a, a ≠ 68 → L7 a = L a := fun a ha => by rw [← h3, up2_ne ha]
  have l1 : ∀ j, j ≠ 15 → L7 68 j = L 68 j := fun j g => by rw [← h3, up2_j g]
  have bd : ∀ x, ((if sv T n b < 0 then ((some (up2 K2 68 13 (0))).bind fun I20 => some (.inr ((I20, L7)))) else ((D_X11_in Z K2 L7 R (sv T n b) (97) (122)).bind fun q9 => if q9 = 0 then ((D_X11_in Z K2 L7 R (sv T n b) (48) (57)).bind fun q11 => if q11 = 0 then ((some (up2 K2 68 10 ((K2 68 10) + (1)))).bind fun I13 => if sv T n b = (59) then ((some (up2 I13 68 13 (4))).bind fun I16 => some (.inr ((I16, L7)))) else ((some (up2 I13 68 13 (1))).bind fun I15 => some (.inr ((I15, L7))))) else ((some (up2 K2 68 14 (0))).bind fun I17 => (D_X11_token_163 Z I17 L7 R 68 ((0), I17)).bind fun y18 => some (.inr (y18)))) else ((D_X11_token_74 Z K2 L7 R 68 ((0), K2, L7)).bind fun y19 => some (.inr (y19))))) : Option (I_T ⊕ (I_T × L_T))) = some (.inr x) → itC (B_X11_token_0 Z K L R 68) K = some x := fun x hx => by
    refine go x rfl hp tp h10 ?_
    unfold B_X11_token_0
    rw [see_ok tp1 bl g10, bs_, if_neg (fun u => nbk ⟨((sv_eq (k := 10) (c := 10) rfl hT (by omega)).mp u).1, decide_eq_true (Or.inl ((sv_eq (k := 10) (c := 10) rfl hT (by omega)).mp u).2)⟩), bs_, if_neg (fun u => nbk ⟨((sv_eq (k := 32) (c := 32) rfl hT (by omega)).mp u).1, decide_eq_true (Or.inr ((sv_eq (k := 32) (c := 32) rfl hT (by omega)).mp u).2)⟩), bs_, g10, h2, see_ok tp2 bl k10, bs_, bs_, h3]
    exact hx
  rw [inL_ok hT, bs_, inD_ok hT, bs_] at bd
  by_cases hbn : b < n
  · have Tb := hT b hbn
    have sb : sv T n b = nI (T b) := by unfold sv; rw [if_pos hbn]
    rw [if_neg (show ¬ sv T n b < 0 by rw [sb]; exact nI_pos (by omega))] at bd
    by_cases hl : let_ (T b) = true
    · have eE : tkE T n b = sk let_ T n b := by unfold tkE; rw [if_pos hbn, if_pos hl]
      have eK : tkK T n b = 1 := by unfold tkK; rw [if_pos hbn, if_pos hl]
      rw [if_neg (bI_on ⟨hbn, hl⟩), D_X11_token_74, show (0 : Int32) = nI 0 from rfl, mlet_ok (b := b) (T := T) K2 L7 _ b 0 K2 L7 rfl bl rfl tp2 k10 (by rw [← h3, up2_s]; rfl), bs_] at bd
      refine ⟨_, _, bd _ rfl, ⟨by rw [up2_j (by omega), up2_s, eE], by rw [up2_j (by omega), up2_j (by omega)]; exact k12, by rw [up2_s, eK]; rfl, fun z => by omega, fun _ => by rw [up2_s, eE]⟩, fun a ha => by rw [up2_ne ha, up2_ne ha]; exact e0 a ha, fun j j1 j2 j3 j4 => by rw [up2_j j3, up2_j j1]; exact e1 j j1 j2, fun a ha => by rw [up2_ne ha]; exact l0 a ha, fun j hj => by rw [up2_j hj]; exact l1 j hj⟩
    · rw [if_pos (bI_no (fun z => hl z.2))] at bd
      by_cases hd : dig_ (T b) = true
      · have eE : tkE T n b = sk dig_ T n b := by unfold tkE; rw [if_pos hbn, if_neg hl, if_pos hd]
        have eK : tkK T n b = if 2 < sk dig_ T n b - b then 4 else 2 := by unfold tkK; rw [if_pos hbn, if_neg hl, if_pos hd]
        have sa := (sk_ind (P := dig_) (T := T) _ b rfl bl).2.2.1
        rw [bs_, if_neg (bI_on ⟨hbn, hd⟩), bs_, D_X11_token_163, show (0 : Int32) = nI 0 from rfl, mdig_ok (b := b) (T := T) (up2 K2 68 14 (nI 0)) L7 _ b 0 (up2 K2 68 14 (nI 0)) rfl bl rfl (tp2.fr (up2_j (by omega)) (up2_ne (by omega))) (by rw [up2_j (by omega)]; exact k10) (up2_s _ _ _ _), bs_, up2_2] at bd
        refine ⟨_, _, bd _ rfl, ⟨by rw [up2_j (by omega), up2_s, eE], by rw [up2_j (by omega), up2_j (by omega), up2_j (by omega)]; exact k12, ?_, fun z => ?_, fun z => ?_⟩, fun a ha => by rw [up2_ne ha, up2_ne ha, up2_ne ha]; exact e0 a ha, fun j j1 j2 j3 j4 => by rw [up2_j j3, up2_j j1, up2_j j4]; exact e1 j j1 j2, l0, l1⟩
        · rw [up2_s, eK]
          by_cases z : 2 < sk dig_ T n b - b
          · rw [if_pos z, if_pos z]; rfl
          · rw [if_neg z, if_neg z]; rfl
        · have z2 : ¬ 2 < sk dig_ T n b - b := fun u => by rw [eK, if_pos u] at z; omega
          rw [up2_j (by omega), up2_j (by omega), up2_s]
          unfold tkV
          rw [eE, mvl_dvl (by omega) (fun i hi => of_decide_eq_true (sa (b + i) (by omega) (by omega)))]
        · rw [eK] at z
          split at z <;> omega
      · have eE : tkE T n b = b + 1 := by unfold tkE; rw [if_pos hbn, if_neg hl, if_neg hd]
        have eK : tkK T n b = if T b = 59 then 3 else 4 := by unfold tkK; rw [if_pos hbn, if_neg hl, if_neg hd]
        rw [bs_, if_pos (bI_no (fun z => hd z.2)), bs_, k10, nI_1] at bd
        have bd2 : itC (B_X11_token_0 Z K L R 68) K = some (up2 (up2 K2 68 10 (nI (b + 1))) 68 13 (nI (mkK (tkK T n b))), L7) := by
          refine bd _ ?_
          rw [eK]
          by_cases z : T b = 59
          · rw [if_pos ((sv_eq (k := 59) (c := 59) rfl hT (by omega)).mpr ⟨hbn, z⟩), if_pos z, bs_]; rfl
          · rw [if_neg (fun u => z ((sv_eq (k := 59) (c := 59) rfl hT (by omega)).mp u).2), if_neg z, bs_]; rfl
        have k2 : tkK T n b = 3 ∨ tkK T n b = 4 := by rw [eK]; split <;> omega
        exact ⟨_, _, bd2, ⟨by rw [up2_j (by omega), up2_s, eE], by rw [up2_j (by omega), up2_j (by omega)]; exact k12, by rw [up2_s], fun z => by omega, fun z => by omega⟩, fun a ha => by rw [up2_ne ha, up2_ne ha]; exact e0 a ha, fun j j1 j2 j3 j4 => by rw [up2_j j3, up2_j j1]; exact e1 j j1 j2, l0, l1⟩
  · have eE : tkE T n b = b := by unfold tkE; rw [if_neg hbn]
    have eK : tkK T n b = 0 := by unfold tkK; rw [if_neg hbn]
    rw [if_pos (show sv T n b < 0 by unfold sv; rw [if_neg hbn]; decide)] at bd
    exact ⟨_, _, bd _ rfl, ⟨by rw [up2_j (by omega), eE]; exact k10, by rw [up2_j (by omega)]; exact k12, by rw [up2_s, eK]; rfl, fun z => by omega, fun z => by omega⟩, fun a ha => by rw [up2_ne ha]; exact e0 a ha, fun j j1 j2 j3 j4 => by rw [up2_j j3]; exact e1 j j1 j2, l0, l1⟩
