/-! texts: the words of lines, the model's side -/
def cst (w : Nat) : Int64 := [1936292453, 7499639, 465558725996, 1752135026, 107092533797236, 2003792491, 7168366, 426953501796, 32488805071086962, 26479, 2003792491, 2002872692, 1836019570, 465558725996, 1718775661, 7103847, 1718775661, 1936024942, 7237492].getD w 0
/-- letters packed -/
def pkN (T : Nat → Nat) (b : Nat) : Nat → Nat
  | 0 => 0
  | m + 1 => pkN T b m * 256 + T (b + m)
theorem pkN_lt {T : Nat → Nat} {b : Nat} : ∀ m, (∀ i, i < m → T (b + i) < 256) → pkN T b m < 256 ^ m
  | 0, _ => Nat.one_pos
  | m + 1, h => by
    have h1 := pkN_lt m (fun i hi => h i (by omega))
    have h2 := h m (by omega)
    show pkN T b m * 256 + T (b + m) < 256 ^ (m + 1)
    rw [Nat.pow_succ]
    have := Nat.mul_le_mul_right 256 (show pkN T b m + 1 ≤ 256 ^ m from h1)
    omega
theorem pkN_inj {T U : Nat → Nat} {b c : Nat} : ∀ m k, (∀ i, i < m → 0 < T (b + i) ∧ T (b + i) < 256) → (∀ i, i < k → 0 < U (c + i) ∧ U (c + i) < 256) → pkN T b m = pkN U c k → m = k ∧ ∀ i, i < m → T (b + i) = U (c + i)
  | 0, 0, _, _, _ => ⟨rfl, fun i hi => by omega⟩
  | 0, k + 1, _, h2, e => by
    have := h2 k (by omega)
    have e' : 0 = pkN U c k * 256 + U (c + k) := e
    omega
  | m + 1, 0, h1, _, e => by
    have := h1 m (by omega)
    have e' : pkN T b m * 256 + T (b + m) = 0 := e
    omega
  | m + 1, k + 1, h1, h2, e => by
    have q1 := h1 m (by omega)
    have q2 := h2 k (by omega)
    have e' : pkN T b m * 256 + T (b + m) = pkN U c k * 256 + U (c + k) := e
    obtain ⟨a1, a2⟩ := pkN_inj m k (fun i hi => h1 i (by omega)) (fun i hi => h2 i (by omega)) (by omega)
    subst a1
    refine ⟨rfl, fun i hi => ?_⟩
    by_cases y : i = m
    · subst y; omega
    · exact a2 i (by omega)
theorem lN_or8 {a c : Nat} (hc : c < 256) : lN (a * 2 ^ 8) ||| lN c = lN (a * 256 + c) := by
  have e : a * 256 + c = 2 ^ 8 * a ||| c := by
    rw [← Nat.two_pow_add_eq_or_of_lt (i := 8) hc]
    omega
  rw [e, Nat.mul_comm]
  exact Int64.toBitVec_inj.mp (by show BitVec.ofNat 64 _ ||| BitVec.ofNat 64 _ = BitVec.ofNat 64 _; rw [← BitVec.ofNat_or])
theorem nI_lN {c : Nat} (h : c < 256) : (nI c).toInt64 = lN c := by
  revert c
  decide +kernel
theorem wpk_ok {T : Nat → Nat} {b : Nat} : ∀ m, (∀ i, i < m → T (b + i) < 256) → wpk T b m = lN (pkN T b m)
  | 0, _ => rfl
  | m + 1, h => by
    show (wpk T b m <<< ((8 : Int32).toInt64 &&& 63)) ||| (nI (T (b + m))).toInt64 = lN (pkN T b m * 256 + T (b + m))
    rw [wpk_ok m (fun i hi => h i (by omega)), show (8 : Int32) = nI 8 from rfl, wb_shl _ (by omega), nI_lN (h m (by omega)), lN_or8 (h m (by omega))]
theorem cst_pk : ∀ w, w < 19 → cst w = lN (pkN (fun i => wc w i) 0 (wn w)) ∧ ¬ cst w = 0 := by decide +kernel
theorem word_cst {T : Nat → Nat} {b m : Nat} (h : ∀ i, i < m → 97 ≤ T (b + i) ∧ T (b + i) ≤ 122) {w : Nat} (hw : w < 19) : tkW T b m = cst w ↔ isW T b m w := by
  obtain ⟨c1, c2⟩ := cst_pk w hw
  obtain ⟨w7, _, _⟩ := wn_le w hw
  have wr := wc_rng w hw
  unfold tkW isW
  by_cases z : 8 < m
  · rw [if_pos z]
    exact ⟨fun u => (c2 u.symm).elim, fun u => by omega⟩
  · rw [if_neg z, wpk_ok m (fun i hi => by have := h i hi; omega), c1]
    have q1 := pkN_lt (T := T) (b := b) m (fun i hi => by have := h i hi; omega)
    have q2 := pkN_lt (T := fun i => wc w i) (b := 0) (wn w) (fun i hi => by have := wr i hi; show wc w (0 + i) < 256; rw [Nat.zero_add]; omega)
    have p1 : 256 ^ m ≤ 256 ^ 8 := Nat.pow_le_pow_right (by omega) (by omega)
    have p2 : 256 ^ wn w ≤ 256 ^ 8 := Nat.pow_le_pow_right (by omega) (by omega)
    have p3 : 256 ^ 8 = 2 ^ 64 := by decide
    have inj : lN (pkN T b m) = lN (pkN (fun i => wc w i) 0 (wn w)) ↔ pkN T b m = pkN (fun i => wc w i) 0 (wn w) := ⟨fun u => by
      have := congrArg (fun x : Int64 => x.toBitVec.toNat) u
      skip
      rwa [lN_nat (by omega), lN_nat (by omega)] at this, fun u => by rw [u]⟩
    rw [inj]
    constructor
    · intro u
      obtain ⟨a1, a2⟩ := pkN_inj m (wn w) (fun i hi => by have := h i hi; omega) (fun i hi => by have := wr i hi; show 0 < wc w (0 + i) ∧ wc w (0 + i) < 256; rw [Nat.zero_add]; omega) u
      exact ⟨a1, fun i hi => by have := a2 i (by omega); rw [this]; show wc w (0 + i) = _; rw [Nat.zero_add]⟩
    · intro ⟨a1, a2⟩
      subst a1
      have : ∀ k, k ≤ wn w → pkN T b k = pkN (fun i => wc w i) 0 k := fun k => by
        induction k with
        | zero => intro _; rfl
        | succ k ih =>
          intro hk
          show pkN T b k * 256 + T (b + k) = pkN (fun i => wc w i) 0 k * 256 + wc w (0 + k)
          rw [ih (by omega), a2 k (by omega), Nat.zero_add]
      exact this _ (Nat.le_refl _)
/-- a word has letters alone -/
theorem tk_let {T : Nat → Nat} {n b : Nat} (h : tkK T n b = 1) : b < n ∧ ∀ i, i < tkE T n b - b → 97 ≤ T (b + i) ∧ T (b + i) ≤ 122 := by
  have hbn : b < n := tkK_lt (T := T) (by omega)
  by_cases hl : let_ (T b) = true
  · have eE : tkE T n b = sk let_ T n b := by unfold tkE; rw [if_pos hbn, if_pos hl]
    have sa := (sk_ind (P := let_) (T := T) _ b rfl (show b ≤ n by omega)).2.2.1
    exact ⟨hbn, fun i hi => of_decide_eq_true (sa (b + i) (by omega) (by omega))⟩
  · exfalso
    unfold tkK at h
    rw [if_pos hbn, if_neg hl] at h
    split at h
    · split at h <;> omega
    · split at h <;> omega
theorem tk_dig {T : Nat → Nat} {n b : Nat} (h : tkK T n b = 2) : tkV T n b < 100 := by
  have hbn : b < n := tkK_lt (T := T) (by omega)
  unfold tkV
  have d2 : tkE T n b - b ≤ 2 ∧ ∀ i, i < tkE T n b - b → 48 ≤ T (b + i) ∧ T (b + i) ≤ 57 := by
    by_cases hl : let_ (T b) = true
    · exfalso
      unfold tkK at h
      rw [if_pos hbn, if_pos hl] at h
      omega
    · by_cases hd : dig_ (T b) = true
      · have eE : tkE T n b = sk dig_ T n b := by unfold tkE; rw [if_pos hbn, if_neg hl, if_pos hd]
        have eK : tkK T n b = if 2 < sk dig_ T n b - b then 4 else 2 := by unfold tkK; rw [if_pos hbn, if_neg hl, if_pos hd]
        have sa := (sk_ind (P := dig_) (T := T) _ b rfl (show b ≤ n by omega)).2.2.1
        rw [eK] at h
        split at h
        · omega
        · exact ⟨by omega, fun i hi => of_decide_eq_true (sa (b + i) (by omega) (by omega))⟩
      · exfalso
        unfold tkK at h
        rw [if_pos hbn, if_neg hl, if_neg hd] at h
        split at h <;> omega
  obtain ⟨m2, dd⟩ := d2
  revert m2 dd
  generalize tkE T n b - b = m
  intro m2 dd
  have : m = 0 ∨ m = 1 ∨ m = 2 := by omega
  rcases this with rfl | rfl | rfl
  · show 0 < 100
    omega
  · have := dd 0 (by omega)
    show (0 * 10 + (T (b + 0) - 48)) % 1000 < 100
    omega
  · have := dd 0 (by omega)
    have := dd 1 (by omega)
    show ((0 * 10 + (T (b + 0) - 48)) % 1000 * 10 + (T (b + 1) - 48)) % 1000 < 100
    omega
