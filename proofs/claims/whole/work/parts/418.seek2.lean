/-! sights: the class's search -/
def pq_ (R : R_T) (p q : Nat) : R_T := up2 (up2 R 59 1 (some p)) 59 2 (some q)
theorem pq_1 {R : R_T} {p q : Nat} : pq_ R p q 59 1 = some p := by
  unfold pq_
  rw [up2_j (by omega), up2_s]
theorem pq_2 {R : R_T} {p q : Nat} : pq_ R p q 59 2 = some q := by
  unfold pq_
  rw [up2_s]
theorem pq_a {R : R_T} {p q i : Nat} (h : i ≠ 59) : pq_ R p q i = R i := by
  unfold pq_
  rw [up2_ne h, up2_ne h]
theorem pq_0 {R : R_T} {p q : Nat} : pq_ R p q 59 0 = R 59 0 := by
  unfold pq_
  rw [up2_j (by omega), up2_j (by omega)]
theorem pq_pq {R : R_T} {p q x y : Nat} : up2 (up2 (pq_ R p q) 59 1 (some x)) 59 2 (some y) = pq_ R x y := by
  funext i j
  by_cases e : i = 59
  · subst e
    by_cases j2 : j = 2
    · rw [j2, up2_s, pq_2]
    · by_cases j1 : j = 1
      · rw [j1, up2_j (by omega), up2_s, pq_1]
      · unfold pq_
        rw [up2_j j2, up2_j j1, up2_j j2, up2_j j1, up2_j j2, up2_j j1]
  · rw [up2_ne e, up2_ne e, pq_a e, pq_a e]
theorem pq_self {R : R_T} {p q : Nat} (h1 : R 59 1 = some p) (h2 : R 59 2 = some q) : pq_ R p q = R := by
  funext i j
  by_cases e : i = 59
  · subst e
    by_cases j2 : j = 2
    · rw [j2, pq_2, h2]
    · by_cases j1 : j = 1
      · rw [j1, pq_1, h1]
      · unfold pq_
        rw [up2_j j2, up2_j j1]
  · rw [pq_a e]
theorem seek_loop {Z : Nat → Nat} {I : I_T} {L : L_T} {R : R_T} {a : Nat} (ha : a < 50) {d : ld_T} (hd : VD d) (cl : CL I L a d) {s : Nat → Bool} (r0 : R 59 0 = some 60) (z60 : Z 60 = 13) (z61 : Z 61 = 896) (z62 : Z 62 = 896) (hw : ∀ c, c < cs_ d → tb (L 59 4) c = !s c) (h5 : I 59 5 = nI (lhr d)) {mk : Bool} (h3 : I 59 3 = bI mk) {ok : Nat → Nat → Bool} (hal : ∀ t, t < 13 → 0 < t → ∀ c, c < cs_ d → (tb (L 60 t) c = true ↔ ok t c = true)) {n : Nat} (hn : n ≤ 12) {v : Int32} {m : Nat → Bool} (hm : ∀ t, t ≤ n → (v = nI t ↔ m t = true)) {V0 : Nat → Int64} (h0 : ∀ k, V0 k ≠ 0 → k / 14 < cs_ d ∧ k % 14 ≤ 1) (L0 : L_T) : ∀ k t, t + k = n + 1 → 1 ≤ t → ∀ (M : L_T) (p q : Nat), ((p = 61 ∧ q = 62) ∨ (p = 62 ∧ q = 61)) → (∀ i, i ≠ 61 → i ≠ 62 → M i = L i) → (∀ j, j < 896 → M p j = vs mk m (PT d s ok) V0 (t - 1) j) → ∃ (M' : L_T) (p' q' : Nat), itC (B_X7_seek_116 Z I L0 R 59 a (nI n) v) (nI t, M, pq_ R p q) = some (I, M', pq_ R p' q') ∧ ((p' = 61 ∧ q' = 62) ∨ (p' = 62 ∧ q' = 61)) ∧ (∀ i, i ≠ 61 → i ≠ 62 → M' i = L i) ∧ ∀ j, j < 896 → M' p' j = vs mk m (PT d s ok) V0 n j := by
  intro k
  induction k with
  | zero =>
    intro t ht t1 M p q pq hM hrM
    refine ⟨M, p, q, itC_inr ?_, pq, hM, fun j hj => by rw [hrM j hj, show t - 1 = n by omega]⟩
    unfold B_X7_seek_116
    rw [if_pos ((nI_ltI (by omega) (by omega)).mpr (by omega))]
  | succ k ih =>
    intro t ht t1 M p q pq hM hrM
    have clM : CL I M a d := cl.keep fun k hk => ⟨rfl, hM _ (by omega) (by omega)⟩
    have zp : Z p = 896 := by rcases pq with ⟨e, _⟩ | ⟨e, _⟩ <;> rw [e] <;> assumption
    have zq : Z q = 896 := by rcases pq with ⟨_, e⟩ | ⟨_, e⟩ <;> rw [e] <;> assumption
    have vi : ∀ k, k < 896 → vs mk m (PT d s ok) V0 (t - 1) k ≠ 0 → k / 14 < cs_ d ∧ k % 14 ≤ t := fun k hk h => by
      have := vs_in hd h0 (t - 1) (by omega) k hk h
      omega
    obtain ⟨N, n1, n2, n3⟩ := walkOn_ok (Z := Z) (I := I) (L := M) (R := pq_ R p q) (a := a) (p := p) (q := q) ha hd clM (s := s) pq_1 pq_2 zp zq (by omega) (by omega) (by rw [hM 59 (by omega) (by omega)]; exact hw) h5 h3 (M 60 t) (fun k hk h => by
      rw [hrM k hk] at h
      have := vi k hk h
      omega)
    rw [pq_pq] at n1
    have n3' : ∀ j, j < 896 → N q j = stK (opm mk) (PT d s ok (t - 1)) (vs mk m (PT d s ok) V0 (t - 1)) 896 j := fun j hj => by
      rw [n3 j hj, stK_congr (opm_0 mk) (P' := PT d s ok (t - 1)) (V' := vs mk m (PT d s ok) V0 (t - 1)) hrM (fun k w hk hw5 h => by
        rw [hrM k hk] at h
        have := vi k hk h
        refine PC_PT hd (by omega) this.1 (by omega) (fun c hc => ?_)
        rw [hM 60 (by omega) (by omega), show t - 1 + 1 = t by omega]
        exact hal t (by omega) (by omega) c hc)]
    obtain ⟨N', k1, k2, k3⟩ := mark_or (Z := Z) (I := I) (L := N) (R := pq_ R q p) (a := 59) (p := q) pq_1 zq (m t)
    obtain ⟨M', p', q', j1, j2⟩ := ih (t + 1) (by omega) (by omega) N' q p (by omega) (fun i i1 i2 => by rw [k2 i (by omega), n2 i (by omega)]; exact hM i i1 i2) (fun j hj => by
      rw [k3 j hj, show t + 1 - 1 = (t - 1) + 1 by omega]
      show mk1 (m t) (N q) j = mk1 (m (t - 1 + 1)) _ j
      rw [show t - 1 + 1 = t by omega]
      unfold mk1
      rw [n3' j hj])
    refine ⟨M', p', q', (itC_inl ?_).trans j1, j2⟩
    unfold B_X7_seek_116
    rw [if_neg (fun u => by
      have := (nI_ltI (a := n) (b := t) (by omega) (by omega)).mp u
      omega)]
    dsimp only
    rw [show pq_ R p q 59 0 = some 60 from pq_0.trans r0, bs_, getL_ok (by omega) (by omega), bs_, n1, bs_]
    cases e : m t with
    | false =>
      rw [e] at k1
      rw [if_neg (fun u => by
        have := (hm t (by omega)).mp u
        rw [e] at this
        cases this), D_X7_seek_149, show D_X7_mark Z I N (pq_ R q p) 59 0 = some N' from k1, bs_, nI_1]
    | true =>
      rw [e] at k1
      rw [if_pos ((hm t (by omega)).mpr e), D_X7_seek_149, show D_X7_mark Z I N (pq_ R q p) 59 1 = some N' from k1, bs_, nI_1]
