/-! sights: the class's walks -/
def mk1 (due : Bool) (r : Nat → Int64) (k : Nat) : Int64 := if due = true then (if r k = 0 then 0 else bit_ (k / 14)) else r k
theorem bit_ne {c : Nat} (h : c < 64) : bit_ c ≠ 0 := fun u => by
  have h1 := tb_bit (c := c) c h
  rw [u, tb_0] at h1
  rw [decide_eq_true rfl] at h1
  cases h1
theorem mk1_ne {b : Bool} {r : Nat → Int64} {k : Nat} (h : k < 896) : mk1 b r k ≠ 0 ↔ r k ≠ 0 := by
  unfold mk1
  cases b with
  | false => rw [if_neg (by decide)]
  | true =>
    rw [if_pos rfl]
    by_cases z : r k = 0
    · rw [if_pos z]
      exact ⟨fun u => (u rfl).elim, fun u => (u z).elim⟩
    · rw [if_neg z]
      exact ⟨fun _ => z, fun _ => bit_ne (by omega)⟩
theorem mark_no {Z : Nat → Nat} {I : I_T} {L : L_T} {R : R_T} {a : Nat} : D_X7_mark Z I L R a 0 = some L := by
  rw [D_X7_mark]
  refine itC_inr ?_
  unfold B_X7_mark_2
  rw [if_pos (show (0 : Int32) < 64 by decide), if_pos rfl]
theorem mark_ok {Z : Nat → Nat} {I : I_T} {L : L_T} {R : R_T} {a p : Nat} (r1 : R a 1 = some p) (zp : Z p = 896) : ∃ L', D_X7_mark Z I L R a 1 = some L' ∧ (∀ i, i ≠ p → L' i = L i) ∧ ∀ k, k < 896 → L' p k = mk1 true (L p) k := by
  have m1 : ∀ k, mk1 true (L p) k = if L p k = 0 then 0 else bit_ (k / 14) := fun k => if_pos rfl
  have in2 : ∀ c, c < 64 → ∀ L0 : L_T, ∀ k o, o + k = 14 → ∀ N : L_T, (∀ i, i ≠ p → N i = L i) → (∀ j, j < 896 → N p j = if j < 14 * c + o then mk1 true (L p) j else L p j) → ∃ N', itC (B_X7_mark_14 Z I L0 R a 1 (nI c)) (nI o, N) = some (.inl (nI (c + 1), N')) ∧ (∀ i, i ≠ p → N' i = L i) ∧ ∀ j, j < 896 → N' p j = if j < 14 * (c + 1) then mk1 true (L p) j else L p j := by
    intro c hc L0 k
    induction k with
    | zero =>
      intro o ho N hN hrN
      have : o = 14 := by omega
      subst this
      refine ⟨N, itC_inr ?_, hN, hrN⟩
      unfold B_X7_mark_14
      rw [if_neg (show ¬ nI 14 < 14 by decide), nI_1]
    | succ k ih =>
      intro o ho N hN hrN
      have e : nI c * 14 + nI o = nI (14 * c + o) := by rw [show (14 : Int32) = nI 14 from rfl, nI_mul, nI_add, Nat.mul_comm]
      have lt : nI o < 14 := (nl_lt (k := 14) (j := 14) rfl (by omega) (by omega)).mpr (by omega)
      have g : N p (14 * c + o) = L p (14 * c + o) := by rw [hrN _ (by omega), if_neg (by omega)]
      by_cases z : L p (14 * c + o) = 0
      · obtain ⟨N2, k1, k2⟩ := ih (o + 1) (by omega) N hN (fun j hj => by
          rw [hrN j hj]
          by_cases y : j = 14 * c + o
          · subst y
            rw [if_neg (by omega), if_pos (by omega), m1, if_pos z, z]
          · by_cases x : j < 14 * c + o
            · rw [if_pos x, if_pos (by omega)]
            · rw [if_neg x, if_neg (by omega)])
        refine ⟨N2, (itC_inl ?_).trans k1, k2⟩
        unfold B_X7_mark_14
        rw [if_pos lt, r1, bs_]
        simp only [e]
        rw [getL_ok (by omega) (by omega), bs_, g, if_pos z, nI_1]
      · obtain ⟨N2, k1, k2⟩ := ih (o + 1) (by omega) (up2 N p (14 * c + o) (bit_ c)) (fun i hi => by rw [up2_ne hi]; exact hN i hi) (fun j hj => by
          by_cases y : j = 14 * c + o
          · subst y
            rw [up2_s, if_pos (by omega), m1, if_neg z, show (14 * c + o) / 14 = c by omega]
          · rw [up2_j y, hrN j hj]
            by_cases x : j < 14 * c + o
            · rw [if_pos x, if_pos (by omega)]
            · rw [if_neg x, if_neg (by omega)])
        refine ⟨N2, (itC_inl ?_).trans k1, k2⟩
        unfold B_X7_mark_14
        rw [if_pos lt, r1, bs_]
        simp only [e]
        rw [getL_ok (by omega) (by omega), bs_, g, if_neg z, bit_ok hc, bs_, putL_ok (by omega) (by omega), bs_, nI_1]
  have in1 : ∀ k c, c + k = 64 → ∀ N : L_T, (∀ i, i ≠ p → N i = L i) → (∀ j, j < 896 → N p j = if j < 14 * c then mk1 true (L p) j else L p j) → ∃ L', itC (B_X7_mark_2 Z I L R a 1) (nI c, N) = some L' ∧ (∀ i, i ≠ p → L' i = L i) ∧ ∀ k, k < 896 → L' p k = mk1 true (L p) k := by
    intro k
    induction k with
    | zero =>
      intro c hc N hN hrN
      have : c = 64 := by omega
      subst this
      refine ⟨N, itC_inr ?_, hN, fun k hk => by rw [hrN k hk, if_pos hk]⟩
      unfold B_X7_mark_2
      rw [if_neg (show ¬ nI 64 < 64 by decide)]
    | succ k ih =>
      intro c hc N hN hrN
      have lt : nI c < 64 := (nl_lt (k := 64) (j := 64) rfl (by omega) (by omega)).mpr (by omega)
      obtain ⟨N', n1, n2, n3⟩ := in2 c (by omega) N 14 0 (by omega) N hN hrN
      obtain ⟨L', k1, k2⟩ := ih (c + 1) (by omega) N' n2 n3
      refine ⟨L', (itC_inl ?_).trans k1, k2⟩
      unfold B_X7_mark_2
      rw [if_pos lt, if_neg (show ¬ (1 : Int32) = 0 by decide)]
      exact n1
  rw [D_X7_mark]
  exact in1 64 0 (by omega) L (fun _ _ => rfl) (fun j _ => by rw [if_neg (by omega)])
/-- whither a way leads from a state at minute t -/
def PT (d : ld_T) (s : Nat → Bool) (ok : Nat → Nat → Bool) (t k w : Nat) : Option Nat := if t < 12 ∧ k / 14 < cs_ d ∧ k % 14 ≤ t + 1 then (match nx d (k / 14) w with
  | none => none
  | some c => if ok (t + 1) c = true ∧ now_ s c (k % 14) ≤ lhr d then some (14 * c + now_ s c (k % 14)) else none) else none
theorem PT_some {d : ld_T} (hd : VD d) {s : Nat → Bool} {ok : Nat → Nat → Bool} {t k w j : Nat} (h : PT d s ok t k w = some j) : t < 12 ∧ k / 14 < cs_ d ∧ j / 14 < cs_ d ∧ j % 14 ≤ t + 2 ∧ k % 14 ≤ t + 1 ∧ ∃ c, nx d (k / 14) w = some c ∧ ok (t + 1) c = true ∧ now_ s c (k % 14) ≤ lhr d ∧ j = 14 * c + now_ s c (k % 14) := by
  unfold PT at h
  by_cases z : t < 12 ∧ k / 14 < cs_ d ∧ k % 14 ≤ t + 1
  · rw [if_pos z] at h
    cases e : nx d (k / 14) w with
    | none =>
      rw [e] at h
      cases h
    | some c =>
      rw [e] at h
      dsimp only at h
      have nb := @now_le s c (k % 14)
      have := nx_lt hd z.2.1 e
      by_cases y : ok (t + 1) c = true ∧ now_ s c (k % 14) ≤ lhr d
      · rw [if_pos y] at h
        have := Option.some.inj h
        exact ⟨by omega, by omega, by omega, by omega, by omega, c, rfl, y.1, y.2, by omega⟩
      · rw [if_neg y] at h
        cases h
  · rw [if_neg z] at h
    cases h
theorem PC_PT {d : ld_T} (hd : VD d) {s : Nat → Bool} {ok : Nat → Nat → Bool} {al : Int64} {t k w : Nat} (ht : t < 12) (hk : k / 14 < cs_ d) (h : k % 14 ≤ t + 1) (ha : ∀ c, c < cs_ d → (tb al c = true ↔ ok (t + 1) c = true)) : PC d s al k w = PT d s ok t k w := by
  unfold PC PT
  rw [if_pos ⟨ht, hk, h⟩]
  cases e : nx d (k / 14) w with
  | none => rfl
  | some c =>
    have := ha c (nx_lt hd hk e)
    dsimp only
    by_cases y : ok (t + 1) c = true
    · rw [y, this.mpr y]
    · rw [if_neg (fun u => y (this.mp u.1)), if_neg (fun u => y u.1)]
theorem stW_ne {op : Int64 → Int64 → Int64} {P : Nat → Nat → Option Nat} {V : Nat → Int64} {k : Nat} {r : Nat → Int64} : ∀ w j, stW op P V k w r j ≠ 0 → r j ≠ 0 ∨ ∃ w', w' < w ∧ P k w' = some j
  | 0, j, h => Or.inl h
  | w + 1, j, h => by
    by_cases z : P k w = some j
    · exact Or.inr ⟨w, by omega, z⟩
    · have e : stW op P V k (w + 1) r j = stW op P V k w r j := by
        show st1 op (P k w) (V k) (stW op P V k w r) j = _
        cases e : P k w with
        | none => rfl
        | some i => exact if_neg (fun u => z (by rw [e, u]))
      rw [e] at h
      rcases stW_ne w j h with u | ⟨w', a, b⟩
      · exact Or.inl u
      · exact Or.inr ⟨w', by omega, b⟩
theorem stK_ne {op : Int64 → Int64 → Int64} {P : Nat → Nat → Option Nat} {V : Nat → Int64} (h0 : ∀ x, op x 0 = x) : ∀ n j, stK op P V n j ≠ 0 → ∃ k w, k < n ∧ w < 5 ∧ P k w = some j ∧ V k ≠ 0
  | 0, j, h => (h rfl).elim
  | n + 1, j, h => by
    by_cases z : V n = 0
    · have h : stW op P V n 5 (stK op P V n) j ≠ 0 := h
      rw [stW_0 h0 z] at h
      obtain ⟨k, w, a, b⟩ := stK_ne h0 n j h
      exact ⟨k, w, by omega, b⟩
    · rcases stW_ne (op := op) 5 j h with u | ⟨w, a, b⟩
      · obtain ⟨k, w, a, b⟩ := stK_ne h0 n j u
        exact ⟨k, w, by omega, b⟩
      · exact ⟨n, w, by omega, a, b, z⟩
/-- the class's row after t minutes -/
def vs (mk : Bool) (m : Nat → Bool) (P : Nat → Nat → Nat → Option Nat) (V0 : Nat → Int64) : Nat → Nat → Int64
  | 0 => mk1 (m 0) V0
  | t + 1 => mk1 (m (t + 1)) (stK (opm mk) (P t) (vs mk m P V0 t) 896)
theorem vs_in {d : ld_T} (hd : VD d) {s : Nat → Bool} {ok : Nat → Nat → Bool} {mk : Bool} {m : Nat → Bool} {V0 : Nat → Int64} (h0 : ∀ k, V0 k ≠ 0 → k / 14 < cs_ d ∧ k % 14 ≤ 1) : ∀ t, t ≤ 12 → ∀ k, k < 896 → vs mk m (PT d s ok) V0 t k ≠ 0 → k / 14 < cs_ d ∧ k % 14 ≤ t + 1
  | 0, _, k, hk, h => h0 k ((mk1_ne hk).mp h)
  | t + 1, ht, k, hk, h => by
    obtain ⟨k', w, a, b, c, e⟩ := stK_ne (opm_0 mk) 896 k ((mk1_ne hk).mp h)
    have := PT_some hd c
    exact ⟨this.2.2.1, this.2.2.2.1⟩
theorem mark_or {Z : Nat → Nat} {I : I_T} {L : L_T} {R : R_T} {a p : Nat} (r1 : R a 1 = some p) (zp : Z p = 896) (b : Bool) : ∃ L', D_X7_mark Z I L R a (bI b) = some L' ∧ (∀ i, i ≠ p → L' i = L i) ∧ ∀ k, k < 896 → L' p k = mk1 b (L p) k := by
  cases b with
  | false => exact ⟨L, mark_no, fun _ _ => rfl, fun k _ => (if_neg (by decide)).symm⟩
  | true => exact mark_ok r1 zp
