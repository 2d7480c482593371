/-! sights: the model's walks, minute by minute -/
def W0_ (s : Nat → Bool) (ok : Nat → Nat → Bool) (c0 j : Nat) : Nat := if ok 0 c0 = true ∧ j = 14 * c0 + now_ s c0 0 then 1 else 0
/-- the walks counted -/
def wY (d : ld_T) (s : Nat → Bool) (ok : Nat → Nat → Bool) (c0 t j : Nat) : Nat := wy (PT d s ok) 896 (W0_ s ok c0) t j
theorem PT_lt {d : ld_T} (hd : VD d) {s : Nat → Bool} {ok : Nat → Nat → Bool} {t k w j : Nat} (h : PT d s ok t k w = some j) : j < 14 * cs_ d := by
  have := PT_some hd h
  omega
theorem PT_896 {d : ld_T} (hd : VD d) {s : Nat → Bool} {ok : Nat → Nat → Bool} : ∀ t k w j, PT d s ok t k w = some j → j < 896 := fun t k w j h => by
  have := PT_lt hd h
  have := cs_le hd
  omega
theorem wY_in {d : ld_T} (hd : VD d) {s : Nat → Bool} {ok : Nat → Nat → Bool} {c0 : Nat} (hc : c0 < cs_ d) : ∀ t k, wY d s ok c0 t k ≠ 0 → k / 14 < cs_ d ∧ k % 14 ≤ t + 1
  | 0, k, h => by
    have nb := @now_le s c0 0
    by_cases z : ok 0 c0 = true ∧ k = 14 * c0 + now_ s c0 0
    · omega
    · exact (h (show W0_ s ok c0 k = 0 from if_neg z)).elim
  | t + 1, k, h => by
    obtain ⟨k', w, a, b, c, e⟩ := wy_pos.mp h
    have := PT_some hd c
    omega
theorem W0_sum {d : ld_T} (hd : VD d) {s : Nat → Bool} {ok : Nat → Nat → Bool} {c0 : Nat} (hc : c0 < cs_ d) : sm (W0_ s ok c0) 896 ≤ 1 := by
  have h64 := cs_le hd
  have nb := @now_le s c0 0
  rw [sm_one' (f := W0_ s ok c0) (j := 14 * c0 + now_ s c0 0) (by omega) (fun i _ hi => if_neg (fun u => hi u.2))]
  unfold W0_
  split <;> omega
theorem wY_le {d : ld_T} (hd : VD d) {s : Nat → Bool} {ok : Nat → Nat → Bool} {c0 : Nat} (hc : c0 < cs_ d) {t : Nat} (ht : t ≤ 12) : sm (wY d s ok c0 t) 896 ≤ 244140625 := by
  have h := wy_le (P := PT d s ok) (N := 896) (W := W0_ s ok c0) (PT_896 hd) (W0_sum hd hc) t
  have h5 : 5 ^ t ≤ 5 ^ 12 := Nat.pow_le_pow_right (by decide) ht
  have e : (5 : Nat) ^ 12 = 244140625 := rfl
  show sm (wy (PT d s ok) 896 (W0_ s ok c0) t) 896 ≤ 244140625
  omega
theorem wY_le1 {d : ld_T} (hd : VD d) {s : Nat → Bool} {ok : Nat → Nat → Bool} {c0 : Nat} (hc : c0 < cs_ d) {t k : Nat} (ht : t ≤ 12) (hk : k < 896) : wY d s ok c0 t k < 2 ^ 31 := by
  have h1 := wY_le hd (s := s) (ok := ok) hc ht
  have h2 := sm_le1 (f := wY d s ok c0 t) hk
  omega
theorem sm_tail {f : Nat → Nat} {n : Nat} (h : ∀ k, n ≤ k → f k = 0) (m : Nat) : sm f (n + m) = sm f n := by
  rw [sm_app, sm_eq0.mpr (fun i _ => h (n + i) (by omega)), Nat.add_zero]
theorem opm_f : opm false = fun x y => x + y := by
  funext x y
  exact if_neg (by decide)
theorem fw_row {sh : sh_T} {I J : I_T} {R : R_T} {L : L_T} {j : Nat} {d : ld_T} {s : Nat → Bool} {n0 x y : Nat} {e : Nat → Nat → Int32} {ok : Nat → Nat → Bool} (h : MSt sh I J R L j d s n0 x y e ok) (n : Int32) {t : Nat} (ht : t < 12) {M0 : L_T} (hV : ∀ k, k < 896 → M0 98 (896 * t + k) = lN (wY d s ok (lw d * y + x) t k)) (hz : ∀ k, k < 896 → M0 98 (896 * (t + 1) + k) = 0) : ∃ M', itC (B_X11_findWalks_83 sh.2.2 J M0 R 68 n (nI t)) (0, M0) = some (.inl (nI (t + 1), M')) ∧ (∀ i, i ≠ 98 → M' i = M0 i) ∧ (∀ i, (i < 896 * (t + 1) ∨ 896 * (t + 1) + 896 ≤ i) → M' 98 i = M0 98 i) ∧ ∀ i, i < 896 → M' 98 (896 * (t + 1) + i) = lN (wY d s ok (lw d * y + x) (t + 1) i) := by
  have h64 := cs_le h.hd
  have c0 := h.c0
  have e26 : J 68 26 * 14 = nI (14 * cs_ d) := by rw [h.e26, show (14 : Int32) = nI 14 from rfl, nI_mul, Nat.mul_comm]
  have last : ∀ i, stK (opm false) (PT d s ok t) (fun k => lN (wY d s ok (lw d * y + x) t k)) (14 * cs_ d) i = lN (wY d s ok (lw d * y + x) (t + 1) i) := fun i => by
    rw [opm_f, stK_add (W := wY d s ok (lw d * y + x) t) (fun k _ => rfl) i]
    show lN _ = lN (sm (fun k => sm (fun w => ind (PT d s ok t k w) i (wY d s ok (lw d * y + x) t k)) 5) 896)
    rw [show (896 : Nat) = 14 * cs_ d + (896 - 14 * cs_ d) by omega, sm_tail]
    intro k hk
    exact sm_eq0.mpr fun w _ => by
      unfold ind
      rw [if_neg]
      intro u
      have := PT_some h.hd u
      omega
  have key : ∀ u k, k + u = 14 * cs_ d → ∀ M : L_T, (∀ i, i ≠ 98 → M i = M0 i) → (∀ i, (i < 896 * (t + 1) ∨ 896 * (t + 1) + 896 ≤ i) → M 98 i = M0 98 i) → (∀ i, i < 896 → M 98 (896 * (t + 1) + i) = stK (opm false) (PT d s ok t) (fun k => lN (wY d s ok (lw d * y + x) t k)) k i) → ∃ M', itC (B_X11_findWalks_83 sh.2.2 J M0 R 68 n (nI t)) (nI k, M) = some (.inl (nI (t + 1), M')) ∧ (∀ i, i ≠ 98 → M' i = M0 i) ∧ (∀ i, (i < 896 * (t + 1) ∨ 896 * (t + 1) + 896 ≤ i) → M' 98 i = M0 98 i) ∧ ∀ i, i < 896 → M' 98 (896 * (t + 1) + i) = lN (wY d s ok (lw d * y + x) (t + 1) i) := by
    intro u
    induction u with
    | zero =>
      intro k hk M m1 m2 m3
      have : k = 14 * cs_ d := by omega
      subst this
      refine ⟨M, itC_inr ?_, m1, m2, fun i hi => (m3 i hi).trans (last i)⟩
      unfold B_X11_findWalks_83
      dsimp only
      rw [e26, if_neg Int32.lt_irrefl, nI_1]
    | succ u ih =>
      intro k hk M m1 m2 m3
      obtain ⟨M', a1, a2, a3, a4⟩ := fw_dir h n ht (show k < 14 * cs_ d by omega) (M0 := M0) (V := fun k => lN (wY d s ok (lw d * y + x) t k)) (a := wY d s ok (lw d * y + x) t k) rfl (wY_le1 h.hd c0 (by omega) (by omega)) (fun z => (wY_in h.hd c0 t k z).2) m1 m2 m3 (hV k (by omega))
      obtain ⟨M2, b1, b2⟩ := ih (k + 1) (by omega) M' a2 a3 a4
      refine ⟨M2, (itC_inl ?_).trans b1, b2⟩
      unfold B_X11_findWalks_83
      dsimp only
      rw [e26, if_pos ((nI_ltI (by omega) (by omega)).mpr (by omega))]
      exact a1
  exact key (14 * cs_ d) 0 (by omega) M0 (fun _ _ => rfl) (fun _ _ => rfl) (fun i hi => hz i hi)
