/-! sights: the model's walks, whole -/
theorem fw_ok {sh : sh_T} {I J : I_T} {R : R_T} {L : L_T} {j : Nat} {d : ld_T} {s : Nat → Bool} {n0 x y : Nat} {e : Nat → Nat → Int32} {ok : Nat → Nat → Bool} (h : MSt sh I J R L j d s n0 x y e ok) {n : Nat} (hn : n ≤ 12) {M0 : L_T} (h0 : ∀ k, k < 896 → M0 98 k = lN (wY d s ok (lw d * y + x) 0 k)) (hz : ∀ i, 896 ≤ i → i < 11648 → M0 98 i = 0) : ∃ M', D_X11_findWalks_74 sh.2.2 J M0 R 68 (nI n) (0, M0) = some M' ∧ (∀ i, i ≠ 98 → i ≠ 99 → M' i = M0 i) ∧ (∀ t, t ≤ n → ∀ k, k < 896 → M' 98 (896 * t + k) = lN (wY d s ok (lw d * y + x) t k)) ∧ ∀ t, t ≤ n → ∀ i, i < 14 * cs_ d → M' 99 (896 * t + i) = lN (ow (PT d s ok) (n - t) t i) := by
  have key : ∀ u t, t + u = n → ∀ M : L_T, (∀ i, i ≠ 98 → M i = M0 i) → (∀ t', t' ≤ t → ∀ k, k < 896 → M 98 (896 * t' + k) = lN (wY d s ok (lw d * y + x) t' k)) → (∀ i, 896 * (t + 1) ≤ i → i < 11648 → M 98 i = 0) → ∃ M', itC (B_X11_findWalks_74 sh.2.2 J M0 R 68 (nI n)) (nI t, M) = some M' ∧ (∀ i, i ≠ 98 → i ≠ 99 → M' i = M0 i) ∧ (∀ t, t ≤ n → ∀ k, k < 896 → M' 98 (896 * t + k) = lN (wY d s ok (lw d * y + x) t k)) ∧ ∀ t, t ≤ n → ∀ i, i < 14 * cs_ d → M' 99 (896 * t + i) = lN (ow (PT d s ok) (n - t) t i) := by
    intro u
    induction u with
    | zero =>
      intro t ht M m1 m2 m3
      have : t = n := by omega
      subst this
      obtain ⟨M', a1, a2, a3⟩ := bw_ok h hn M
      refine ⟨M', itC_inr ?_, fun i h1 h2 => (a2 i h2).trans (m1 i h1), fun t' ht' k hk => by rw [a2 98 (by omega)]; exact m2 t' ht' k hk, a3⟩
      unfold B_X11_findWalks_74
      dsimp only
      rw [if_neg Int32.lt_irrefl, a1, bs_]
    | succ u ih =>
      intro t ht M m1 m2 m3
      obtain ⟨N, a1, a2, a3, a4⟩ := fw_row h (nI n) (show t < 12 by omega) (M0 := M) (m2 t (Nat.le_refl _)) (fun k hk => m3 _ (by omega) (by omega))
      obtain ⟨M', b1, b2⟩ := ih (t + 1) (by omega) N (fun i hi => (a2 i hi).trans (m1 i hi)) (fun t' ht' k hk => by
        by_cases z : t' = t + 1
        · subst z
          exact a4 k hk
        · rw [a3 _ (by omega)]
          exact m2 t' (by omega) k hk) (fun i h1 h2 => by
        rw [a3 _ (by omega)]
        exact m3 i (by omega) h2)
      refine ⟨M', (itC_inl ?_).trans b1, b2⟩
      unfold B_X11_findWalks_74
      dsimp only
      rw [if_pos ((nI_ltI (by omega) (by omega)).mpr (by omega))]
      exact a1
  exact key n 0 (by omega) M0 (fun _ _ => rfl) (fun t' ht' k hk => by
    have : t' = 0 := by omega
    subst this
    rw [show 896 * 0 + k = k by omega]
    exact h0 k hk) (fun i h1 h2 => hz i (by omega) h2)
theorem findWalks_ok {sh : sh_T} {I J : I_T} {R : R_T} {L : L_T} {j : Nat} {d : ld_T} {s : Nat → Bool} {n0 x y : Nat} {e : Nat → Nat → Int32} {ok : Nat → Nat → Bool} (h : MSt sh I J R L j d s n0 x y e ok) {n : Nat} (hn : n ≤ 12) (L0 : L_T) : ∃ M', D_X11_findWalks sh.2.2 J L0 R 68 (nI n) = some M' ∧ (∀ i, i ≠ 98 → i ≠ 99 → M' i = L0 i) ∧ (∀ t, t ≤ n → ∀ k, k < 896 → M' 98 (896 * t + k) = lN (wY d s ok (lw d * y + x) t k)) ∧ ∀ t, t ≤ n → ∀ i, i < 14 * cs_ d → M' 99 (896 * t + i) = lN (ow (PT d s ok) (n - t) t i) := by
  have h64 := cs_le h.hd
  have c0 := h.c0
  have hr := h.hd.2.2.2.2.2.1
  have r56 := h.inv.r 68 56 98 rfl
  have z98 := h.inv.z 98 11648 rfl
  have r57 := h.inv.r 68 57 99 rfl
  have z99 := h.inv.z 99 11648 rfl
  have nb := @now_le s (lw d * y + x) 0
  have cell : J 68 25 * nI y + nI x = nI (lw d * y + x) := by rw [h.e25, nI_mul, nI_add]
  have key : ∀ u k, k + u = 11648 → ∀ M : L_T, (∀ i, i ≠ 98 → i ≠ 99 → M i = L0 i) → (∀ i, i < k → M 98 i = 0) → ∃ M', itC (B_X11_findWalks_2 sh.2.2 J L0 R 68 (nI n)) (nI k, M) = some M' ∧ (∀ i, i ≠ 98 → i ≠ 99 → M' i = L0 i) ∧ (∀ t, t ≤ n → ∀ k, k < 896 → M' 98 (896 * t + k) = lN (wY d s ok (lw d * y + x) t k)) ∧ ∀ t, t ≤ n → ∀ i, i < 14 * cs_ d → M' 99 (896 * t + i) = lN (ow (PT d s ok) (n - t) t i) := by
    intro u
    induction u with
    | zero =>
      intro k hk M m1 m2
      have : k = 11648 := by omega
      subst this
      have s1 : D_X11_sightOf sh.2.2 J M R 68 1 = some (nI y) := by rw [← h.m1, ← h.e77]; exact sightOf_ok h.inv h.j2 h.e55 (j := 1) (by omega)
      have s0 : D_X11_sightOf sh.2.2 J M R 68 0 = some (nI x) := by rw [← h.m0, ← h.e77]; exact sightOf_ok h.inv h.j2 h.e55 (j := 0) (by omega)
      have on := h.on M (c := lw d * y + x) (on := 0) (t := 0) c0 (by omega) (by omega)
      have go : ∀ D, ((D_X11_walksOn sh.2.2 J M R 68 (nI (lw d * y + x)) 0 0).bind fun q4 => if q4 = (-1) then ((D_X11_findWalks_74 sh.2.2 J M R 68 (nI n) ((0), M)).bind fun y6 => some (.inr (y6))) else ((R 68 56).bind fun q7 => (D_X11_step sh.2.2 J M R (0) (nI (lw d * y + x)) q4).bind fun q8 => if inb q8 (sh.2.2 q7) = true then (some (up2 M q7 (q8.toNatClampNeg) (1 : Int64))).bind fun L10 => (D_X11_findWalks_74 sh.2.2 J L10 R 68 (nI n) ((0), L10)).bind fun y11 => some (.inr (y11)) else none)) = D → B_X11_findWalks_2 sh.2.2 J L0 R 68 (nI n) (nI 11648, M) = D := fun D hD => by
        unfold B_X11_findWalks_2
        dsimp only
        rw [if_neg (show ¬ nI 11648 < 11648 by decide), s1, bs_, s0, bs_, cell]
        exact hD
      by_cases z : ok 0 (lw d * y + x) = true
      · rw [if_pos ⟨z, by omega⟩] at on
        have st : D_X11_step sh.2.2 J M R 0 (nI (lw d * y + x)) (nI (now_ s (lw d * y + x) 0)) = some (nI (896 * 0 + 14 * (lw d * y + x) + now_ s (lw d * y + x) 0)) := step_ok 0 _ _
        have i2 : inb (nI (896 * 0 + 14 * (lw d * y + x) + now_ s (lw d * y + x) 0)) (sh.2.2 98) = true := inb_nI (by omega) (by omega)
        have c3 : (nI (896 * 0 + 14 * (lw d * y + x) + now_ s (lw d * y + x) 0)).toNatClampNeg = 14 * (lw d * y + x) + now_ s (lw d * y + x) 0 := by rw [cl_nI (by omega)]; omega
        obtain ⟨M', a1, a2, a3⟩ := fw_ok h hn (M0 := up2 M 98 (14 * (lw d * y + x) + now_ s (lw d * y + x) 0) 1) (fun k hk => by
          show _ = lN (W0_ s ok (lw d * y + x) k)
          unfold W0_
          by_cases u : k = 14 * (lw d * y + x) + now_ s (lw d * y + x) 0
          · rw [u, up2_s, if_pos ⟨z, rfl⟩]
            rfl
          · rw [up2_j u, if_neg (fun q => u q.2), m2 k (by omega)]
            rfl) (fun i h1 h2 => by
          rw [up2_j (by omega)]
          exact m2 i h2)
        refine ⟨M', itC_inr (go _ ?_), fun i h1 h2 => by rw [a2 i h1 h2, up2_ne h1]; exact m1 i h1 h2, a3⟩
        rw [show (0 : Int32) = nI 0 from rfl, on, bs_, if_neg (nI_neg1 (by omega)), r56, bs_, show nI 0 = 0 from rfl, st, bs_, if_pos i2, c3, bs_, a1, bs_]
      · rw [if_neg (fun u => z u.1)] at on
        obtain ⟨M', a1, a2, a3⟩ := fw_ok h hn (M0 := M) (fun k hk => by
          show _ = lN (W0_ s ok (lw d * y + x) k)
          unfold W0_
          rw [if_neg (fun q => z q.1), m2 k (by omega)]
          rfl) (fun i h1 h2 => m2 i h2)
        refine ⟨M', itC_inr (go _ ?_), fun i h1 h2 => by rw [a2 i h1 h2]; exact m1 i h1 h2, a3⟩
        rw [show (0 : Int32) = nI 0 from rfl, on, bs_, if_pos rfl, show nI 0 = 0 from rfl, a1, bs_]
    | succ u ih =>
      intro k hk M m1 m2
      obtain ⟨M', a1, a2⟩ := ih (k + 1) (by omega) (up2 (up2 M 98 k 0) 99 k 0) (fun i h1 h2 => by rw [up2_ne h2, up2_ne h1]; exact m1 i h1 h2) (fun i hi => by
        rw [up2_ne (by omega)]
        by_cases z : i = k
        · rw [z, up2_s]
        · rw [up2_j z]
          exact m2 i (by omega))
      refine ⟨M', (itC_inl ?_).trans a1, a2⟩
      unfold B_X11_findWalks_2
      dsimp only
      rw [if_pos ((nl_lt (k := 11648) (j := 11648) rfl (by omega) (by omega)).mpr (by omega)), r56, bs_, if_pos (inb_nI (by omega) (by omega)), bs_, r57, bs_, if_pos (inb_nI (by omega) (by omega)), bs_, cl_nI (by omega), nI_1]
  exact key 11648 0 (by omega) L0 (fun _ _ _ => rfl) (fun i hi => by omega)
/-- walks of n minutes through a cell at minute t -/
def thr (d : ld_T) (s : Nat → Bool) (ok : Nat → Nat → Bool) (c0 n t c : Nat) : Nat := sm (fun o => wY d s ok c0 t (14 * c + o) * ow (PT d s ok) (n - t) t (14 * c + o)) 14
/-- all walks -/
def wAll (d : ld_T) (s : Nat → Bool) (ok : Nat → Nat → Bool) (c0 n : Nat) : Nat := sm (wY d s ok c0 n) 896
theorem thr_all {d : ld_T} (hd : VD d) {s : Nat → Bool} {ok : Nat → Nat → Bool} {c0 n t : Nat} (ht : t ≤ n) : sm (thr d s ok c0 n t) 64 = wAll d s ok c0 n := by
  have h := wy_all (W := W0_ s ok c0) (PT_896 hd (s := s) (ok := ok)) (n - t) t
  rw [show t + (n - t) = n by omega] at h
  show _ = sm (fun j => wy (PT d s ok) 896 (W0_ s ok c0) n j) 896
  rw [h]
  exact sm_14 (fun k => wY d s ok c0 t k * ow (PT d s ok) (n - t) t k) 64
theorem thr_out {d : ld_T} (hd : VD d) {s : Nat → Bool} {ok : Nat → Nat → Bool} {c0 n t c : Nat} (h0 : c0 < cs_ d) (hc : cs_ d ≤ c) : thr d s ok c0 n t c = 0 := sm_eq0.mpr fun o ho => by
  have z : wY d s ok c0 t (14 * c + o) = 0 := Classical.byContradiction fun u => by
    have := wY_in hd h0 t (14 * c + o) u
    omega
  rw [z, Nat.zero_mul]
theorem thr_0 {d : ld_T} (hd : VD d) {s : Nat → Bool} {ok : Nat → Nat → Bool} {c0 n : Nat} (h0 : c0 < cs_ d) : thr d s ok c0 n 0 c0 = wAll d s ok c0 n := by
  have h64 := cs_le hd
  rw [← thr_all hd (Nat.zero_le n), sm_one' (j := c0) (by omega)]
  intro i _ hi
  refine sm_eq0.mpr fun o ho => ?_
  have nb := @now_le s c0 0
  rw [show wY d s ok c0 0 (14 * i + o) = 0 from if_neg (fun u => by omega), Nat.zero_mul]
theorem thr_n {d : ld_T} {s : Nat → Bool} {ok : Nat → Nat → Bool} {c0 n c : Nat} : thr d s ok c0 n n c = sm (fun o => wY d s ok c0 n (14 * c + o)) 14 := sm_ex fun o _ => by
  rw [Nat.sub_self]
  exact Nat.mul_one _
theorem thr_le {d : ld_T} (hd : VD d) {s : Nat → Bool} {ok : Nat → Nat → Bool} {c0 n t c : Nat} (h0 : c0 < cs_ d) (ht : t ≤ n) : thr d s ok c0 n t c ≤ wAll d s ok c0 n := by
  by_cases z : cs_ d ≤ c
  · rw [thr_out hd h0 z]
    exact Nat.zero_le _
  · have := cs_le hd
    rw [← thr_all hd ht]
    exact sm_le1 (by omega)
theorem walksBy2_ok {sh : sh_T} {I J : I_T} {R : R_T} {L : L_T} {j : Nat} {d : ld_T} {s : Nat → Bool} {n0 x y : Nat} {e : Nat → Nat → Int32} {ok : Nat → Nat → Bool} (h : MSt sh I J R L j d s n0 x y e ok) {n t c : Nat} (hn : n ≤ 12) (ht : t ≤ n) (hc : c < cs_ d) {M : L_T} (hf : ∀ t, t ≤ n → ∀ k, k < 896 → M 98 (896 * t + k) = lN (wY d s ok (lw d * y + x) t k)) (hb : ∀ t, t ≤ n → ∀ i, i < 14 * cs_ d → M 99 (896 * t + i) = lN (ow (PT d s ok) (n - t) t i)) : D_X11_walksBy sh.2.2 J M R 68 (nI t) (nI c) = some (lN (thr d s ok (lw d * y + x) n t c)) := by
  have h64 := cs_le h.hd
  have r56 := h.inv.r 68 56 98 rfl
  have z98 := h.inv.z 98 11648 rfl
  have r57 := h.inv.r 68 57 99 rfl
  have z99 := h.inv.z 99 11648 rfl
  have key : ∀ u o, o + u = 14 → itC (B_X11_walksBy_5 sh.2.2 J M R 68 (nI t) (nI c)) (lN (sm (fun o => wY d s ok (lw d * y + x) t (14 * c + o) * ow (PT d s ok) (n - t) t (14 * c + o)) o), nI o) = some (lN (thr d s ok (lw d * y + x) n t c)) := by
    intro u
    induction u with
    | zero =>
      intro o ho
      have : o = 14 := by omega
      subst this
      refine itC_inr ?_
      unfold B_X11_walksBy_5
      dsimp only
      rw [if_neg (show ¬ nI 14 < 14 by decide)]
      rfl
    | succ u ih =>
      intro o ho
      have st : D_X11_step sh.2.2 J M R (nI t) (nI c) (nI o) = some (nI (896 * t + 14 * c + o)) := step_ok _ _ _
      refine (itC_inl ?_).trans (ih (o + 1) (by omega))
      unfold B_X11_walksBy_5
      dsimp only
      rw [if_pos ((nl_lt (k := 14) (j := 14) rfl (by omega) (by omega)).mpr (by omega)), r56, bs_, st, bs_, if_pos (inb_nI (by omega) (by omega)), r57, bs_, bs_, if_pos (inb_nI (by omega) (by omega)), cl_nI (by omega), show 896 * t + 14 * c + o = 896 * t + (14 * c + o) by omega, hf t ht _ (by omega), hb t ht _ (by omega), lN_mul_, lN_add_, nI_1]
      rfl
  exact key 14 0 (by omega)
theorem allWalks2_ok {sh : sh_T} {I J : I_T} {R : R_T} {L : L_T} {j : Nat} {d : ld_T} {s : Nat → Bool} {n0 x y : Nat} {e : Nat → Nat → Int32} {ok : Nat → Nat → Bool} (h : MSt sh I J R L j d s n0 x y e ok) {n : Nat} (hn : n ≤ 12) {M : L_T} (hf : ∀ t, t ≤ n → ∀ k, k < 896 → M 98 (896 * t + k) = lN (wY d s ok (lw d * y + x) t k)) (hb : ∀ t, t ≤ n → ∀ i, i < 14 * cs_ d → M 99 (896 * t + i) = lN (ow (PT d s ok) (n - t) t i)) : D_X11_allWalks sh.2.2 J M R 68 = some (lN (wAll d s ok (lw d * y + x) n)) := by
  have s1 : D_X11_sightOf sh.2.2 J M R 68 1 = some (nI y) := by rw [← h.m1, ← h.e77]; exact sightOf_ok h.inv h.j2 h.e55 (j := 1) (by omega)
  have s0 : D_X11_sightOf sh.2.2 J M R 68 0 = some (nI x) := by rw [← h.m0, ← h.e77]; exact sightOf_ok h.inv h.j2 h.e55 (j := 0) (by omega)
  have cell : J 68 25 * nI y + nI x = nI (lw d * y + x) := by rw [h.e25, nI_mul, nI_add]
  have w := walksBy2_ok h hn (Nat.zero_le n) h.c0 hf hb
  rw [thr_0 h.hd h.c0] at w
  rw [D_X11_allWalks, s1, bs_, s0, bs_, cell, show (0 : Int32) = nI 0 from rfl, w, bs_]
