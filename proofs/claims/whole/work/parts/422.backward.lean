/-! sights: the model's ways onward -/
theorem bw_cell {sh : sh_T} {I J : I_T} {R : R_T} {L : L_T} {j : Nat} {d : ld_T} {s : Nat → Bool} {n0 x y : Nat} {e : Nat → Nat → Int32} {ok : Nat → Nat → Bool} (h : MSt sh I J R L j d s n0 x y e ok) {n t k : Nat} (hn : n ≤ 12) (ht : t ≤ n) (hk : k < 14 * cs_ d) {M : L_T} (hV : t < n → ∀ i, i < 14 * cs_ d → M 99 (896 * (t + 1) + i) = lN (ow (PT d s ok) (n - (t + 1)) (t + 1) i)) : itC (B_X11_findWalks_261 sh.2.2 J M R 68 (nI n) (nI t) (nI k)) (if t = n then 1 else 0, 0) = some (.inl (nI (k + 1), up2 M 99 (896 * t + k) (lN (ow (PT d s ok) (n - t) t k)))) := by
  have h64 := cs_le h.hd
  have k14 : k / 14 < cs_ d := by omega
  have r57 := h.inv.r 68 57 99 rfl
  have z99 := h.inv.z 99 11648 rfl
  have dv := div14 (k := k) (by omega)
  have t1 : nI t + 1 = nI (t + 1) := nI_1 t
  have sp0 : D_X11_step sh.2.2 J M R (nI t) 0 0 = some (nI (896 * t + 14 * 0 + 0)) := step_ok t 0 0
  have ik : inb (nI (896 * t + 14 * 0 + 0) + nI k) (sh.2.2 99) = true := by rw [nI_add]; exact inb_nI (by omega) (by omega)
  have ck : (nI (896 * t + 14 * 0 + 0) + nI k).toNatClampNeg = 896 * t + k := by rw [nI_add, cl_nI (by omega)]; omega
  have f362 : ∀ v : Int64, D_X11_findWalks_362 sh.2.2 J M R 68 (nI n) (nI t) (nI k) v = some (.inl (nI (k + 1), up2 M 99 (896 * t + k) v)) := fun v => by
    rw [D_X11_findWalks_362, r57, bs_, sp0, bs_, if_pos ik, bs_, ck, nI_1]
  by_cases tn : t = n
  · subst tn
    refine itC_inr ?_
    unfold B_X11_findWalks_261
    dsimp only
    rw [if_neg (show ¬ (4 : Int32) < 0 by decide), if_neg Int32.lt_irrefl, f362, bs_, if_pos rfl, Nat.sub_self]
    rfl
  · have lt : nI t < nI n := (nI_ltI (by omega) (by omega)).mpr (by omega)
    have e1 : n - t = (n - (t + 1)) + 1 := by omega
    have key : ∀ u w, w + u = 5 → itC (B_X11_findWalks_261 sh.2.2 J M R 68 (nI n) (nI t) (nI k)) (lN (sm (fun w => ata (PT d s ok t k w) (ow (PT d s ok) (n - (t + 1)) (t + 1))) w), nI w) = some (.inl (nI (k + 1), up2 M 99 (896 * t + k) (lN (ow (PT d s ok) (n - t) t k)))) := by
      intro u
      induction u with
      | zero =>
        intro w hw5
        have : w = 5 := by omega
        subst this
        refine itC_inr ?_
        unfold B_X11_findWalks_261
        dsimp only
        rw [if_pos (show (4 : Int32) < nI 5 by decide), f362, bs_, e1]
        rfl
      | succ u ih =>
        intro w hw5
        have nxt := next_ok (Z := sh.2.2) (J := J) (L := M) (R := R) h.hd h.e25 h.e26 k14 (show w ≤ 4 by omega)
        have nl4 : ¬ (4 : Int32) < nI w := fun u => by
          have := (nI_ltI (a := 4) (b := w) (by omega) (by omega)).mp u
          omega
        have go : ∀ (S : Int64) D, ((D_X11_next sh.2.2 J M R 68 (nI k / 14) (nI w)).bind fun q5 => if q5 = (-1) then (D_X11_findWalks_304 sh.2.2 J M R 68 (nI n) (nI t) (nI k) S (nI w) q5) else (if (nI t + 1) < (nI k - nI k / 14 * 14) then (D_X11_findWalks_304 sh.2.2 J M R 68 (nI n) (nI t) (nI k) S (nI w) q5) else ((D_X11_walksOn sh.2.2 J M R 68 q5 (nI k - nI k / 14 * 14) (nI t + 1)).bind fun q8 => D_X11_findWalks_323 sh.2.2 J M R 68 (nI n) (nI t) (nI k) S (nI w) q5 q8))) = D → B_X11_findWalks_261 sh.2.2 J M R 68 (nI n) (nI t) (nI k) (S, nI w) = D := fun S D hD => by
          unfold B_X11_findWalks_261
          dsimp only
          rw [if_neg nl4, if_pos lt]
          exact hD
        have f304 : ∀ (S : Int64) q, D_X11_findWalks_304 sh.2.2 J M R 68 (nI n) (nI t) (nI k) S (nI w) q = some (.inl (S, nI (w + 1))) := fun S q => by
          rw [D_X11_findWalks_304, D_X11_findWalks_323, if_pos rfl, nI_1, Int64.add_zero]
        have no : PT d s ok t k w = none → sm (fun w => ata (PT d s ok t k w) (ow (PT d s ok) (n - (t + 1)) (t + 1))) (w + 1) = sm (fun w => ata (PT d s ok t k w) (ow (PT d s ok) (n - (t + 1)) (t + 1))) w := fun pe => by
          show _ + ata (PT d s ok t k w) _ = _
          rw [pe]
          rfl
        have ihw := ih (w + 1) (by omega)
        generalize hS : sm (fun w => ata (PT d s ok t k w) (ow (PT d s ok) (n - (t + 1)) (t + 1))) w = S at no ⊢
        cases en : nx d (k / 14) w with
        | none =>
          rw [en] at nxt
          rw [no (by
            unfold PT
            rw [en]
            exact ite_self _)] at ihw
          refine (itC_inl (go _ _ ?_)).trans ihw
          rw [dv.1, nxt, bs_, show oI none = -1 from rfl, if_pos rfl, f304]
        | some c' =>
          rw [en] at nxt
          have c2 := nx_lt h.hd k14 en
          by_cases k13 : k % 14 ≤ t + 1
          · have pe : PT d s ok t k w = if ok (t + 1) c' = true ∧ now_ s c' (k % 14) ≤ lhr d then some (14 * c' + now_ s c' (k % 14)) else none := by
              unfold PT
              rw [if_pos ⟨by omega, k14, k13⟩, en]
            have nl : ¬ nI (t + 1) < nI (k % 14) := fun u => by
              have := (nI_ltI (by omega) (by omega)).mp u
              omega
            have nb := @now_le s c' (k % 14)
            have on := h.on M (c := c') (on := k % 14) (t := t + 1) c2 (by omega) (by omega)
            by_cases z : ok (t + 1) c' = true ∧ now_ s c' (k % 14) ≤ lhr d
            · rw [if_pos z] at on pe
              have st : D_X11_step sh.2.2 J M R (nI (t + 1)) (nI c') (nI (now_ s c' (k % 14))) = some (nI (896 * (t + 1) + 14 * c' + now_ s c' (k % 14))) := step_ok _ _ _
              have i2 : inb (nI (896 * (t + 1) + 14 * c' + now_ s c' (k % 14))) (sh.2.2 99) = true := inb_nI (by omega) (by omega)
              have c3 : (nI (896 * (t + 1) + 14 * c' + now_ s c' (k % 14))).toNatClampNeg = 896 * (t + 1) + (14 * c' + now_ s c' (k % 14)) := by rw [cl_nI (by omega)]; omega
              have sw : sm (fun w => ata (PT d s ok t k w) (ow (PT d s ok) (n - (t + 1)) (t + 1))) (w + 1) = S + ow (PT d s ok) (n - (t + 1)) (t + 1) (14 * c' + now_ s c' (k % 14)) := by
                show sm _ w + ata (PT d s ok t k w) _ = _
                rw [hS, pe]
                rfl
              rw [sw] at ihw
              refine (itC_inl (go _ _ ?_)).trans ihw
              rw [dv.2, dv.1, nxt, bs_, show oI (some c') = nI c' from rfl, if_neg (nI_neg1 (by omega)), t1, if_neg nl, on, bs_, D_X11_findWalks_323, if_neg (nI_neg1 (by omega)), r57, bs_, t1, st, bs_, if_pos i2, c3, hV (by omega) _ (by omega), nI_1, lN_add_]
            · rw [if_neg z] at on pe
              rw [no pe] at ihw
              refine (itC_inl (go _ _ ?_)).trans ihw
              rw [dv.2, dv.1, nxt, bs_, show oI (some c') = nI c' from rfl, if_neg (nI_neg1 (by omega)), t1, if_neg nl, on, bs_, D_X11_findWalks_323, if_pos rfl, nI_1, Int64.add_zero]
          · rw [no (by
              unfold PT
              rw [if_neg (fun u => k13 u.2.2)])] at ihw
            refine (itC_inl (go _ _ ?_)).trans ihw
            rw [dv.2, dv.1, nxt, bs_, show oI (some c') = nI c' from rfl, if_neg (nI_neg1 (by omega)), t1, if_pos ((nI_ltI (by omega) (by omega)).mpr (by omega)), f304]
    rw [if_neg tn]
    exact key 5 0 (by omega)
theorem bw_row {sh : sh_T} {I J : I_T} {R : R_T} {L : L_T} {j : Nat} {d : ld_T} {s : Nat → Bool} {n0 x y : Nat} {e : Nat → Nat → Int32} {ok : Nat → Nat → Bool} (h : MSt sh I J R L j d s n0 x y e ok) {n t : Nat} (hn : n ≤ 12) (ht : t ≤ n) {M0 : L_T} (hV : t < n → ∀ i, i < 14 * cs_ d → M0 99 (896 * (t + 1) + i) = lN (ow (PT d s ok) (n - (t + 1)) (t + 1) i)) : ∃ M', itC (B_X11_findWalks_233 sh.2.2 J M0 R 68 (nI n) (nI t)) (0, M0) = some (.inl (nI t + (-1), M')) ∧ (∀ i, i ≠ 99 → M' i = M0 i) ∧ (∀ i, 896 * t + 896 ≤ i → M' 99 i = M0 99 i) ∧ ∀ i, i < 14 * cs_ d → M' 99 (896 * t + i) = lN (ow (PT d s ok) (n - t) t i) := by
  have h64 := cs_le h.hd
  have e26 : J 68 26 * 14 = nI (14 * cs_ d) := by rw [h.e26, show (14 : Int32) = nI 14 from rfl, nI_mul, Nat.mul_comm]
  have key : ∀ u k, k + u = 14 * cs_ d → ∀ M : L_T, (∀ i, i ≠ 99 → M i = M0 i) → (∀ i, 896 * t + 896 ≤ i → M 99 i = M0 99 i) → (∀ i, i < k → M 99 (896 * t + i) = lN (ow (PT d s ok) (n - t) t i)) → ∃ M', itC (B_X11_findWalks_233 sh.2.2 J M0 R 68 (nI n) (nI t)) (nI k, M) = some (.inl (nI t + (-1), M')) ∧ (∀ i, i ≠ 99 → M' i = M0 i) ∧ (∀ i, 896 * t + 896 ≤ i → M' 99 i = M0 99 i) ∧ ∀ i, i < 14 * cs_ d → M' 99 (896 * t + i) = lN (ow (PT d s ok) (n - t) t i) := by
    intro u
    induction u with
    | zero =>
      intro k hk M m1 m2 m3
      have : k = 14 * cs_ d := by omega
      subst this
      refine ⟨M, itC_inr ?_, m1, m2, m3⟩
      unfold B_X11_findWalks_233
      dsimp only
      rw [e26, if_neg Int32.lt_irrefl]
    | succ u ih =>
      intro k hk M m1 m2 m3
      have a1 := bw_cell h hn ht (show k < 14 * cs_ d by omega) (M := M) (fun q i hi => by rw [m2 _ (by omega)]; exact hV q i hi)
      obtain ⟨M2, b1, b2⟩ := ih (k + 1) (by omega) (up2 M 99 (896 * t + k) (lN (ow (PT d s ok) (n - t) t k))) (fun i hi => by rw [up2_ne hi]; exact m1 i hi) (fun i hi => by rw [up2_j (by omega)]; exact m2 i hi) (fun i hi => by
        by_cases z : i = k
        · rw [z, up2_s]
        · rw [up2_j (by omega)]
          exact m3 i (by omega))
      refine ⟨M2, (itC_inl ?_).trans b1, b2⟩
      unfold B_X11_findWalks_233
      dsimp only
      rw [e26, if_pos ((nI_ltI (by omega) (by omega)).mpr (by omega))]
      by_cases z : t = n
      · rw [if_pos z] at a1
        rw [if_pos (congrArg nI z)]
        exact a1
      · rw [if_neg z] at a1
        rw [if_neg (fun u => z ((nI_eq (by omega) (by omega)).mp u))]
        exact a1
  exact key (14 * cs_ d) 0 (by omega) M0 (fun _ _ => rfl) (fun _ _ => rfl) (fun i hi => by omega)
theorem bw_ok {sh : sh_T} {I J : I_T} {R : R_T} {L : L_T} {j : Nat} {d : ld_T} {s : Nat → Bool} {n0 x y : Nat} {e : Nat → Nat → Int32} {ok : Nat → Nat → Bool} (h : MSt sh I J R L j d s n0 x y e ok) {n : Nat} (hn : n ≤ 12) (M0 : L_T) : ∃ M', D_X11_findWalks_225 sh.2.2 J M0 R 68 (nI n) (nI n, M0) = some M' ∧ (∀ i, i ≠ 99 → M' i = M0 i) ∧ ∀ t, t ≤ n → ∀ i, i < 14 * cs_ d → M' 99 (896 * t + i) = lN (ow (PT d s ok) (n - t) t i) := by
  have h64 := cs_le h.hd
  have key : ∀ t, t ≤ n → ∀ M : L_T, (∀ i, i ≠ 99 → M i = M0 i) → (∀ t', t < t' → t' ≤ n → ∀ i, i < 14 * cs_ d → M 99 (896 * t' + i) = lN (ow (PT d s ok) (n - t') t' i)) → ∃ M', itC (B_X11_findWalks_225 sh.2.2 J M0 R 68 (nI n)) (nI t, M) = some M' ∧ (∀ i, i ≠ 99 → M' i = M0 i) ∧ ∀ t, t ≤ n → ∀ i, i < 14 * cs_ d → M' 99 (896 * t + i) = lN (ow (PT d s ok) (n - t) t i) := by
    intro t
    induction t with
    | zero =>
      intro ht M m1 m2
      obtain ⟨N, a1, a2, a3, a4⟩ := bw_row h hn ht (M0 := M) (fun q i hi => m2 1 (by omega) (by omega) i hi)
      refine ⟨N, (itC_inl (s' := (nI 0 + (-1), N)) ?_).trans (itC_inr ?_), fun i hi => (a2 i hi).trans (m1 i hi), fun t ht i hi => ?_⟩
      · unfold B_X11_findWalks_225
        dsimp only
        rw [if_neg (show ¬ nI 0 < 0 by decide)]
        exact a1
      · unfold B_X11_findWalks_225
        dsimp only
        rw [if_pos (show nI 0 + (-1) < 0 by decide)]
      · by_cases z : t = 0
        · subst z
          exact a4 i hi
        · rw [a3 _ (by omega)]
          exact m2 t (by omega) ht i hi
    | succ t ih =>
      intro ht M m1 m2
      obtain ⟨N, a1, a2, a3, a4⟩ := bw_row h hn ht (M0 := M) (fun q i hi => m2 (t + 1 + 1) (by omega) (by omega) i hi)
      obtain ⟨M', b1, b2⟩ := ih (by omega) N (fun i hi => (a2 i hi).trans (m1 i hi)) (fun t' h1 h2 i hi => by
        by_cases z : t' = t + 1
        · subst z
          exact a4 i hi
        · rw [a3 _ (by omega)]
          exact m2 t' (by omega) h2 i hi)
      refine ⟨M', (itC_inl (s' := (nI t, N)) ?_).trans b1, b2⟩
      unfold B_X11_findWalks_225
      dsimp only
      rw [if_neg (fun u => by
        have := (nI_ltI (a := t + 1) (b := 0) (by omega) (by omega)).mp u
        omega)]
      rw [show nI t = nI (t + 1) + (-1) by rw [← nI_1 t, Int32.add_assoc, show (1 : Int32) + -1 = 0 from rfl, Int32.add_zero]]
      exact a1
  exact key n (Nat.le_refl _) M0 (fun _ _ => rfl) (fun t' h1 h2 => by omega)
