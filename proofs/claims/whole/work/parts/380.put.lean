/-! rows filled and written -/
theorem fill_ok {Z : Nat → Nat} {I : I_T} {L : L_T} {R : R_T} {a : Nat} {v : Int32} (hz : Z a < 2 ^ 31) : ∃ I', D_J7_fill_53178 Z I L R a v = some I' ∧ (∀ b, b ≠ a → I' b = I b) ∧ (∀ j, j < Z a → I' a j = v) ∧ ∀ j, Z a ≤ j → I' a j = I a j := by
  have key : ∀ k j, j + k = Z a → ∀ J : I_T, (∀ b, b ≠ a → J b = I b) → (∀ i, i < j → J a i = v) → (∀ i, Z a ≤ i → J a i = I a i) → ∃ I', itC (B_J7_fill_53178_5 Z I L R a v (nI (Z a))) (nI j, J) = some I' ∧ (∀ b, b ≠ a → I' b = I b) ∧ (∀ j, j < Z a → I' a j = v) ∧ ∀ j, Z a ≤ j → I' a j = I a j := by
    intro k
    induction k with
    | zero =>
      intro j hj J a1 a2 a3
      refine ⟨J, itC_inr ?_, a1, fun i hi => a2 i (by omega), a3⟩
      unfold B_J7_fill_53178_5
      rw [if_neg (fun z => by have := (nI_ltI (by omega) (by omega)).mp z; omega)]
    | succ k ih =>
      intro j hj J a1 a2 a3
      obtain ⟨I', p, q⟩ := ih (j + 1) (by omega) (up2 J a j v) (fun b hb => by rw [up2_ne hb]; exact a1 b hb) (fun i hi => by
        by_cases z : i = j
        · subst z
          exact up2_s _ _ _ _
        · rw [up2_j z]
          exact a2 i (by omega)) (fun i hi => by rw [up2_j (by omega)]; exact a3 i hi)
      refine ⟨I', (itC_inl ?_).trans p, q⟩
      unfold B_J7_fill_53178_5
      rw [if_pos ((nI_ltI (by omega) (by omega)).mpr (by omega)), if_pos (inb_nI (by omega) (by omega)), bs_, cl_nI (by omega), nI_1]
  exact key (Z a) 0 (by omega) I (fun _ _ => rfl) (fun i hi => by omega) (fun _ _ => rfl)
theorem fillL_ok {Z : Nat → Nat} {I : I_T} {L : L_T} {R : R_T} {a : Nat} {v : Int64} (hz : Z a < 2 ^ 31) : ∃ L', D_J7_fill_d0a16 Z I L R a v = some L' ∧ (∀ b, b ≠ a → L' b = L b) ∧ (∀ j, j < Z a → L' a j = v) ∧ ∀ j, Z a ≤ j → L' a j = L a j := by
  have key : ∀ k j, j + k = Z a → ∀ J : L_T, (∀ b, b ≠ a → J b = L b) → (∀ i, i < j → J a i = v) → (∀ i, Z a ≤ i → J a i = L a i) → ∃ L', itC (B_J7_fill_d0a16_6 Z I L R a v (nI (Z a))) (nI j, J) = some L' ∧ (∀ b, b ≠ a → L' b = L b) ∧ (∀ j, j < Z a → L' a j = v) ∧ ∀ j, Z a ≤ j → L' a j = L a j := by
    intro k
    induction k with
    | zero =>
      intro j hj J a1 a2 a3
      refine ⟨J, itC_inr ?_, a1, fun i hi => a2 i (by omega), a3⟩
      unfold B_J7_fill_d0a16_6
      rw [if_neg (fun z => by have := (nI_ltI (by omega) (by omega)).mp z; omega)]
    | succ k ih =>
      intro j hj J a1 a2 a3
      obtain ⟨I', p, q⟩ := ih (j + 1) (by omega) (up2 J a j v) (fun b hb => by rw [up2_ne hb]; exact a1 b hb) (fun i hi => by
        by_cases z : i = j
        · subst z
          exact up2_s _ _ _ _
        · rw [up2_j z]
          exact a2 i (by omega)) (fun i hi => by rw [up2_j (by omega)]; exact a3 i hi)
      refine ⟨I', (itC_inl ?_).trans p, q⟩
      unfold B_J7_fill_d0a16_6
      rw [if_pos ((nI_ltI (by omega) (by omega)).mpr (by omega)), if_pos (inb_nI (by omega) (by omega)), bs_, cl_nI (by omega), nI_1]
  exact key (Z a) 0 (by omega) L (fun _ _ => rfl) (fun i hi => by omega) (fun _ _ => rfl)
theorem put_ok {Z : Nat → Nat} {I : I_T} {L : L_T} {R : R_T} {a j : Nat} (h : j < Z a) (hz : Z a < 2 ^ 31) (v : Int32) : D_X10_put Z I L R a (nI j) v = some (up2 I a j v) := by
  rw [D_X10_put, if_neg (nI_pos (by omega)), if_pos ((nI_ltI (by omega) (by omega)).mpr h), if_pos (inb_nI h (by omega)), bs_, cl_nI (by omega)]
theorem putL_ok {Z : Nat → Nat} {I : I_T} {L : L_T} {R : R_T} {a j : Nat} (h : j < Z a) (hz : Z a < 2 ^ 31) (v : Int64) : D_X10_put_ Z I L R a (nI j) v = some (up2 L a j v) := by
  rw [D_X10_put_, if_neg (nI_pos (by omega)), if_pos ((nI_ltI (by omega) (by omega)).mpr h), if_pos (inb_nI h (by omega)), bs_, cl_nI (by omega)]
theorem getL_ok {Z : Nat → Nat} {I : I_T} {L : L_T} {R : R_T} {a : Nat} {j : Nat} (h : j < Z a) (hz : Z a < 2 ^ 31) : D_X10_get_ Z I L R a (nI j) = some (L a j) := by
  rw [D_X10_get_, if_neg (nI_pos (by omega)), if_pos ((nI_ltI (by omega) (by omega)).mpr h), if_pos (inb_nI h (by omega)), cl_nI (by omega)]
