/-! texts: the call -/
def tgt (s k a : Nat) : Prop := (s = 0 ∧ 12 + 5 * k ≤ a ∧ a ≤ 12 + 5 * k + 4) ∨ (1 ≤ s ∧ (a = 18 + 4 * s + 2 * k ∨ a = 18 + 4 * s + 2 * k + 1))
theorem text_TR {I I2 : I_T} {L L2 : L_T} (t : TR I L 7 0) {s k c : Nat} (hs : s < 4) (hk : k < 2) (hkc : k ≤ c) (hc : c ≤ 2) (ec : I 9 s = nI c) (z1 : I2 7 1 = 0) (z2 : I2 70 0 = 0) (z3 : I2 7 2 = I2 71 0) (z4 : I2 7 3 = I2 72 0) (n1 : I2 9 s = nI (max c (k + 1))) (n2 : I2 73 s = nI (max c (k + 1))) (n3 : ∀ j, j < 4 → j ≠ s → I2 9 j = I 9 j ∧ I2 73 j = I 73 j) (o1 : ∀ a, 12 ≤ a → a ≤ 33 → ¬ tgt s k a → I2 a = I a ∧ L2 a = L a) (o74 : ∀ j, (s ≠ 0 ∨ j < 149 * k ∨ 149 * k + 149 ≤ j) → I2 74 j = I 74 j) (o75 : ∀ j, (s ≠ 1 ∨ j < 121 * k ∨ 121 * k + 121 ≤ j) → I2 75 j = I 75 j) (o76 : ∀ j, (s ≠ 2 ∨ j < 23 * k ∨ 23 * k + 23 ≤ j) → I2 76 j = I 76 j) (o77 : ∀ j, (s ≠ 3 ∨ j < 43 * k ∨ 43 * k + 43 ≤ j) → I2 77 j = I 77 j) (new : (s = 0 → ∃ d, VD d ∧ CL I2 L2 (12 + 5 * k) d ∧ ML I2 k d) ∧ (s = 1 → DR I2 (22 + 2 * k) k) ∧ (s = 2 → RR I2 (26 + 2 * k) k) ∧ (s = 3 → SR I2 (30 + 2 * k) k)) : TR I2 L2 7 0 := by
  obtain ⟨_, _, _, cn, t4, t5, t6, t7, t8⟩ := t
  have cc : cn s = c := (nI_eq (by have := (t4 s hs).1; omega) (by omega)).mp ((t4 s hs).2.1.symm.trans ec)
  obtain ⟨cm, cms, cmo⟩ : ∃ cm : Nat → Nat, cm s = max c (k + 1) ∧ ∀ j, ¬ j = s → cm j = cn j := ⟨fun j => if j = s then max c (k + 1) else cn j, if_pos rfl, fun j hj => if_neg hj⟩
  refine ⟨⟨0, by omega, z1, z2, fun i hi => by omega⟩, z3, z4, cm, fun j hj => ?_, fun j hj => ?_, fun j hj => ?_, fun j hj => ?_, fun j hj => ?_⟩
  · by_cases y : j = s
    · subst y
      rw [cms]
      exact ⟨by omega, n1, by rw [Nat.mul_zero, Nat.zero_add]; exact n2⟩
    · rw [cmo j y, Nat.mul_zero, Nat.zero_add]
      obtain ⟨q1, q2, q3⟩ := t4 j hj
      rw [Nat.mul_zero, Nat.zero_add] at q3
      show cn j ≤ 2 ∧ I2 9 j = _ ∧ _
      rw [(n3 j hj y).1, (n3 j hj y).2]
      exact ⟨q1, q2, q3⟩
  · rw [Nat.mul_zero, Nat.zero_add]
    by_cases y : s = 0 ∧ j = k
    · obtain ⟨y1, y2⟩ := y
      subst y2
      exact new.1 y1
    · have hj' : j < cn 0 := by
        by_cases u : 0 = s
        · rw [u, cms] at hj
          rw [u, cc]
          omega
        · rwa [cmo 0 u] at hj
      have c2 := (t4 0 (by omega)).1
      obtain ⟨d, v, cl, ml⟩ := t5 j hj'
      rw [Nat.mul_zero, Nat.zero_add] at ml
      have nt : ∀ q, q < 5 → ¬ tgt s k (12 + 5 * j + q) := fun q hq u => by unfold tgt at u; omega
      exact ⟨d, v, cl.keep (fun q hq => o1 _ (by omega) (by omega) (nt q hq)), ml.fr v (fun i hi => o74 _ (by omega))⟩
  · rw [Nat.mul_zero, Nat.zero_add]
    by_cases y : s = 1 ∧ j = k
    · obtain ⟨y1, y2⟩ := y
      subst y2
      exact new.2.1 y1
    · have hj' : j < cn 1 := by
        by_cases u : 1 = s
        · rw [u, cms] at hj
          rw [u, cc]
          omega
        · rwa [cmo 1 u] at hj
      have c2 := (t4 1 (by omega)).1
      have d := t6 j hj'
      rw [Nat.mul_zero, Nat.zero_add] at d
      exact d.fr (o1 _ (by omega) (by omega) (fun u => by unfold tgt at u; omega)).1 (o1 _ (by omega) (by omega) (fun u => by unfold tgt at u; omega)).1 (fun i hi => o75 _ (by omega))
  · rw [Nat.mul_zero, Nat.zero_add]
    by_cases y : s = 2 ∧ j = k
    · obtain ⟨y1, y2⟩ := y
      subst y2
      exact new.2.2.1 y1
    · have hj' : j < cn 2 := by
        by_cases u : 2 = s
        · rw [u, cms] at hj
          rw [u, cc]
          omega
        · rwa [cmo 2 u] at hj
      have c2 := (t4 2 (by omega)).1
      have d := t7 j hj'
      rw [Nat.mul_zero, Nat.zero_add] at d
      exact d.fr (o1 _ (by omega) (by omega) (fun u => by unfold tgt at u; omega)).1 (o1 _ (by omega) (by omega) (fun u => by unfold tgt at u; omega)).1 (fun i hi => o76 _ (by omega))
  · rw [Nat.mul_zero, Nat.zero_add]
    by_cases y : s = 3 ∧ j = k
    · obtain ⟨y1, y2⟩ := y
      subst y2
      exact new.2.2.2 y1
    · have hj' : j < cn 3 := by
        by_cases u : 3 = s
        · rw [u, cms] at hj
          rw [u, cc]
          omega
        · rwa [cmo 3 u] at hj
      have c2 := (t4 3 (by omega)).1
      have d := t8 j hj'
      rw [Nat.mul_zero, Nat.zero_add] at d
      exact d.fr (o1 _ (by omega) (by omega) (fun u => by unfold tgt at u; omega)).1 (o1 _ (by omega) (by omega) (fun u => by unfold tgt at u; omega)).1 (fun i hi => o77 _ (by omega))
/-- which slot a text gets -/
theorem slot_or {sh : sh_T} {I : I_T} {L : L_T} {R : R_T} (h : Inv sh I L R) (v1 v2 : Int32) : (D_X8_slot sh.2.2 I L R 7 v1 v2 = some (-2) ∧ ∀ (K : I_T) (LK : L_T), K 73 = I 73 → ((D_X11_in sh.2.2 K LK R v1 0 3 = some 0) ∨ (D_X11_in sh.2.2 K LK R v1 0 3 = some 1 ∧ ((v2 = -1 ∧ inb v1 16 = true ∧ K 73 v1.toNatClampNeg = 2) ∨ (v2 ≠ -1 ∧ D_X11_is sh.2.2 K LK R 68 v1 v2 = some 0))))) ∨ ∃ s c k, s < 4 ∧ c ≤ 2 ∧ k < 2 ∧ k ≤ c ∧ v1 = nI s ∧ I 9 s = nI c ∧ I 73 s = nI c ∧ D_X8_slot sh.2.2 I L R 7 v1 v2 = some (nI k) ∧ ((v2 = -1 ∧ k = c ∧ c < 2) ∨ (v2 ≠ -1 ∧ v2 = nI k ∧ k < c)) ∧ ∀ (K : I_T) (LK : L_T), K 73 = I 73 → D_X11_in sh.2.2 K LK R v1 0 3 = some 1 ∧ (v2 ≠ -1 → D_X11_is sh.2.2 K LK R 68 v1 v2 = some 1) := by
  obtain ⟨_, _, _, cn, t4, _⟩ := id h.t
  have inv : ∀ (K : I_T) (LK : L_T), D_X11_in sh.2.2 K LK R v1 0 3 = some (bI (decide (((0 : Nat) : Int) ≤ v1.toInt ∧ v1.toInt ≤ (3 : Nat)))) := fun K LK => in_rng v1 (a := 0) (b := 3) (by omega) (by omega)
  by_cases h1 : v1 < 0
  · have n1 : v1.toInt < 0 := Int32.lt_iff_toInt_lt.mp h1
    refine Or.inl ⟨by rw [D_X8_slot, if_pos h1], fun K LK e => Or.inl ?_⟩
    rw [inv, decide_eq_false (by omega)]
    rfl
  · obtain ⟨s, s31, rfl⟩ := nI_of h1
    by_cases h2 : s < 4
    · obtain ⟨c2, e9, e73⟩ := t4 s h2
      rw [Nat.mul_zero, Nat.zero_add] at e73
      have in1 : ∀ (K : I_T) (LK : L_T), D_X11_in sh.2.2 K LK R (nI s) 0 3 = some 1 := fun K LK => by
        rw [inv, nI_toInt s31, decide_eq_true (by omega)]
        rfl
      have is1 : ∀ (K : I_T) (LK : L_T), K 73 = I 73 → D_X11_is sh.2.2 K LK R 68 (nI s) v2 = some (bI (decide (0 ≤ v2.toInt ∧ v2.toInt < cn s))) := fun K LK e => by
        rw [is_eq (I := I) (L := L) (h.r 68 5 73 rfl) e]
        exact is_ok h h2 e73 c2 v2
      have g9 : D_X10_get sh.2.2 I L R 9 (nI s) = some (nI (cn s)) := by rw [get_ok (by rw [h.z 9 4 rfl]; exact h2) (by rw [h.z 9 4 rfl]; omega)]; exact congrArg some e9
      have sl : ∀ y, (if v2 = (-1) then (if nI (cn s) < (2) then (some (nI (cn s))) else (some ((-2)))) else (if v2 < 0 then (some ((-2))) else (if v2 < nI (cn s) then (some (v2)) else (some ((-2)))))) = y → D_X8_slot sh.2.2 I L R 7 (nI s) v2 = y := fun y hy => by
        rw [D_X8_slot, if_neg h1, if_pos ((nl_lt (k := 4) (j := 4) rfl (by omega) (by omega)).mpr h2), h.r 7 4 9 rfl, bs_, g9, bs_]
        exact hy
      by_cases h3 : v2 = -1
      · by_cases h4 : cn s < 2
        · refine Or.inr ⟨s, cn s, cn s, h2, c2, h4, Nat.le_refl _, rfl, e9, e73, sl _ ?_, Or.inl ⟨h3, rfl, h4⟩, fun K LK e => ⟨in1 K LK, fun u => (u h3).elim⟩⟩
          rw [if_pos h3, if_pos ((nl_lt (k := 2) (j := 2) rfl (by omega) (by omega)).mpr h4)]
        · refine Or.inl ⟨sl _ ?_, fun K LK e => Or.inr ⟨in1 K LK, Or.inl ⟨h3, inb_nI (by omega) (by omega), ?_⟩⟩⟩
          · rw [if_pos h3, if_neg (fun u => h4 ((nl_lt (k := 2) (j := 2) rfl (by omega) (by omega)).mp u))]
          · rw [cl_nI s31, e, e73, show cn s = 2 by omega]
            rfl
      · by_cases h5 : v2 < 0
        · have n2 : v2.toInt < 0 := Int32.lt_iff_toInt_lt.mp h5
          refine Or.inl ⟨sl _ ?_, fun K LK e => Or.inr ⟨in1 K LK, Or.inr ⟨h3, ?_⟩⟩⟩
          · rw [if_neg h3, if_pos h5]
          · rw [is1 K LK e, decide_eq_false (by omega)]
            rfl
        · obtain ⟨k, k31, rfl⟩ := nI_of h5
          by_cases h6 : k < cn s
          · refine Or.inr ⟨s, cn s, k, h2, c2, by omega, by omega, rfl, e9, e73, sl _ ?_, Or.inr ⟨h3, rfl, h6⟩, fun K LK e => ⟨in1 K LK, fun _ => ?_⟩⟩
            · rw [if_neg h3, if_neg h5, if_pos ((nI_ltI k31 (by omega)).mpr h6)]
            · rw [is1 K LK e, nI_toInt k31, decide_eq_true (by omega)]
              rfl
          · refine Or.inl ⟨sl _ ?_, fun K LK e => Or.inr ⟨in1 K LK, Or.inr ⟨h3, ?_⟩⟩⟩
            · rw [if_neg h3, if_neg h5, if_neg (fun u => h6 ((nI_ltI k31 (by omega)).mp u))]
            · rw [is1 K LK e, nI_toInt k31, decide_eq_false (by omega)]
              rfl
    · refine Or.inl ⟨?_, fun K LK e => Or.inl ?_⟩
      · rw [D_X8_slot, if_neg h1, if_neg (fun u => h2 ((nl_lt (k := 4) (j := 4) rfl (by omega) (by omega)).mp u))]
      · rw [inv, nI_toInt s31, decide_eq_false (by omega)]
        rfl
