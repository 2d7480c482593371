/-! texts: where class and model begin to read -/
section
variable {Z : Nat → Nat} {L : L_T} {R : R_T} {n : Nat} {T : Nat → Nat}
noncomputable def rdT (Z : Nat → Nat) (L : L_T) (R : R_T) (v2 : Int32) (q10 : I_T) : Option (I_T × L_T) := if (q10 35 2) = 0 then (if v2 = 0 then (if (q10 35 9) < (q10 36 0) then (if (q10 35 10) < (q10 36 1) then ((D_X2_settle Z q10 L R 36).bind fun q15 => some ((q15.1, q15.2))) else (D_X5_read_85 Z q10 L R 35 7)) else (D_X5_read_85 Z q10 L R 35 7)) else (some ((q10, L)))) else (some ((q10, L)))
theorem cinit (hr : ∀ (a j b : Nat), rlL.elem (a, j, b) = true → R a j = some b) (hz : ∀ (k n : Nat), zlL.elem (k, n) = true → Z k = n) (J : I_T) (v : Int32) : ∃ J9, D_X5_read Z J L R 35 7 v = (D_X5_readLines Z J9 L R 35 7 v).bind (rdT Z L R v) ∧ LFc J J9 ∧ (J9 35 2 = 0 ∧ J9 35 3 = -1 ∧ J9 35 5 = 0 ∧ J9 35 9 = 0 ∧ J9 35 10 = 0) ∧ (J9 36 0 = 6 ∧ J9 36 1 = 6 ∧ J9 36 2 = 0 ∧ J9 36 3 = 12 ∧ J9 36 4 = 3 ∧ J9 36 5 = 0) ∧ (∀ i, i < 64 → J9 37 i = 0 ∧ J9 38 i = 0) ∧ J9 41 1 = 0 ∧ J9 41 2 = 0 ∧ J9 41 3 = 0 := by
  generalize h5 : up2 (up2 (up2 (up2 (up2 J 35 2 0) 35 3 (-1)) 35 5 0) 35 9 0) 35 10 0 = I5
  have o5 : ∀ a, a ≠ 35 → I5 a = J a := fun a ha => by rw [← h5, up2_ne ha, up2_ne ha, up2_ne ha, up2_ne ha, up2_ne ha]
  have s5 : I5 35 2 = 0 ∧ I5 35 3 = -1 ∧ I5 35 5 = 0 ∧ I5 35 9 = 0 ∧ I5 35 10 = 0 := by
    rw [← h5]
    refine ⟨?_, ?_, ?_, ?_, ?_⟩
    · rw [up2_j (by omega), up2_j (by omega), up2_j (by omega), up2_j (by omega), up2_s]
    · rw [up2_j (by omega), up2_j (by omega), up2_j (by omega), up2_s]
    · rw [up2_j (by omega), up2_j (by omega), up2_s]
    · rw [up2_j (by omega), up2_s]
    · rw [up2_s]
  generalize h6 : up2 (up2 (up2 (up2 (up2 (up2 I5 36 0 6) 36 1 6) 36 2 0) 36 3 12) 36 4 3) 36 5 0 = I6
  have o6 : ∀ a, a ≠ 36 → I6 a = I5 a := fun a ha => by rw [← h6, up2_ne ha, up2_ne ha, up2_ne ha, up2_ne ha, up2_ne ha, up2_ne ha]
  have s6 : I6 36 0 = 6 ∧ I6 36 1 = 6 ∧ I6 36 2 = 0 ∧ I6 36 3 = 12 ∧ I6 36 4 = 3 ∧ I6 36 5 = 0 := by
    rw [← h6]
    refine ⟨?_, ?_, ?_, ?_, ?_, ?_⟩
    · rw [up2_j (by omega), up2_j (by omega), up2_j (by omega), up2_j (by omega), up2_j (by omega), up2_s]
    · rw [up2_j (by omega), up2_j (by omega), up2_j (by omega), up2_j (by omega), up2_s]
    · rw [up2_j (by omega), up2_j (by omega), up2_j (by omega), up2_s]
    · rw [up2_j (by omega), up2_j (by omega), up2_s]
    · rw [up2_j (by omega), up2_s]
    · rw [up2_s]
  have z37 := hz 37 64 rfl
  have z38 := hz 38 64 rfl
  obtain ⟨A, a1, a2, a3, a4⟩ := fill_ok (Z := Z) (I := I6) (L := L) (R := R) (a := 37) (v := 0) (by omega)
  obtain ⟨B, b1, b2, b3, b4⟩ := fill_ok (Z := Z) (I := A) (L := L) (R := R) (a := 38) (v := 0) (by omega)
  have ec : D_X2_clear Z I5 L R 36 = some B := by
    rw [D_X2_clear, bs_, bs_, bs_, bs_, bs_, bs_, h6, hr 36 6 37 rfl, bs_, a1, bs_, hr 36 7 38 rfl, bs_, b1, bs_]
  have oB : ∀ a, a ≠ 37 → a ≠ 38 → B a = I6 a := fun a h1 h2 => by rw [b2 a h2, a2 a h1]
  refine ⟨up2 (up2 (up2 B 41 1 0) 41 2 0) 41 3 0, ?_, fun a ha => ?_, ?_, ?_, fun i hi => ⟨?_, ?_⟩, by rw [up2_j (by omega), up2_j (by omega), up2_s], by rw [up2_j (by omega), up2_s], up2_s _ _ _ _⟩
  · rw [D_X5_read, bs_, bs_, bs_, bs_, bs_, h5, hr 35 0 36 rfl, bs_, ec, bs_, hr 35 1 41 rfl, bs_, D_X6_clear, bs_, bs_, bs_, bs_]
    rfl
  · rw [up2_ne (by omega), up2_ne (by omega), up2_ne (by omega), oB a (by omega) (by omega), o6 a (by omega), o5 a (by omega)]
  · rw [up2_ne (by omega), up2_ne (by omega), up2_ne (by omega), oB 35 (by omega) (by omega), o6 35 (by omega)]
    exact s5
  · rw [up2_ne (by omega), up2_ne (by omega), up2_ne (by omega), oB 36 (by omega) (by omega)]
    exact s6
  · rw [up2_ne (by omega), up2_ne (by omega), up2_ne (by omega), b2 37 (by omega)]
    exact a3 i (by omega)
  · rw [up2_ne (by omega), up2_ne (by omega), up2_ne (by omega)]
    exact b3 i (by omega)
def tini (s j : Nat) : Int32 := if s = 0 then [6, 6, 0, 12, 3].getD j 0 else 0
noncomputable def rdM (Z : Nat → Nat) (R : R_T) (v1 : Int32) (q6 : Int32 × I_T × L_T) : Option (Int32 × I_T × L_T) := if (q6.1) = 0 then (D_X11_readText_137 Z (q6.2.1) (q6.2.2) R 68 (q6.1)) else (if v1 = 0 then (if ((q6.2.1) 68 17) = 0 then ((R 68 19).bind fun q10 => if inb (0 : Int32) (Z q10) = true then if ((q6.2.1) 68 21) < ((q6.2.1) q10 (0 : Int32).toNatClampNeg) then (if inb (1 : Int32) (Z q10) = true then if ((q6.2.1) 68 22) < ((q6.2.1) q10 (1 : Int32).toNatClampNeg) then (D_X11_readText_137 Z (q6.2.1) (q6.2.2) R 68 (q6.1)) else (D_X11_readText_128 Z (q6.2.1) (q6.2.2) R 68 (q6.1)) else none) else (D_X11_readText_128 Z (q6.2.1) (q6.2.2) R 68 (q6.1)) else none) else (D_X11_readText_137 Z (q6.2.1) (q6.2.2) R 68 (q6.1))) else (D_X11_readText_137 Z (q6.2.1) (q6.2.2) R 68 (q6.1)))
theorem minit (r19 : R 68 19 = some 78) (z78 : Z 78 = 149) {s : Nat} (hs : s < 4) {K : I_T} {LK : L_T} (tp : TPm Z R K n T) : ∃ K5 L5, MTok K5 L5 T n (sk blk T n 0) ∧ MF K5 (0, 0) ∧ TPm Z R K5 n T ∧ (∀ a, a ≠ 68 → a ≠ 78 → K5 a = K a) ∧ (∀ a, a ≠ 68 → L5 a = LK a) ∧ K5 68 21 = -1 ∧ K5 68 22 = -1 ∧ (∀ j, j < 149 → K5 78 j = tini s j) ∧ ∀ y, (D_X11_lines Z K5 L5 R 68 (nI s)).bind (rdM Z R (nI s)) = some y → D_X11_readText Z K LK R 68 (nI s) = some y := by
  have tail : ∀ K4 : I_T, (∀ a, a ≠ 78 → K4 a = K a) → (∀ j, j < 149 → K4 78 j = tini s j) → ∃ K5 L5, MTok K5 L5 T n (sk blk T n 0) ∧ MF K5 (0, 0) ∧ TPm Z R K5 n T ∧ (∀ a, a ≠ 68 → a ≠ 78 → K5 a = K a) ∧ (∀ a, a ≠ 68 → L5 a = LK a) ∧ K5 68 21 = -1 ∧ K5 68 22 = -1 ∧ (∀ j, j < 149 → K5 78 j = tini s j) ∧ D_X11_readText_57 Z K4 LK R 68 (nI s) = (D_X11_lines Z K5 L5 R 68 (nI s)).bind (rdM Z R (nI s)) := fun K4 k1 k2 => by
    generalize h3 : up2 (up2 (up2 (up2 K4 68 21 (-1)) 68 22 (-1)) 68 10 0) 68 17 0 = K3
    have o3 : ∀ a, a ≠ 68 → K3 a = K4 a := fun a ha => by rw [← h3, up2_ne ha, up2_ne ha, up2_ne ha, up2_ne ha]
    have j3 : ∀ j, j ≠ 21 → j ≠ 22 → j ≠ 10 → j ≠ 17 → K3 68 j = K 68 j := fun j g1 g2 g3 g4 => by rw [← h3, up2_j g4, up2_j g3, up2_j g2, up2_j g1, k1 68 (by omega)]
    have e17 : K3 68 17 = 0 := by rw [← h3, up2_s]
    have e10 : K3 68 10 = 0 := by rw [← h3, up2_j (by omega), up2_s]
    have e22 : K3 68 22 = -1 := by rw [← h3, up2_j (by omega), up2_j (by omega), up2_s]
    have e21 : K3 68 21 = -1 := by rw [← h3, up2_j (by omega), up2_j (by omega), up2_j (by omega), up2_s]
    have tp3 : TPm Z R K3 n T := tp.fr (j3 11 (by omega) (by omega) (by omega) (by omega)) (by rw [o3 69 (by omega), k1 69 (by omega)])
    obtain ⟨K5, L5, t1, t2, t3⟩ := token_ok (L := LK) (p := 0) tp3 (Nat.zero_le _) e10
    refine ⟨K5, L5, t2, ⟨?_, fun z => (z rfl).elim, by omega, Nat.zero_le _⟩, tp3.fr (t3.2.1 11 (by omega) (by omega) (by omega) (by omega)) (t3.1 69 (by omega)), fun a a1 a2 => by rw [t3.1 a a1, o3 a a1, k1 a a2], t3.2.2.1, by rw [t3.2.1 21 (by omega) (by omega) (by omega) (by omega)]; exact e21, by rw [t3.2.1 22 (by omega) (by omega) (by omega) (by omega)]; exact e22, fun j hj => by rw [t3.1 78 (by omega), o3 78 (by omega)]; exact k2 j hj, ?_⟩
    · rw [t3.2.1 17 (by omega) (by omega) (by omega) (by omega)]
      exact e17
    · rw [D_X11_readText_57, bs_, bs_, bs_, bs_, h3, t1, bs_]
      rfl
  have b2 : ∀ k j (K' : I_T), j + k = 149 → (∀ a, a ≠ 78 → K' a = K a) → (∀ q, q < j → K' 78 q = 0) → ∃ K4, (∀ a, a ≠ 78 → K4 a = K a) ∧ (∀ j, j < 149 → K4 78 j = tini s j) ∧ ∀ y, D_X11_readText_57 Z K4 LK R 68 (nI s) = some y → itC (B_X11_readText_2 Z K LK R 68 (nI s)) (nI j, K') = some y := by
    intro k
    induction k with
    | zero =>
      intro j K' hj a1 a2
      have : j = 149 := by omega
      subst this
      by_cases z : s = 0
      · refine ⟨up2 (up2 (up2 (up2 K' 78 0 6) 78 1 6) 78 3 12) 78 4 3, fun a ha => by rw [up2_ne ha, up2_ne ha, up2_ne ha, up2_ne ha, a1 a ha], fun j hj => ?_, fun y hy => itC_inr ?_⟩
        · unfold tini
          rw [if_pos z]
          by_cases y4 : j = 4
          · subst y4; rw [up2_s]; rfl
          · by_cases y3 : j = 3
            · subst y3; rw [up2_j (by omega), up2_s]; rfl
            · by_cases y1 : j = 1
              · subst y1; rw [up2_j (by omega), up2_j (by omega), up2_s]; rfl
              · by_cases y0 : j = 0
                · subst y0; rw [up2_j (by omega), up2_j (by omega), up2_j (by omega), up2_s]; rfl
                · rw [up2_j y4, up2_j y3, up2_j y1, up2_j y0, a2 j hj]
                  have : j = 2 ∨ 5 ≤ j := by omega
                  rcases this with rfl | y5
                  · rfl
                  · rw [List.getD_eq_getElem?_getD, List.getElem?_eq_none (show ([6, 6, 0, 12, 3] : List Int32).length ≤ j from y5)]
                    rfl
        · unfold B_X11_readText_2
          dsimp only
          rw [if_neg (show ¬ nI 149 < 149 by decide), if_pos (show nI s = 0 by rw [z]; rfl), r19, bs_, z78, if_pos (show inb 0 149 = true from rfl), bs_, if_pos (show inb 1 149 = true from rfl), bs_, if_pos (show inb 3 149 = true from rfl), bs_, if_pos (show inb 4 149 = true from rfl), bs_, show (0 : Int32).toNatClampNeg = 0 from rfl, show (1 : Int32).toNatClampNeg = 1 from rfl, show (3 : Int32).toNatClampNeg = 3 from rfl, show (4 : Int32).toNatClampNeg = 4 from rfl, hy, bs_]
      · refine ⟨K', a1, fun j hj => by unfold tini; rw [if_neg z]; exact a2 j hj, fun y hy => itC_inr ?_⟩
        unfold B_X11_readText_2
        dsimp only
        rw [if_neg (show ¬ nI 149 < 149 by decide), if_neg (fun u => z ((nl_eq (k := 0) (j := 0) rfl (by omega) (by omega)).mp u)), hy, bs_]
    | succ k ih =>
      intro j K' hj a1 a2
      obtain ⟨K4, b1, b2, b3⟩ := ih (j + 1) (up2 K' 78 j 0) (by omega) (fun a ha => by rw [up2_ne ha]; exact a1 a ha) (fun q hq => by
        by_cases z : q = j
        · rw [z, up2_s]
        · rw [up2_j z]
          exact a2 q (by omega))
      refine ⟨K4, b1, b2, fun y hy => (itC_inl ?_).trans (b3 y hy)⟩
      unfold B_X11_readText_2
      dsimp only
      rw [if_pos ((nl_lt (k := 149) (j := 149) rfl (by omega) (by omega)).mpr (by omega)), r19, bs_, z78, if_pos (inb_nI (by omega) (by omega)), bs_, cl_nI (by omega), nI_1]
  obtain ⟨K4, c1, c2, c3⟩ := b2 149 0 K (by omega) (fun _ _ => rfl) (fun q hq => by omega)
  obtain ⟨K5, L5, d1, d2, d3, d4, d5, d6, d7, d8, d9⟩ := tail K4 c1 c2
  refine ⟨K5, L5, d1, d2, d3, d4, d5, d6, d7, d8, fun y hy => ?_⟩
  rw [D_X11_readText, D_X11_readText_2, show (0 : Int32) = nI 0 from rfl]
  exact c3 y (d9.trans hy)
/-- the drafts are the same at first -/
theorem dr_ini {s : Nat} (hs : s < 4) {J K : I_T} (h35 : J 35 9 = 0 ∧ J 35 10 = 0) (h36 : J 36 0 = 6 ∧ J 36 1 = 6 ∧ J 36 2 = 0 ∧ J 36 3 = 12 ∧ J 36 4 = 3 ∧ J 36 5 = 0) (h37 : ∀ i, i < 64 → J 37 i = 0 ∧ J 38 i = 0) (h41 : J 41 1 = 0 ∧ J 41 2 = 0 ∧ J 41 3 = 0) (k21 : K 68 21 = -1) (k22 : K 68 22 = -1) (k78 : ∀ j, j < 149 → K 78 j = tini s j) : DRel s J K := by
  have t0 : ∀ j, 5 ≤ j → j < 149 → K 78 j = 0 := fun j h5 h9 => by
    rw [k78 j h9]
    unfold tini
    split
    · rw [List.getD_eq_getElem?_getD, List.getElem?_eq_none (show ([6, 6, 0, 12, 3] : List Int32).length ≤ j from h5)]
      rfl
    · rfl
  refine ⟨fun z => ?_, fun z => ?_, fun z => ?_, fun z => ?_⟩
  · subst z
    obtain ⟨a0, a1, a2, a3, a4, a5⟩ := h36
    refine ⟨⟨6, 6, 0, 12, 3, by omega, by omega, by omega, by omega, by omega, by omega, by omega, by omega, ⟨a0, a1, a2, a3, a4⟩, k78 0 (by omega), k78 1 (by omega), k78 2 (by omega), k78 3 (by omega), k78 4 (by omega)⟩, fun i hi => ⟨by rw [(h37 i hi).1, t0 _ (by omega) (by omega)], 0, by omega, (h37 i hi).1⟩, fun i hi => ⟨by rw [(h37 i hi).2, t0 _ (by omega) (by omega)], 0, by omega, (h37 i hi).2⟩, 0, 0, 0, by omega, a5, t0 5 (by omega) (by omega), h35.1, by omega, Or.inr ⟨rfl, k21⟩, h35.2, by omega, Or.inr ⟨rfl, k22⟩, fun p hp => by omega⟩
  · subst z
    exact ⟨0, fun _ _ => 0, ⟨by omega, fun j hj => by omega⟩, ⟨h41.1, h41.2.1, h41.2.2, fun j q hj => by omega⟩, k78 0 (by omega), fun j q hj => by omega⟩
  · subst z
    exact ⟨0, 0, 0, fun _ _ => 0, ⟨by omega, by omega, by omega, fun j hj => by omega⟩, ⟨h41.1, h41.2.1, h41.2.2, fun j q hj => by omega⟩, k78 0 (by omega), k78 1 (by omega), k78 2 (by omega), fun j q hj => by omega⟩
  · subst z
    exact ⟨0, 0, 0, fun _ _ => 0, ⟨by omega, by omega, by omega, fun j hj => by omega⟩, ⟨h41.1, h41.2.1, h41.2.2, fun j q hj => by omega⟩, k78 0 (by omega), k78 1 (by omega), k78 2 (by omega), fun j q hj => by omega⟩
end
