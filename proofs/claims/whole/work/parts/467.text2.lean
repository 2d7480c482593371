/-! texts: the call (2) -/
def tK (I : I_T) : I_T := up2 (up2 (up2 (up2 (up2 I 68 0 0) 68 11 (I 70 0)) 70 0 0) 71 0 0) 72 0 (-1)
theorem tK_o (I : I_T) {a : Nat} (h1 : a ≠ 68) (h2 : a ≠ 70) (h3 : a ≠ 71) (h4 : a ≠ 72) : tK I a = I a := by
  unfold tK
  rw [up2_ne h4, up2_ne h3, up2_ne h2, up2_ne h1, up2_ne h1]
theorem tK_j (I : I_T) {j : Nat} (h : j ≠ 0) : tK I 70 j = I 70 j ∧ tK I 71 j = I 71 j ∧ tK I 72 j = I 72 j := by
  unfold tK
  refine ⟨?_, ?_, ?_⟩
  · rw [up2_ne (by omega), up2_ne (by omega), up2_j h, up2_ne (by omega), up2_ne (by omega)]
  · rw [up2_ne (by omega), up2_j h, up2_ne (by omega), up2_ne (by omega), up2_ne (by omega)]
  · rw [up2_j h, up2_ne (by omega), up2_ne (by omega), up2_ne (by omega), up2_ne (by omega)]
theorem tK_v (I : I_T) : tK I 68 11 = I 70 0 ∧ tK I 70 0 = 0 ∧ tK I 71 0 = 0 ∧ tK I 72 0 = -1 := by
  unfold tK
  refine ⟨?_, ?_, ?_, ?_⟩
  · rw [up2_ne (by omega), up2_ne (by omega), up2_ne (by omega), up2_s]
  · rw [up2_ne (by omega), up2_ne (by omega), up2_s]
  · rw [up2_ne (by omega), up2_s]
  · rw [up2_s]
def wdS (s : Nat) : Nat := [149, 121, 23, 43].getD s 0
section
variable {Z : Nat → Nat} {L : L_T} {R : R_T}
theorem storeAll_ok (hr : ∀ (a j b : Nat), rlL.elem (a, j, b) = true → R a j = some b) (hz : ∀ (k n : Nat), zlL.elem (k, n) = true → Z k = n) {K : I_T} {s k : Nat} (hs : s < 4) (hk : k < 2) : ∃ I', D_X11_storeAll Z K L R 68 (nI s) (nI k) = some I' ∧ (∀ a, a ≠ 74 + s → I' a = K a) ∧ (∀ i, i < wdS s → I' (74 + s) (wdS s * k + i) = K 78 i) ∧ ∀ j, (j < wdS s * k ∨ wdS s * k + wdS s ≤ j) → I' (74 + s) j = K (74 + s) j := by
  have r19 := hr 68 19 78 rfl
  have z78 := hz 78 149 rfl
  have h4 : s = 0 ∨ s = 1 ∨ s = 2 ∨ s = 3 := by omega
  rcases h4 with rfl | rfl | rfl | rfl
  · obtain ⟨I', a1, a2, a3, a4⟩ := store_ok (Z := Z) (I := K) (L := L) (R := R) (a := 74) (wd := 149) (k := k) r19 z78 (by omega) (by omega) (by rw [hz 74 1192 rfl]; omega) (by rw [hz 74 1192 rfl]; omega)
    refine ⟨I', ?_, a2, a3, a4⟩
    rw [D_X11_storeAll, bs_, if_pos (show nI 0 = 0 from rfl), hr 68 6 74 rfl, bs_, show (149 : Int32) = nI 149 from rfl, a1, bs_]
  · obtain ⟨I', a1, a2, a3, a4⟩ := store_ok (Z := Z) (I := K) (L := L) (R := R) (a := 75) (wd := 121) (k := k) r19 z78 (by omega) (by omega) (by rw [hz 75 968 rfl]; omega) (by rw [hz 75 968 rfl]; omega)
    refine ⟨I', ?_, a2, a3, a4⟩
    rw [D_X11_storeAll, bs_, if_neg (show ¬ nI 1 = 0 by decide), if_pos (show nI 1 = 1 from rfl), hr 68 7 75 rfl, bs_, show (121 : Int32) = nI 121 from rfl, a1, bs_]
  · obtain ⟨I', a1, a2, a3, a4⟩ := store_ok (Z := Z) (I := K) (L := L) (R := R) (a := 76) (wd := 23) (k := k) r19 z78 (by omega) (by omega) (by rw [hz 76 184 rfl]; omega) (by rw [hz 76 184 rfl]; omega)
    refine ⟨I', ?_, a2, a3, a4⟩
    rw [D_X11_storeAll, bs_, if_neg (show ¬ nI 2 = 0 by decide), if_neg (show ¬ nI 2 = 1 by decide), if_pos (show nI 2 = 2 from rfl), hr 68 8 76 rfl, bs_, show (23 : Int32) = nI 23 from rfl, a1, bs_]
  · obtain ⟨I', a1, a2, a3, a4⟩ := store_ok (Z := Z) (I := K) (L := L) (R := R) (a := 77) (wd := 43) (k := k) r19 z78 (by omega) (by omega) (by rw [hz 77 344 rfl]; omega) (by rw [hz 77 344 rfl]; omega)
    refine ⟨I', ?_, a2, a3, a4⟩
    rw [D_X11_storeAll, bs_, if_neg (show ¬ nI 3 = 0 by decide), if_neg (show ¬ nI 3 = 1 by decide), if_neg (show ¬ nI 3 = 2 by decide), hr 68 9 77 rfl, bs_, show (43 : Int32) = nI 43 from rfl, a1, bs_]
end
theorem and255 (x : Int32) : ∃ m, m < 256 ∧ x &&& 255 = nI m := by
  obtain ⟨n, _, rfl⟩ := wb_of32 x
  exact ⟨n % 2 ^ 8, Nat.mod_lt _ (by decide), fa_mask n 8⟩
theorem thead {sh : sh_T} {I : I_T} {L : L_T} {R : R_T} (h : Inv sh I L R) (I1 : I_T) (L1 : L_T) (v1 v2 : Int32) : D_X11_text sh.2.2 I1 L1 R 68 v1 v2 = (D_X11_in sh.2.2 (tK I1) L1 R v1 0 3).bind fun q13 => if q13 = 0 then (some (((-2), tK I1, L1))) else (if v2 = (-1) then (if inb v1 16 = true then if (tK I1 73 v1.toNatClampNeg) = (2) then (some (((-2), tK I1, L1))) else (D_X11_text_75 sh.2.2 (tK I1) L1 R 68 v1 v2) else none) else ((D_X11_is sh.2.2 (tK I1) L1 R 68 v1 v2).bind fun q16 => if q16 = 0 then (some (((-2), tK I1, L1))) else (D_X11_text_75 sh.2.2 (tK I1) L1 R 68 v1 v2))) := by
  rw [D_X11_text, bs_, h.r 68 2 70 rfl, bs_, h.z 70 4 rfl, if_pos (show inb 0 4 = true from rfl), bs_, if_pos (show inb 0 4 = true from rfl), bs_, h.r 68 3 71 rfl, bs_, h.z 71 4 rfl, if_pos (show inb 0 4 = true from rfl), bs_, h.r 68 4 72 rfl, bs_, h.z 72 4 rfl, if_pos (show inb 0 4 = true from rfl), bs_, h.r 68 5 73 rfl, show (0 : Int32).toNatClampNeg = 0 from rfl, up2_ne (show (70 : Nat) ≠ 68 by decide)]
  show (D_X11_in sh.2.2 (tK I1) L1 R v1 0 3).bind _ = _
  simp only [bs_, h.z 73 16 rfl]
  rfl
theorem tx_no {sh : sh_T} {I I2 : I_T} {L : L_T} {R : R_T} (h : Inv sh I L R) (a1 : I2 7 1 = 0) (a2 : I2 70 0 = 0) (a3 : I2 7 2 = I2 71 0) (a4 : I2 7 3 = I2 72 0) (e1 : ∀ a, (1 ≤ a ∧ a ≤ 4) ∨ (8 ≤ a ∧ a ≤ 33) ∨ a = 69 ∨ (73 ≤ a ∧ a ≤ 77) ∨ 101 ≤ a → I2 a = I a) (e2 : ∀ m, 0 < m → m < 4 → I2 70 m = I 70 m ∧ I2 71 m = I 71 m ∧ I2 72 m = I 72 m) : Inv sh I2 L R :=
  h.top ⟨0, by omega, a1, a2, fun i hi => by omega⟩ a3 a4 (fun a h1 h2 => e1 a (by omega)) (fun a h1 h2 => e1 a (by omega)) (fun a h1 => e1 a (by omega)) e2 (fun i hi => by rw [e1 69 (by omega)]) (fun a h1 h2 => e1 a (by omega))
