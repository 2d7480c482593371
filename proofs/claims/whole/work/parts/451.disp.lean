/-! texts: what the model does with each word -/
section
variable {Z : Nat → Nat} {R : R_T}
theorem wrap_ok {X : Option (Int32 × I_T × L_T)} {r : Int32} {K : I_T} {L : L_T} (h : X = some (r, K, L)) (hb : isb r = true) : (X.bind fun q => if isb (q.1) = true then some ((q.1, q.2.1, q.2.2)) else none) = some (r, K, L) := by
  rw [h, bs_]
  exact if_pos hb
noncomputable def kSize (Z : Nat → Nat) (R : R_T) (I : I_T) (L : L_T) : Option (Int32 × I_T × L_T) := (R 68 19).bind fun q5 => (R 68 20).bind fun q6 => if inb (0 : Int32) (Z q6) = true then if inb (0 : Int32) (Z q5) = true then (some (up2 I q5 ((0 : Int32).toNatClampNeg) (I q6 (0 : Int32).toNatClampNeg))).bind fun I9 => if inb (1 : Int32) (Z q6) = true then if inb (1 : Int32) (Z q5) = true then (some (up2 I9 q5 ((1 : Int32).toNatClampNeg) (I9 q6 (1 : Int32).toNatClampNeg))).bind fun I12 => some (((1 : Int32), I12, L)) else none else none else none else none
noncomputable def kPlain (Z : Nat → Nat) (R : R_T) (v1 : Int32) (I : I_T) (L : L_T) : Option (Int32 × I_T × L_T) := (R 68 19).bind fun q3 => (R 68 20).bind fun q4 => if inb (0 : Int32) (Z q4) = true then if inb v1 (Z q3) = true then (some (up2 I q3 (v1.toNatClampNeg) (I q4 (0 : Int32).toNatClampNeg))).bind fun I7 => some (((1 : Int32), I7, L)) else none else none
theorem size_mch {K : I_T} {L : L_T} : D_X11_sizeLine Z K L R 68 = mch Z R 0 0 (kSize Z R) 2 0 K L := rfl
theorem from_mch14 {K : I_T} {L : L_T} : D_X11_fromLine Z K L R 68 = mch Z R 14 0 (kSize Z R) 2 0 K L := rfl
theorem from_mch16 {K : I_T} {L : L_T} : D_X11_fromLine Z K L R 68 = mch Z R 16 0 (kSize Z R) 2 0 K L := rfl
theorem plain_mch2 {K : I_T} {L : L_T} : D_X11_plainLine Z K L R 68 2 0 9 = mch Z R 2 0 (kPlain Z R 2) 1 0 K L := rfl
theorem plain_mch3 {K : I_T} {L : L_T} : D_X11_plainLine Z K L R 68 3 1 60 = mch Z R 3 0 (kPlain Z R 3) 1 0 K L := rfl
theorem plain_mch4 {K : I_T} {L : L_T} : D_X11_plainLine Z K L R 68 4 0 20 = mch Z R 4 0 (kPlain Z R 4) 1 0 K L := rfl
noncomputable def kKeep (Z : Nat → Nat) (R : R_T) (v1 v2 v3 v4 : Int32) (I : I_T) (L : L_T) : Option (Int32 × I_T × L_T) := (D_X11_keep Z I L R 68 v1 v2 v3 v4).bind fun q7 => some (((1 : Int32), q7, L))
noncomputable def kDay (Z : Nat → Nat) (R : R_T) (v4 : Int32) (I : I_T) (L : L_T) : Option (Int32 × I_T × L_T) := D_X11_dayLine_74 Z I L R 68 v4
noncomputable def kSeen (Z : Nat → Nat) (R : R_T) (v : Int32) (I : I_T) (L : L_T) : Option (Int32 × I_T × L_T) := (R 68 20).bind fun q9 => D_X11_sightLine_115 Z I L R 68 v (0 : Int32) q9
theorem landW {K : I_T} {L : L_T} {v : Int32} {w : Nat} (hw : w < 6) : D_X11_landLine Z K L R 68 (cst w) v = D_X11_landLine_78 Z K L R 68 (cst w) (-1) := by
  have : w = 0 ∨ w = 1 ∨ w = 2 ∨ w = 3 ∨ w = 4 ∨ w = 5 := by omega
  rcases this with rfl | rfl | rfl | rfl | rfl | rfl
  · rw [D_X11_landLine, D_X11_kindBy, if_neg (by decide), if_neg (by decide), if_neg (by decide), bs_, if_pos rfl, if_pos (by decide), D_X11_landLine_65, if_pos rfl]
  · rw [D_X11_landLine, D_X11_kindBy, if_neg (by decide), if_neg (by decide), if_neg (by decide), bs_, if_pos rfl, if_neg (by decide), if_pos (by decide), D_X11_landLine_65, if_pos rfl]
  · rw [D_X11_landLine, D_X11_kindBy, if_neg (by decide), if_neg (by decide), if_neg (by decide), bs_, if_pos rfl, if_neg (by decide), if_neg (by decide), if_pos (by decide), D_X11_landLine_65, if_pos rfl]
  · rw [D_X11_landLine, D_X11_kindBy, if_neg (by decide), if_neg (by decide), if_neg (by decide), bs_, if_pos rfl, if_neg (by decide), if_neg (by decide), if_neg (by decide), if_pos (by decide), D_X11_landLine_65, if_pos rfl]
  · rw [D_X11_landLine, D_X11_kindBy, if_neg (by decide), if_neg (by decide), if_neg (by decide), bs_, if_pos rfl, if_neg (by decide), if_neg (by decide), if_neg (by decide), if_neg (by decide), if_pos (by decide), D_X11_landLine_65, if_pos rfl]
  · rw [D_X11_landLine, D_X11_kindBy, if_neg (by decide), if_neg (by decide), if_neg (by decide), bs_, if_pos rfl, if_neg (by decide), if_neg (by decide), if_neg (by decide), if_neg (by decide), if_neg (by decide), if_pos (by decide), D_X11_landLine_65, if_pos rfl]
theorem lineOf0 {K : I_T} {L : L_T} {v r : Int32} {wv : Int64} {K3 : I_T} {L3 : L_T} (h : D_X11_landLine Z K L R 68 wv v = some (r, K3, L3)) (hb : isb r = true) : D_X11_lineOf Z K L R 68 (nI 0) wv v = some (r, K3, L3) := by
  rw [D_X11_lineOf, bs_, if_pos (show nI 0 = 0 from rfl)]
  exact wrap_ok h hb
theorem lineOf1 {K : I_T} {L : L_T} {v r : Int32} {wv : Int64} {K3 : I_T} {L3 : L_T} (h : D_X11_dayLine Z K L R 68 wv v = some (r, K3, L3)) (hb : isb r = true) : D_X11_lineOf Z K L R 68 (nI 1) wv v = some (r, K3, L3) := by
  rw [D_X11_lineOf, bs_, if_neg (show ¬ nI 1 = 0 by decide), if_pos (show nI 1 = 1 from rfl)]
  exact wrap_ok h hb
theorem lineOf2 {K : I_T} {L : L_T} {v r : Int32} {wv : Int64} {K3 : I_T} {L3 : L_T} (h : D_X11_routeLine Z K L R 68 wv v = some (r, K3, L3)) (hb : isb r = true) : D_X11_lineOf Z K L R 68 (nI 2) wv v = some (r, K3, L3) := by
  rw [D_X11_lineOf, bs_, if_neg (show ¬ nI 2 = 0 by decide), if_neg (show ¬ nI 2 = 1 by decide), if_pos (show nI 2 = 2 from rfl)]
  exact wrap_ok h hb
theorem lineOf3 {K : I_T} {L : L_T} {v r : Int32} {wv : Int64} {K3 : I_T} {L3 : L_T} (h : D_X11_sightLine Z K L R 68 wv v = some (r, K3, L3)) (hb : isb r = true) : D_X11_lineOf Z K L R 68 (nI 3) wv v = some (r, K3, L3) := by
  rw [D_X11_lineOf, bs_, if_neg (show ¬ nI 3 = 0 by decide), if_neg (show ¬ nI 3 = 1 by decide), if_neg (show ¬ nI 3 = 2 by decide)]
  exact wrap_ok h hb
theorem disp_size {K K2 : I_T} {L L2 : L_T} {v r : Int32} {K3 : I_T} {L3 : L_T} (ht : D_X11_token Z K L R 68 = some (K2, L2)) (h : D_X11_sizeLine Z K2 L2 R 68 = some (r, K3, L3)) (hb : isb r = true) : D_X11_lineOf Z K L R 68 (nI 0) (cst 0) v = some (r, K3, L3) := by
  refine lineOf0 ?_ hb
  rw [landW (by omega), D_X11_landLine_78, ht, bs_, if_pos rfl]
  dsimp only
  rw [if_pos (by decide), D_X11_landLine_119, if_pos (by decide)]
  exact wrap_ok h hb
theorem disp_row {K K2 : I_T} {L L2 : L_T} {v r : Int32} {K3 : I_T} {L3 : L_T} (ht : D_X11_token Z K L R 68 = some (K2, L2)) (h : D_X11_rowLine Z K2 L2 R 68 = some (r, K3, L3)) (hb : isb r = true) : D_X11_lineOf Z K L R 68 (nI 0) (cst 1) v = some (r, K3, L3) := by
  refine lineOf0 ?_ hb
  rw [landW (by omega), D_X11_landLine_78, ht, bs_, if_pos rfl]
  dsimp only
  rw [if_neg (by decide), if_pos (by decide), D_X11_landLine_119, if_neg (by decide), if_pos (by decide)]
  exact wrap_ok h hb
theorem disp_work {K K2 : I_T} {L L2 : L_T} {v r : Int32} {K3 : I_T} {L3 : L_T} (ht : D_X11_token Z K L R 68 = some (K2, L2)) (h : D_X11_workLine Z K2 L2 R 68 = some (r, K3, L3)) (hb : isb r = true) : D_X11_lineOf Z K L R 68 (nI 0) (cst 5) v = some (r, K3, L3) := by
  refine lineOf0 ?_ hb
  rw [landW (by omega), D_X11_landLine_78, ht, bs_, if_pos rfl]
  dsimp only
  rw [if_neg (by decide), if_neg (by decide), if_pos (by decide), D_X11_landLine_119, if_neg (by decide), if_neg (by decide)]
  exact wrap_ok h hb
theorem disp_level {K K2 : I_T} {L L2 : L_T} {v r : Int32} {K3 : I_T} {L3 : L_T} (ht : D_X11_token Z K L R 68 = some (K2, L2)) (h : D_X11_plainLine Z K2 L2 R 68 2 0 9 = some (r, K3, L3)) (hb : isb r = true) : D_X11_lineOf Z K L R 68 (nI 0) (cst 2) v = some (r, K3, L3) := by
  refine lineOf0 ?_ hb
  rw [landW (by omega), D_X11_landLine_78, ht, bs_, if_pos rfl]
  dsimp only
  rw [if_neg (by decide), if_neg (by decide), if_neg (by decide), if_pos (by decide)]
  exact wrap_ok h hb
theorem disp_hour {K K2 : I_T} {L L2 : L_T} {v r : Int32} {K3 : I_T} {L3 : L_T} (ht : D_X11_token Z K L R 68 = some (K2, L2)) (h : D_X11_plainLine Z K2 L2 R 68 3 1 60 = some (r, K3, L3)) (hb : isb r = true) : D_X11_lineOf Z K L R 68 (nI 0) (cst 3) v = some (r, K3, L3) := by
  refine lineOf0 ?_ hb
  rw [landW (by omega), D_X11_landLine_78, ht, bs_, if_pos rfl]
  dsimp only
  rw [if_neg (by decide), if_neg (by decide), if_neg (by decide), if_neg (by decide), if_pos (by decide)]
  exact wrap_ok h hb
theorem disp_afloat {K K2 : I_T} {L L2 : L_T} {v r : Int32} {K3 : I_T} {L3 : L_T} (ht : D_X11_token Z K L R 68 = some (K2, L2)) (h : D_X11_plainLine Z K2 L2 R 68 4 0 20 = some (r, K3, L3)) (hb : isb r = true) : D_X11_lineOf Z K L R 68 (nI 0) (cst 4) v = some (r, K3, L3) := by
  refine lineOf0 ?_ hb
  rw [landW (by omega), D_X11_landLine_78, ht, bs_, if_pos rfl]
  dsimp only
  rw [if_neg (by decide), if_neg (by decide), if_neg (by decide), if_neg (by decide), if_neg (by decide)]
  exact wrap_ok h hb
theorem disp_person {K K1 K2 : I_T} {L L2 : L_T} {v r : Int32} {K3 : I_T} {L3 : L_T} {w : Nat} (hw : 6 ≤ w) (hw2 : w ≤ 8) (hf : D_X11_full Z K L R 68 5 5 v = some K1) (ht : D_X11_token Z K1 L R 68 = some (K2, L2)) (h : D_X11_personLine Z K2 L2 R 68 (nI (w - 6)) = some (r, K3, L3)) (hb : isb r = true) : D_X11_lineOf Z K L R 68 (nI 0) (cst w) v = some (r, K3, L3) := by
  refine lineOf0 ?_ hb
  have kb : D_X11_kindBy Z K L R (cst w) = some (nI (w - 6)) := by
    have : w = 6 ∨ w = 7 ∨ w = 8 := by omega
    rcases this with rfl | rfl | rfl
    · rw [D_X11_kindBy, if_pos (by decide)]; rfl
    · rw [D_X11_kindBy, if_neg (by decide), if_pos (by decide)]; rfl
    · rw [D_X11_kindBy, if_neg (by decide), if_neg (by decide), if_pos (by decide)]; rfl
  have n1 : ¬ nI (w - 6) = -1 := nI_neg1 (by omega)
  rw [D_X11_landLine, kb, bs_, if_neg n1, D_X11_landLine_65, if_neg n1, hf, bs_, D_X11_landLine_78, ht, bs_, if_neg n1]
  exact wrap_ok h hb
theorem disp_day {K K1 K2 : I_T} {L L2 : L_T} {v r : Int32} {K3 : I_T} {L3 : L_T} {w : Nat} (r20 : R 68 20 = some 79) (z79 : Z 79 = 4) (hw : 9 ≤ w) (hw2 : w ≤ 13) (hf : D_X11_full Z K L R 68 0 40 v = some K1) (ht : D_X11_token Z K1 L R 68 = some (K2, L2)) (h : D_X11_dayLine_51 Z (up2 K2 79 2 (-1)) L2 R 68 (nI (w - 9)) (if w = 13 then 9 else 4) 0 1 68 = some (r, K3, L3)) (hb : isb r = true) : D_X11_lineOf Z K L R 68 (nI 1) (cst w) v = some (r, K3, L3) := by
  refine lineOf1 ?_ hb
  have kb : D_X11_deedBy Z K L R (cst w) = some (nI (w - 9)) := by
    have : w = 9 ∨ w = 10 ∨ w = 11 ∨ w = 12 ∨ w = 13 := by omega
    rcases this with rfl | rfl | rfl | rfl | rfl
    · rw [D_X11_deedBy, if_pos (by decide)]; rfl
    · rw [D_X11_deedBy, if_neg (by decide), if_pos (by decide)]; rfl
    · rw [D_X11_deedBy, if_neg (by decide), if_neg (by decide), if_pos (by decide)]; rfl
    · rw [D_X11_deedBy, if_neg (by decide), if_neg (by decide), if_neg (by decide), if_pos (by decide)]; rfl
    · rw [D_X11_deedBy, if_neg (by decide), if_neg (by decide), if_neg (by decide), if_neg (by decide), if_pos (by decide)]; rfl
  have n1 : ¬ nI (w - 9) = -1 := nI_neg1 (by omega)
  rw [D_X11_dayLine, kb, bs_, if_neg n1, hf, bs_, ht, bs_, r20, bs_, z79, if_pos (show inb 2 4 = true from rfl), bs_, show (2 : Int32).toNatClampNeg = 2 from rfl]
  by_cases z : w = 13
  · rw [if_pos (show nI (w - 9) = 4 by rw [z]; rfl)]
    rw [if_pos z] at h
    exact h
  · rw [if_neg (fun u => by have := (nl_eq (k := 4) (j := 4) rfl (by omega) (by omega)).mp u; omega)]
    rw [if_neg z] at h
    exact h
theorem disp_from2 {K K2 : I_T} {L L2 : L_T} {v r : Int32} {K3 : I_T} {L3 : L_T} (ht : D_X11_token Z K L R 68 = some (K2, L2)) (h : D_X11_fromLine Z K2 L2 R 68 = some (r, K3, L3)) (hb : isb r = true) : D_X11_lineOf Z K L R 68 (nI 2) (cst 14) v = some (r, K3, L3) := by
  refine lineOf2 ?_ hb
  rw [D_X11_routeLine, if_pos (by decide), D_X11_routeLine_21, if_neg (by decide), D_X11_routeLine_37, ht, bs_, if_pos (by decide)]
  exact wrap_ok h hb
theorem disp_leg {K K1 K2 : I_T} {L L2 : L_T} {v r : Int32} {K3 : I_T} {L3 : L_T} (hf : D_X11_full Z K L R 68 2 10 v = some K1) (ht : D_X11_token Z K1 L R 68 = some (K2, L2)) (h : mch Z R 15 0 (kKeep Z R 2 3 2 10) 2 0 K2 L2 = some (r, K3, L3)) (hb : isb r = true) : D_X11_lineOf Z K L R 68 (nI 2) (cst 15) v = some (r, K3, L3) := by
  refine lineOf2 ?_ hb
  rw [D_X11_routeLine, if_neg (by decide), if_pos (by decide), D_X11_routeLine_21, if_pos (by decide), hf, bs_, D_X11_routeLine_37, ht, bs_, if_neg (by decide)]
  exact h
theorem disp_from3 {K K2 : I_T} {L L2 : L_T} {v r : Int32} {K3 : I_T} {L3 : L_T} (ht : D_X11_token Z K L R 68 = some (K2, L2)) (h : D_X11_fromLine Z K2 L2 R 68 = some (r, K3, L3)) (hb : isb r = true) : D_X11_lineOf Z K L R 68 (nI 3) (cst 16) v = some (r, K3, L3) := by
  refine lineOf3 ?_ hb
  rw [D_X11_sightLine, if_pos (by decide), D_X11_sightLine_29, if_pos (by decide), D_X11_sightLine_45, ht, bs_, if_pos (by decide)]
  exact wrap_ok h hb
theorem disp_seen {K K1 K2 : I_T} {L L2 : L_T} {v r : Int32} {K3 : I_T} {L3 : L_T} (hf : D_X11_full Z K L R 68 2 10 v = some K1) (ht : D_X11_token Z K1 L R 68 = some (K2, L2)) (h : mch Z R 17 1 (kSeen Z R 1) 3 0 K2 L2 = some (r, K3, L3)) (hb : isb r = true) : D_X11_lineOf Z K L R 68 (nI 3) (cst 17) v = some (r, K3, L3) := by
  refine lineOf3 ?_ hb
  rw [D_X11_sightLine, if_neg (by decide), if_pos (by decide), D_X11_sightLine_29, if_neg (by decide), hf, bs_, D_X11_sightLine_45, ht, bs_, if_neg (by decide)]
  simp only [if_pos (show cst 17 = (1936024942 : Int64) by decide)]
  exact h
theorem disp_not {K K1 K2 : I_T} {L L2 : L_T} {v r : Int32} {K3 : I_T} {L3 : L_T} (hf : D_X11_full Z K L R 68 2 10 v = some K1) (ht : D_X11_token Z K1 L R 68 = some (K2, L2)) (h : mch Z R 18 1 (kSeen Z R 0) 3 0 K2 L2 = some (r, K3, L3)) (hb : isb r = true) : D_X11_lineOf Z K L R 68 (nI 3) (cst 18) v = some (r, K3, L3) := by
  refine lineOf3 ?_ hb
  rw [D_X11_sightLine, if_neg (by decide), if_neg (by decide), if_pos (by decide), D_X11_sightLine_29, if_neg (by decide), hf, bs_, D_X11_sightLine_45, ht, bs_, if_neg (by decide)]
  simp only [if_neg (show ¬ cst 18 = (1936024942 : Int64) by decide)]
  exact h
/-- no word of the sort -/
theorem disp_none {K : I_T} {L : L_T} {wv : Int64} {s b : Nat} (hs : s < 4) (h12 : K 68 12 = nI b) (v : Int32) (hw : ∀ w, rtF.getD s 0 ≤ w → w < rtF.getD (s + 1) 0 → ¬ wv = cst w) : D_X11_lineOf Z K L R 68 (nI s) wv v = some (0, up2 K 68 16 (nI b), L) := by
  have ef : D_X11_fails Z K L R 68 = some (0, up2 K 68 16 (nI b)) := by rw [D_X11_fails, h12, bs_]
  have i0 : isb 0 = true := by decide
  have : s = 0 ∨ s = 1 ∨ s = 2 ∨ s = 3 := by omega
  rcases this with rfl | rfl | rfl | rfl
  · refine lineOf0 ?_ i0
    have c : ∀ w, w < 9 → ¬ wv = cst w := fun w h => hw w (Nat.zero_le _) h
    rw [D_X11_landLine, D_X11_kindBy, if_neg (show ¬ wv = (7168366 : Int64) from c 6 (by omega)), if_neg (show ¬ wv = (426953501796 : Int64) from c 7 (by omega)), if_neg (show ¬ wv = (32488805071086962 : Int64) from c 8 (by omega)), bs_, if_pos rfl, if_neg (show ¬ wv = (1936292453 : Int64) from c 0 (by omega)), if_neg (show ¬ wv = (7499639 : Int64) from c 1 (by omega)), if_neg (show ¬ wv = (465558725996 : Int64) from c 2 (by omega)), if_neg (show ¬ wv = (1752135026 : Int64) from c 3 (by omega)), if_neg (show ¬ wv = (107092533797236 : Int64) from c 4 (by omega)), if_neg (show ¬ wv = (2003792491 : Int64) from c 5 (by omega)), ef, bs_]
    exact if_pos i0
  · refine lineOf1 ?_ i0
    have c : ∀ w, 9 ≤ w → w < 14 → ¬ wv = cst w := fun w h h2 => hw w h h2
    rw [D_X11_dayLine, D_X11_deedBy, if_neg (show ¬ wv = (26479 : Int64) from c 9 (by omega) (by omega)), if_neg (show ¬ wv = (2003792491 : Int64) from c 10 (by omega) (by omega)), if_neg (show ¬ wv = (2002872692 : Int64) from c 11 (by omega) (by omega)), if_neg (show ¬ wv = (1836019570 : Int64) from c 12 (by omega) (by omega)), if_neg (show ¬ wv = (465558725996 : Int64) from c 13 (by omega) (by omega)), bs_, if_pos rfl, ef, bs_]
    exact if_pos i0
  · refine lineOf2 ?_ i0
    have c : ∀ w, 14 ≤ w → w < 16 → ¬ wv = cst w := fun w h h2 => hw w h h2
    rw [D_X11_routeLine, if_neg (show ¬ wv = (1718775661 : Int64) from c 14 (by omega) (by omega)), if_neg (show ¬ wv = (7103847 : Int64) from c 15 (by omega) (by omega)), ef, bs_]
    exact if_pos i0
  · refine lineOf3 ?_ i0
    have c : ∀ w, 16 ≤ w → w < 19 → ¬ wv = cst w := fun w h h2 => hw w h h2
    rw [D_X11_sightLine, if_neg (show ¬ wv = (1718775661 : Int64) from c 16 (by omega) (by omega)), if_neg (show ¬ wv = (1936024942 : Int64) from c 17 (by omega) (by omega)), if_neg (show ¬ wv = (7237492 : Int64) from c 18 (by omega) (by omega)), ef, bs_]
    exact if_pos i0
end
