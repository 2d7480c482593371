/-! texts: all lines, both sides -/
section
variable {Z : Nat → Nat} {L : L_T} {R : R_T} {n : Nat} {T : Nat → Nat}
theorem ln_none {s b i : Nat} {F : Nat × Nat} {J : I_T} {wv : Int64} (hs : s < 4) (hb : b ≤ n) (ct : CTok J T n b) (hw : ∀ w, rtF.getD s 0 ≤ w → w < rtF.getD (s + 1) 0 → ¬ wv = cst w) : LRes Z R T n s b i F J L (-1) wv := by
  obtain ⟨Jh, h1, h2, h3, h4⟩ := halt_ok (Z := Z) (L := L) (R := R) ct.2.1
  refine ⟨false, b, F, Jh, fun y => Bool.noConfusion y, hb, ?_, h4, fun y => Bool.noConfusion y, fun _ => ⟨h2, h3⟩, fun K LK tpm mt mf wf h23 safe dr => ?_⟩
  · rw [D_X5_readLines_39, if_pos rfl, h1, bs_, if_neg (fun y => Bool.noConfusion y)]
  · have lo := disp_none (Z := Z) (R := R) (L := LK) hs mt.2.1 (nI b) hw
    exact ⟨_, LK, m41_no lo, ⟨fun a a1 a2 a3 => up2_ne a1, fun j hj => up2_j (by omega), fun _ _ => rfl⟩, fun y => Bool.noConfusion y, fun _ => up2_s _ _ _ _⟩
theorem ln_word {s w : Nat} (hs : s < 4) (h1 : rtF.getD s 0 ≤ w) (h2 : w < rtF.getD (s + 1) 0) (hr : ∀ (a j b : Nat), rlL.elem (a, j, b) = true → R a j = some b) (hz : ∀ (k n : Nat), zlL.elem (k, n) = true → Z k = n) {J : I_T} {F : Nat × Nat} {b i : Nat} (tp : TPc Z R J n T) (rt : RT Z J) (ct : CTok J T n b) (cf : CF J F) (hb : b < n) (hc : F.1 = 0 → CDr s J) : LRes Z R T n s b i F J L (nI w) (cst w) := by
  have : s = 0 ∨ s = 1 ∨ s = 2 ∨ s = 3 := by omega
  rcases this with rfl | rfl | rfl | rfl
  · have h2' : w < 9 := h2
    by_cases y0 : w = 0
    · subst y0; exact ln_size hr hz tp rt ct cf hb hc
    · by_cases y1 : w = 1
      · subst y1; exact ln_row hr hz tp rt ct cf hb hc
      · by_cases y4 : w ≤ 4
        · exact ln_plain (by omega) y4 hr hz tp rt ct cf hb hc
        · by_cases y5 : w = 5
          · subst y5; exact ln_work hr hz tp rt ct cf hb hc
          · exact ln_person (by omega) (by omega) hr hz tp rt ct cf hb hc
  · have h1' : 9 ≤ w := h1
    have h2' : w < 14 := h2
    exact ln_day h1' (by omega) hr hz tp rt ct cf hb hc
  · have h1' : 14 ≤ w := h1
    have h2' : w < 16 := h2
    by_cases y : w = 14
    · subst y; exact ln_from (Or.inl ⟨rfl, rfl⟩) hr hz tp rt ct cf hb hc
    · have : w = 15 := by omega
      subst this; exact ln_leg hr hz tp rt ct cf hb hc
  · have h1' : 16 ≤ w := h1
    have h2' : w < 19 := h2
    by_cases y : w = 16
    · subst y; exact ln_from (Or.inr ⟨rfl, rfl⟩) hr hz tp rt ct cf hb hc
    · exact ln_seen (by omega) hr hz tp rt ct cf hb hc
/-- the model's word at a token -/
noncomputable def wvl (T : Nat → Nat) (n b : Nat) : Int64 := if tkK T n b = 1 then tkW T b (tkE T n b - b) else 0
theorem ln_any {s : Nat} (hs : s < 4) (hr : ∀ (a j b : Nat), rlL.elem (a, j, b) = true → R a j = some b) (hz : ∀ (k n : Nat), zlL.elem (k, n) = true → Z k = n) {J : I_T} {F : Nat × Nat} {b i : Nat} (tp : TPc Z R J n T) (rt : RT Z J) (ct : CTok J T n b) (cf : CF J F) (hb : b < n) (hc : F.1 = 0 → CDr s J) : ∃ wnum, (tkK T n b = 1 → D_X5_wordNumber Z J L R 35 7 (nI s) = some wnum) ∧ (tkK T n b ≠ 1 → wnum = -1) ∧ LRes Z R T n s b i F J L wnum (wvl T n b) := by
  have rb : rtF.getD (s + 1) 0 ≤ 19 := (show ∀ s, s < 4 → rtF.getD (s + 1) 0 ≤ 19 by decide) s hs
  have te := tkE_ge (T := T) (show b ≤ n by omega)
  unfold wvl
  by_cases h1 : tkK T n b = 1
  · rw [if_pos h1]
    obtain ⟨_, lt⟩ := tk_let h1
    obtain ⟨r, r1, r2⟩ := wordNumber_ok (L := L) tp rt te.2 te.1 ct.1 ct.2.1 hs
    refine ⟨r, fun _ => r1, fun u => (u h1).elim, ?_⟩
    rcases r2 with ⟨w, w1, w2, w3, rfl⟩ | ⟨rfl, nw⟩
    · rw [(word_cst lt (show w < 19 by omega)).mpr w3]
      exact ln_word hs w1 w2 hr hz tp rt ct cf hb hc
    · exact ln_none hs (by omega) ct (fun w w1 w2 u => nw w w1 w2 ((word_cst lt (show w < 19 by omega)).mp u))
  · rw [if_neg h1]
    exact ⟨-1, fun u => (h1 u).elim, fun _ => rfl, ln_none hs (by omega) ct (fun w w1 w2 u => (cst_pk w (by omega)).2 u.symm)⟩
theorem LFc.rfl {J : I_T} : LFc J J := fun _ _ => Eq.refl _
theorem LFm.rfl {K : I_T} {L : L_T} : LFm K L K L := ⟨fun _ _ _ _ => Eq.refl _, fun _ _ => Eq.refl _, fun _ _ => Eq.refl _⟩
/-- what is told by all lines, both sides -/
theorem lines_two {s : Nat} (hs : s < 4) (hr : ∀ (a j b : Nat), rlL.elem (a, j, b) = true → R a j = some b) (hz : ∀ (k n : Nat), zlL.elem (k, n) = true → Z k = n) (I0 : I_T) : ∀ k b i F J, n - b ≤ k → b ≤ n → i ≤ b → TPc Z R J n T → RT Z J → CTok J T n b → CF J F → (F.1 = 0 → CDr s J) → ∃ (fine : Bool) (bF : Nat) (FF : Nat × Nat) (J' : I_T), bF ≤ n ∧ itC (B_X5_readLines_7 Z I0 L R 35 7 (nI s)) (nI i, J) = some J' ∧ LFc J J' ∧ (fine = true → CF J' FF ∧ (FF.1 = 0 → CDr s J')) ∧ (fine = false → J' 35 2 = 1 ∧ J' 35 3 = nI bF) ∧ ∀ K LK K0 L0, TPm Z R K n T → MTok K LK T n b → MF K F → (F.1 ≠ 0 → F.2 < b) → Safe s K → (F.1 = 0 → DRel s J K) → ∃ K' L', itC (B_X11_lines_2 Z K0 L0 R 68 (nI s)) (1, K, LK) = some (bI fine, K', L') ∧ LFm K LK K' L' ∧ (fine = true → MF K' FF ∧ K' 68 12 = nI n ∧ (FF.1 = 0 → DRel s J' K')) ∧ (fine = false → K' 68 16 = nI bF) := by
  have stop : ∀ b i F J, b ≤ n → TPc Z R J n T → CTok J T n b → CF J F → (F.1 = 0 → CDr s J) → tkK T n b = 0 → ∃ (fine : Bool) (bF : Nat) (FF : Nat × Nat) (J' : I_T), bF ≤ n ∧ itC (B_X5_readLines_7 Z I0 L R 35 7 (nI s)) (nI i, J) = some J' ∧ LFc J J' ∧ (fine = true → CF J' FF ∧ (FF.1 = 0 → CDr s J')) ∧ (fine = false → J' 35 2 = 1 ∧ J' 35 3 = nI bF) ∧ ∀ K LK K0 L0, TPm Z R K n T → MTok K LK T n b → MF K F → (F.1 ≠ 0 → F.2 < b) → Safe s K → (F.1 = 0 → DRel s J K) → ∃ K' L', itC (B_X11_lines_2 Z K0 L0 R 68 (nI s)) (1, K, LK) = some (bI fine, K', L') ∧ LFm K LK K' L' ∧ (fine = true → MF K' FF ∧ K' 68 12 = nI n ∧ (FF.1 = 0 → DRel s J' K')) ∧ (fine = false → K' 68 16 = nI bF) := fun b i F J hb tp ct cf hc hk => by
    have bn : b = n := by
      by_cases z : b < n
      · have : ¬ tkK T n b = 0 := by
          unfold tkK
          rw [if_pos z]
          repeat' split
          all_goals omega
        exact (this hk).elim
      · omega
    refine ⟨true, n, F, J, Nat.le_refl _, itC_inr ?_, LFc.rfl, fun _ => ⟨cf, hc⟩, fun y => Bool.noConfusion y, fun K LK K0 L0 tpm mt mf wf safe dr => ⟨K, LK, itC_inr ?_, LFm.rfl, fun _ => ⟨mf, by rw [mt.2.1, bn], dr⟩, fun y => Bool.noConfusion y⟩⟩
    · unfold B_X5_readLines_7
      dsimp only
      by_cases z : (600 : Int32) < nI i
      · rw [if_pos z]
      · rw [if_neg z, if_pos (show J 35 7 = 0 by rw [ct.2.2.1, hk]; rfl)]
    · unfold B_X11_lines_2
      dsimp only
      rw [if_neg (show ¬ (1 : Int32) = 0 by decide), if_pos (show K 68 13 = 0 by rw [mt.2.2.1, hk]; rfl), if_pos (show isb 1 = true by decide)]
      rfl
  intro k
  induction k with
  | zero =>
    intro b i F J hk hb hi tp rt ct cf hc
    exact stop b i F J hb tp ct cf hc (by unfold tkK; rw [if_neg (by omega)])
  | succ k ih =>
    intro b i F J hk hb hi tp rt ct cf hc
    by_cases h0 : tkK T n b = 0
    · exact stop b i F J hb tp ct cf hc h0
    · have n600 := tp.2.1
      have hbn : b < n := tkK_lt (T := T) h0
      have k4 := tkK_le T n b
      obtain ⟨wnum, w1, w2, ok, b', F', J', l1, l2, l3, l4, l5, l6, l7⟩ := ln_any (L := L) (i := i) hs hr hz tp rt ct cf hbn hc
      have c39 : ∀ y, D_X5_readLines_39 Z J L R 35 7 (nI s) (nI i) wnum = some y → B_X5_readLines_7 Z I0 L R 35 7 (nI s) (nI i, J) = some y := fun y hy => by
        unfold B_X5_readLines_7
        dsimp only
        rw [if_neg (show ¬ (600 : Int32) < nI i from fun u => by have := (ln_lt (k := 600) (j := 600) rfl (by omega) (by omega)).mp u; omega), if_neg (show ¬ J 35 7 = 0 by rw [ct.2.2.1]; exact fun u => h0 ((nl_eq (k := 0) (j := 0) rfl (by omega) (by omega)).mp u))]
        by_cases h1 : tkK T n b = 1
        · rw [if_pos (show J 35 7 = 1 by rw [ct.2.2.1, h1]; rfl), w1 h1, bs_, hy]
        · rw [if_neg (show ¬ J 35 7 = 1 by rw [ct.2.2.1]; exact fun u => h1 ((nl_eq (k := 1) (j := 1) rfl (by omega) (by omega)).mp u)), ← w2 h1, hy]
      have m41 : ∀ K LK K0 L0, TPm Z R K n T → MTok K LK T n b → MF K F → (F.1 ≠ 0 → F.2 < b) → Safe s K → (F.1 = 0 → DRel s J K) → ∃ K' L', B_X11_lines_2 Z K0 L0 R 68 (nI s) (1, K, LK) = some (.inl (bI ok, K', L')) ∧ LFm K LK K' L' ∧ (ok = true → MTok K' L' T n b' ∧ MF K' F' ∧ (F'.1 ≠ 0 → F'.2 < b') ∧ Safe s K' ∧ (F'.1 = 0 → DRel s J' K')) ∧ (ok = false → K' 68 16 = nI b') := fun K LK K0 L0 tpm mt mf wf safe dr => by
        obtain ⟨K', L', p1, p2, p3, p4⟩ := l7 (up2 K 68 23 1) LK (tpm.fr (up2_j (by omega)) (up2_ne (by omega))) (mt.fr (fun j hj => up2_j (by omega))) (mf.fr (up2_j (by omega)) (up2_j (by omega))) wf (up2_s _ _ _ _) (by unfold Safe at safe ⊢; rw [up2_ne (by omega)]; exact safe) (fun z => (dr z).fr (fun _ _ _ => rfl) rfl rfl (up2_ne (by omega)) (up2_j (by omega)) (up2_j (by omega)))
        refine ⟨K', L', ?_, ⟨fun a a1 a2 a3 => by rw [p2.1 a a1 a2 a3, up2_ne a1], fun j hj => by rw [p2.2.1 j hj, up2_j (by omega)], p2.2.2⟩, p3, p4⟩
        have k3 := mkK_3 (tkK T n b) (by omega)
        unfold B_X11_lines_2
        dsimp only
        rw [if_neg (show ¬ (1 : Int32) = 0 by decide), if_neg (show ¬ K 68 13 = 0 by rw [mt.2.2.1]; exact fun u => h0 (k3.2.2.1.mp ((nl_eq (k := 0) (j := 0) rfl (by omega) (by omega)).mp u))), bs_, up2_j (show (13 : Nat) ≠ 23 by decide), mt.2.1]
        unfold wvl at p1
        by_cases h1 : tkK T n b = 1
        · rw [if_pos h1] at p1
          rw [if_pos (show K 68 13 = 2 by rw [mt.2.2.1, h1]; rfl), mt.2.2.2.2 h1]
          exact p1
        · rw [if_neg h1] at p1
          rw [if_neg (show ¬ K 68 13 = 2 by rw [mt.2.2.1]; exact fun u => h1 (k3.2.2.2.1.mp ((nl_eq (k := 2) (j := 2) rfl (by omega) (by omega)).mp u)))]
          exact p1
      cases ok with
      | false =>
        rw [if_neg (fun y => Bool.noConfusion y)] at l3
        obtain ⟨h2, h3⟩ := l6 rfl
        refine ⟨false, b', F', J', l2, itC_inr (c39 _ l3), l4, fun y => Bool.noConfusion y, fun _ => ⟨h2, h3⟩, fun K LK K0 L0 tpm mt mf wf safe dr => ?_⟩
        obtain ⟨K', L', p1, p2, p3, p4⟩ := m41 K LK K0 L0 tpm mt mf wf safe dr
        refine ⟨K', L', (itC_inl p1).trans (itC_inr ?_), p2, fun y => Bool.noConfusion y, p4⟩
        unfold B_X11_lines_2
        dsimp only
        rw [if_pos (show bI false = 0 from rfl), if_pos (show isb (bI false) = true by decide)]
      | true =>
        rw [if_pos rfl] at l3
        obtain ⟨h2, h3, h4⟩ := l5 rfl
        have bb := l1 rfl
        obtain ⟨fine, bF, FF, Jf, f1, f2, f3, f4, f5, f6⟩ := ih b' (i + 1) F' J' (by omega) l2 (by omega) (tp.fr (l4 7 (by omega)) (l4 8 (by omega))) (rt.keep (fun _ _ _ => rfl) (fun a a1 a4 => l4 a (by omega))) h2 h3 (fun z => (h4 z).2)
        refine ⟨fine, bF, FF, Jf, f1, (itC_inl (c39 _ l3)).trans f2, fun a ha => by rw [f3 a ha, l4 a ha], f4, f5, fun K LK K0 L0 tpm mt mf wf safe dr => ?_⟩
        obtain ⟨K', L', p1, p2, p3, p4⟩ := m41 K LK K0 L0 tpm mt mf wf safe dr
        obtain ⟨q1, q2, q3, q4, q5⟩ := p3 rfl
        obtain ⟨K'', L'', g1, g2, g3, g4⟩ := f6 K' L' K0 L0 (tpm.fr (p2.2.1 11 (by omega)) (p2.1 69 (by omega) (by omega) (by omega))) q1 q2 q3 q4 q5
        exact ⟨K'', L'', (itC_inl p1).trans g1, p2.trans g2, g3, g4⟩
end
