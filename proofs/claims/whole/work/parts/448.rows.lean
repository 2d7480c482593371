/-! texts: a row's heights, both sides -/
def HRel (c0 f0 : Nat) (J K : I_T) (r : Nat) : Prop := (∀ i, i < 64 → J 37 i = K 78 (21 + i) ∧ ∃ v, v ≤ 9 ∧ J 37 i = nI v) ∧ ∃ fc fr fm, c0 ≤ fc ∧ f0 ≤ fr ∧ J 35 9 = nI fc ∧ fc ≤ 7 ∧ FEq (K 68 21) fc ∧ J 35 10 = nI fr ∧ FEq (K 68 22) fm ∧ fm = max fr r ∧ fr ≤ 7
section
variable {Z : Nat → Nat} {L : L_T} {R : R_T} {n : Nat} {T : Nat → Nat}
theorem hstep_m {K : I_T} {F : Nat × Nat} (tp : TPm Z R K n T) (r19 : R 68 19 = some 78) (z78 : Z 78 = 149) (r20 : R 68 20 = some 79) (z79 : Z 79 = 4) {b x dn : Nat} (hb : b ≤ n) (hdn : dn ≤ 7) (hk : tkK T n b = 2) (mt : MTok K L T n b) (mf : MF K F) (wf : F.1 ≠ 0 → F.2 < b) (K0 : I_T) (L0 : L_T) : ∃ K' L', B_X11_rowLine_87 Z K0 L0 R 68 (nI dn) (nI (min x 8), K, L) = some (.inl (nI (min (x + 1) 8), K', L')) ∧ MTok K' L' T n (nbt T n b) ∧ MF K' (hF T n x b F) ∧ MHr K L K' L' ∧ (x < 8 → K' 78 (21 + 8 * dn + x) = nI (tkV T n b) ∧ (∀ i, i ≠ 21 + 8 * dn + x → K' 78 i = K 78 i) ∧ K' 68 21 = grt (K 68 21) (nI x)) ∧ K' 68 22 = K 68 22 := by
  have n600 := tp.2.1
  obtain ⟨m1, m2, m3, m4, m5⟩ := id mt
  have k13 : K 68 13 = 3 := by rw [m3, hk]; rfl
  have e110 : ∀ K1 F1, (∀ a, a ≠ 68 → K1 a = K a) → (∀ j, j ≠ 17 → j ≠ 18 → K1 68 j = K 68 j) → MTok K1 L T n b → MF K1 F1 → (if okv 0 9 (tkV T n b) = true then F1 else lF 2 b F1) = hF T n x b F → ∃ K' L', D_X11_rowLine_110 Z K1 L R 68 (nI dn) (nI (min x 8)) = some (.inl (nI (min (x + 1) 8), K', L')) ∧ MTok K' L' T n (nbt T n b) ∧ MF K' (hF T n x b F) ∧ MHr K L K' L' ∧ (x < 8 → K' 78 (21 + 8 * dn + x) = nI (tkV T n b) ∧ (∀ i, i ≠ 21 + 8 * dn + x → K' 78 i = K 78 i) ∧ K' 68 21 = grt (K 68 21) (nI x)) ∧ K' 68 22 = K 68 22 := fun K1 F1 f1 f2 mt1 mf1 eF => by
    obtain ⟨K2, L2, a1, a2, a3, a4, a5, a6, a6', a7⟩ := mtake_ok (lo := 0) (hi := 9) (q := 1) (tp.fr (K' := K1) (f2 11 (by omega) (by omega)) (f1 69 (by omega))) r20 z79 hb hk mt1 mf1 (by omega) (by omega) (by omega)
    rw [eF] at a3
    rw [D_X11_rowLine_110, show (1 : Int32) = nI 1 from rfl, show (0 : Int32) = nI 0 from rfl, show (9 : Int32) = nI 9 from rfl, a1, bs_]
    have mh : MHr K L K2 L2 := ⟨fun a a1 a2 a3 => by rw [a7.1 a a1 a3, f1 a a1], fun j hj => by rw [a7.2.1 j (by omega), f2 j (by omega) (by omega)], fun j _ => by rw [a7.1 78 (by omega) (by omega), f1 78 (by omega)], a7.2.2.1, a7.2.2.2⟩
    by_cases z : x < 8
    · have lt : nI (min x 8) < 8 := (nl_lt (k := 8) (j := 8) rfl (by omega) (by omega)).mpr (by omega)
      have ix : (21 : Int32) + 8 * nI dn + nI (min x 8) = nI (21 + 8 * dn + x) := by
        rw [show (21 : Int32) = nI 21 from rfl, show (8 : Int32) = nI 8 from rfl, nI_mul, nI_add, nI_add, Nat.min_eq_left (by omega)]
      rw [if_pos lt, r19, bs_, r20, bs_, z79, if_pos (inb_nI (j := 1) (by omega) (by omega)), z78, ix, if_pos (inb_nI (by omega) (by omega)), bs_, cl_nI (by omega), cl_nI (j := 1) (by omega)]
      dsimp only
      rw [a4, grt_ok, bs_, bs_, up2_ne (show (68 : Nat) ≠ 78 by omega), nI_add]
      refine ⟨_, L2, by rw [show min x 8 + 1 = min (x + 1) 8 by omega], a2.fr (fun j hj => by rw [up2_j (by omega), up2_ne (by omega)]), a3.fr (by rw [up2_j (by omega), up2_ne (by omega)]) (by rw [up2_j (by omega), up2_ne (by omega)]), ⟨fun a a1 a2 a3 => by rw [up2_ne a1, up2_ne a2]; exact mh.1 a a1 a2 a3, fun j hj => by rw [up2_j (by omega), up2_ne (by omega)]; exact mh.2.1 j hj, fun j hj => by rw [up2_ne (by omega), up2_j (by omega)]; exact mh.2.2.1 j hj, mh.2.2.2⟩, fun _ => ⟨by rw [up2_ne (by omega), up2_s], fun i hi => by rw [up2_ne (by omega), up2_j hi, a7.1 78 (by omega) (by omega), f1 78 (by omega)], ?_⟩, ?_⟩
      · rw [up2_s, a7.2.1 21 (by omega), f2 21 (by omega) (by omega), Nat.min_eq_left (by omega)]
      · rw [up2_j (by omega), up2_ne (by omega), a7.2.1 22 (by omega), f2 22 (by omega) (by omega)]
    · rw [if_neg (show ¬ nI (min x 8) < 8 from fun u => by have := (nl_lt (k := 8) (j := 8) rfl (by omega) (by omega)).mp u; omega)]
      exact ⟨K2, L2, by rw [show min x 8 = min (x + 1) 8 by omega], a2, a3, mh, fun y => (z y).elim, by rw [a7.2.1 22 (by omega), f2 22 (by omega) (by omega)]⟩
  have hm := hF_m (T := T) (n := n) (x := x) wf
  unfold B_X11_rowLine_87
  dsimp only
  rw [if_pos k13]
  by_cases z : 8 ≤ x
  · rw [if_pos z] at hm
    obtain ⟨K1, c1, c2, c3, c4⟩ := later_ok (Z := Z) (L := L) (R := R) (w := 3) (b := b) mf (by omega) (by omega)
    rw [if_pos (show nI (min x 8) = 8 from congrArg nI (show min x 8 = 8 by omega)), m2, show (3 : Int32) = nI 3 from rfl, c1, bs_]
    exact e110 K1 _ c3 c4 (mt.fr (fun j hj => c4 j (by omega) (by omega))) c2 hm
  · rw [if_neg z] at hm
    rw [if_neg (fun u => by have := (nl_eq (k := 8) (j := 8) rfl (by omega) (by omega)).mp u; omega)]
    exact e110 K F (fun _ _ => rfl) (fun _ _ _ => rfl) mt mf hm
/-- a row's heights, both sides -/
theorem hts_two (r0 : R 35 0 = some 36) (r6 : R 36 6 = some 37) (z37 : Z 37 = 64) (r19 : R 68 19 = some 78) (z78 : Z 78 = 149) (r20 : R 68 20 = some 79) (z79 : Z 79 = 4) {r : Nat} (hr2 : r < 100) (J0 : I_T) : ∀ k x b F J, n - b ≤ k → b ≤ n → x ≤ b → TPc Z R J n T → CTok J T n b → CF J F → (F.1 = 0 → r ≤ 7) → ∃ J', itC (B_X5_readHeights_49 Z J0 L R 35 7 (nI r)) (nI x, J) = some J' ∧ CTok J' T n (hts T n k x b F).1 ∧ CF J' (hts T n k x b F).2 ∧ HFr J J' ∧ (hts T n k x b F).1 ≤ n ∧ tkK T n (hts T n k x b F).1 ≠ 2 ∧ ((hts T n k x b F).2.1 = 0 → F.1 = 0) ∧ ∀ K LK dn K0 L0 c0 f0, TPm Z R K n T → MTok K LK T n b → MF K F → (F.1 ≠ 0 → F.2 < b) → dn ≤ 7 → (F.1 = 0 → dn = r ∧ HRel c0 f0 J K r) → ∃ K' L', itC (B_X11_rowLine_87 Z K0 L0 R 68 (nI dn)) (nI (min x 8), K, LK) = some (1, K', L') ∧ MTok K' L' T n (hts T n k x b F).1 ∧ MF K' (hts T n k x b F).2 ∧ ((hts T n k x b F).2.1 ≠ 0 → (hts T n k x b F).2.2 < (hts T n k x b F).1) ∧ MHr K LK K' L' ∧ ((hts T n k x b F).2.1 = 0 → HRel c0 f0 J' K' r) := by
  have stop : ∀ x b F J, b ≤ n → x ≤ b → TPc Z R J n T → CTok J T n b → CF J F → ¬ tkK T n b = 2 → ∃ J', itC (B_X5_readHeights_49 Z J0 L R 35 7 (nI r)) (nI x, J) = some J' ∧ CTok J' T n b ∧ CF J' F ∧ HFr J J' ∧ b ≤ n ∧ tkK T n b ≠ 2 ∧ (F.1 = 0 → F.1 = 0) ∧ ∀ K LK dn K0 L0 c0 f0, TPm Z R K n T → MTok K LK T n b → MF K F → (F.1 ≠ 0 → F.2 < b) → dn ≤ 7 → (F.1 = 0 → dn = r ∧ HRel c0 f0 J K r) → ∃ K' L', itC (B_X11_rowLine_87 Z K0 L0 R 68 (nI dn)) (nI (min x 8), K, LK) = some (1, K', L') ∧ MTok K' L' T n b ∧ MF K' F ∧ (F.1 ≠ 0 → F.2 < b) ∧ MHr K LK K' L' ∧ (F.1 = 0 → HRel c0 f0 J' K' r) := fun x b F J hb hx tp ct cf hk => by
    have k4 := tkK_le T n b
    have n600 := tp.2.1
    refine ⟨J, itC_inr ?_, ct, cf, HFr.rfl, hb, hk, id, fun K LK dn K0 L0 c0 f0 tpm mt mf wf hdn hrel => ⟨K, LK, itC_inr ?_, mt, mf, wf, MHr.rfl, fun z => (hrel z).2⟩⟩
    · unfold B_X5_readHeights_49
      dsimp only
      rw [if_neg (show ¬ (600 : Int32) < nI x from fun u => by have := (ln_lt (k := 600) (j := 600) rfl (by omega) (by omega)).mp u; omega), if_neg (show ¬ J 35 7 = 2 by rw [ct.2.2.1]; exact fun u => hk ((nl_eq (k := 2) (j := 2) rfl (by omega) (by omega)).mp u))]
    · have k3 := mkK_3 (tkK T n b) (by omega)
      unfold B_X11_rowLine_87
      dsimp only
      rw [if_neg (show ¬ K 68 13 = 3 by rw [mt.2.2.1]; exact fun u => hk (k3.1.mp ((nl_eq (k := 3) (j := 3) rfl (by omega) (by omega)).mp u)))]
  intro k
  induction k with
  | zero =>
    intro x b F J hk hb hx tp ct cf hr
    exact stop x b F J hb hx tp ct cf (fun z => by have := tkK_lt (T := T) (n := n) (b := b) (by omega); omega)
  | succ k ih =>
    intro x b F J hk hb hx tp ct cf hr
    have n600 := tp.2.1
    by_cases h2 : tkK T n b = 2
    · have e : hts T n (k + 1) x b F = hts T n k (x + 1) (nbt T n b) (hF T n x b F) := if_pos h2
      rw [e]
      have bn := nbt_gt (T := T) (tkK_lt (T := T) (n := n) (b := b) (by omega))
      have hF0 : (hF T n x b F).1 = 0 → F.1 = 0 ∧ x < 8 ∧ tkV T n b ≤ 9 := fun z => by
        obtain ⟨y1, y2⟩ := fN_0 (by omega) z
        obtain ⟨y3, y4⟩ := fN_0 (by omega) y2
        exact ⟨y4, of_decide_eq_true y1, (of_decide_eq_true y3).2⟩
      obtain ⟨J1, s1, s2, s3, s4, s5⟩ := hstep_c (L := L) (x := x) tp r0 r6 z37 hb (by omega) (fun z => hr (hF0 z).1) hr2 h2 ct cf J0
      obtain ⟨J', a1, a2, a3, a4, a5, a6, a7, a8⟩ := ih (x + 1) (nbt T n b) (hF T n x b F) J1 (by omega) (nbt_le hb) (by omega) (tp.fr (s4.1 7 (by omega) (by omega)) (s4.1 8 (by omega) (by omega))) s2 s3 (fun z => hr (hF0 z).1)
      refine ⟨J', (itC_inl s1).trans a1, a2, a3, s4.trans a4, a5, a6, fun z => (hF0 (a7 z)).1, fun K LK dn K0 L0 c0 f0 tpm mt mf wf hdn hrel => ?_⟩
      obtain ⟨K1, L1, m1, m2, m3, m4, m5, m6⟩ := hstep_m (L := LK) (x := x) tpm r19 z78 r20 z79 hb hdn h2 mt mf wf K0 L0
      obtain ⟨K', L', b1, b2, b3, b4, b5, b6⟩ := a8 K1 L1 dn K0 L0 c0 f0 (tpm.fr (m4.2.1 11 (by omega)) (m4.1 69 (by omega) (by omega) (by omega))) m2 m3 (fN_wf (fN_wf (fun z => Nat.lt_trans (wf z) bn) bn) bn) hdn (fun z => by
        obtain ⟨y1, y2, y3⟩ := hF0 z
        obtain ⟨h1, hh2, fc, fr, fm, gc, gf, g1, g2, g3, g4, g5, g6, g7⟩ := hrel y1
        obtain ⟨p1, p2, p3, p4⟩ := s5 z
        obtain ⟨q1, q2, q3⟩ := m5 y2
        have r7 := hr y1
        refine ⟨h1, fun i hi => ?_, max fc x, max fr r, fm, by omega, by omega, ?_, ?_, ?_, ?_, by rw [m6]; exact g5, by omega, by omega⟩
        · by_cases y : i = r * 8 + x
          · rw [y, p1, show 21 + (r * 8 + x) = 21 + 8 * dn + x by omega, q1]
            exact ⟨rfl, _, y3, rfl⟩
          · rw [p2 i y, q2 (21 + i) (by omega)]
            exact hh2 i hi
        · rw [p3, g1]
          exact imax_nI (by omega) (by omega)
        · omega
        · rw [q3]
          exact FEq_grt g3 (by omega) (by omega)
        · rw [p4, g4]
          exact imax_nI (by omega) (by omega))
      exact ⟨K', L', (itC_inl m1).trans b1, b2, b3, b4, m4.trans b5, b6⟩
    · have e : hts T n (k + 1) x b F = (b, F) := if_neg h2
      rw [e]
      exact stop x b F J hb hx tp ct cf h2
end
