/-! texts: the lines of rows, both sides (2) -/
theorem hts_ge {T : Nat → Nat} {n : Nat} : ∀ k x b F, b ≤ (hts T n k x b F).1 := by
  intro k
  induction k with
  | zero => intro x b F; exact Nat.le_refl _
  | succ k ih =>
    intro x b F
    by_cases h : tkK T n b = 2
    · rw [show hts T n (k + 1) x b F = hts T n k (x + 1) (nbt T n b) (hF T n x b F) from if_pos h]
      exact Nat.le_trans (Nat.le_of_lt (nbt_gt (tkK_lt (T := T) (by omega)))) (ih _ _ _)
    · rw [show hts T n (k + 1) x b F = (b, F) from if_neg h]
      exact Nat.le_refl _
theorem MHr.l {K : I_T} {L : L_T} {K' : I_T} {L' : L_T} (h : MHr K L K' L') : LFm K L K' L' := ⟨h.1, fun j hj => h.2.1 j (by omega), h.2.2.2.1⟩
section
variable {Z : Nat → Nat} {L : L_T} {R : R_T} {n : Nat} {T : Nat → Nat}
theorem ln_row (hr : ∀ (a j b : Nat), rlL.elem (a, j, b) = true → R a j = some b) (hz : ∀ (k n : Nat), zlL.elem (k, n) = true → Z k = n) {J : I_T} {F : Nat × Nat} {b i : Nat} (tp : TPc Z R J n T) (rt : RT Z J) (ct : CTok J T n b) (cf : CF J F) (hb : b < n) (hc : F.1 = 0 → CDr 0 J) : LRes Z R T n 0 b i F J L (nI 1) (cst 1) := by
  have r19 := hr 68 19 78 rfl
  have r20 := hr 68 20 79 rfl
  have z78 := hz 78 149 rfl
  have z79 := hz 79 4 rfl
  have r0 := hr 35 0 36 rfl
  have r4 := hr 35 4 43 rfl
  have r6 := hr 36 6 37 rfl
  have z43 := hz 43 3 rfl
  have z37 := hz 37 64 rfl
  have n600 := tp.2.1
  have bn := nbt_gt (T := T) hb
  obtain ⟨J0, J2, a1, a2, a3, a4, a5, a6⟩ := cstart (L := L) (w := 1) (s := 0) tp rt r0 (hr 35 1 41 rfl) r4 z43 (show b ≤ n by omega) (by omega) (by omega) ct cf
  have nge : nbt T n b ≤ (nums T n 1 (nm_ 1) 0 (nbt T n b) (F0_ J 0 1 b F)).2.1 := nums_ge _ _ _ _
  have nk := nums_k (T := T) (n := n) (w := 1) (nm_ 1) 0 (nbt T n b) (F0_ J 0 1 b F)
  have no := nums_ok (T := T) (n := n) (w := 1) (nm_ 1) 0 (nbt T n b) (F0_ J 0 1 b F)
  generalize hN : nums T n 1 (nm_ 1) 0 (nbt T n b) (F0_ J 0 1 b F) = N at a1 a2 a3 a5 a6 nge nk no
  have eF : F0_ J 0 1 b F = F := by unfold F0_; rw [show fu 1 = false from rfl, Bool.false_and]; exact fN_t
  rw [eF] at no
  have wm1 : ¬ nI 1 = -1 := by decide
  have run := fun (K : I_T) (LK : L_T) => mrun (K := K) (LK := LK) (T := T) (w := 1) (s := 0) (q0 := 0) (k := kRow Z R) (wv := cst 1) (pre := fun K => K) (by omega) (by omega) (by decide) r19 z78 r20 z79 (fun _ _ _ => rfl) hb (fun K L K1 K2 L2 r K3 L3 h1 h2 ht h hbr => by
    rw [h2 rfl] at ht
    exact disp_row ht (row_mch.trans h) hbr) a4 hN
  by_cases hok : N.1 = true
  · rw [if_pos hok] at a1
    have v43 : J2 43 0 = nI (tkV T n (nbt T n b)) := a6 hok 0 (by decide)
    have v100 : tkV T n (nbt T n b) < 100 := tk_dig (nk hok 0 (by decide))
    have ov : N.2.2.1 = 0 → F.1 = 0 ∧ tkV T n (nbt T n b) ≤ 7 := fun z => by
      obtain ⟨y1, y2⟩ := no z
      have y3 : 0 ≤ tkV T n (nbt T n b) ∧ tkV T n (nbt T n b) ≤ 7 := of_decide_eq_true (y2 hok 0 (by decide))
      exact ⟨y1, y3.2⟩
    revert v43 v100 ov
    generalize hv : tkV T n (nbt T n b) = v
    intro v43 v100 ov
    obtain ⟨J8, c1, c2, c3⟩ := cclr (L := L) r0 r6 z37 a3 (fun z => (ov z).2) J2
    have ct8 : CTok J8 T n N.2.1 := a2.fr (fun j _ _ => by rw [c2 35 (by omega)])
    have cf8 : CF J8 N.2.2 := by
      unfold CF at a3 ⊢
      rw [c2 35 (by omega)]
      exact a3
    have tp8 : TPc Z R J8 n T := (tp.fr2 a4).fr (c2 7 (by omega)) (c2 8 (by omega))
    obtain ⟨J', d1, d2, d3, d4, d5, d6, d7, d8⟩ := hts_two (L := L) r0 r6 z37 r19 z78 r20 z79 v100 J8 (n - N.2.1) 0 N.2.1 N.2.2 J8 (Nat.le_refl _) a5 (Nat.zero_le _) tp8 ct8 cf8 (fun z => (ov z).2)
    have ege := hts_ge (T := T) (n := n) (n - N.2.1) 0 N.2.1 N.2.2
    generalize hE : hts T n (n - N.2.1) 0 N.2.1 N.2.2 = E at d2 d3 d5 d6 d7 d8 ege
    have tp' : TPc Z R J' n T := tp8.fr (d4.1 7 (by omega) (by omega)) (d4.1 8 (by omega) (by omega))
    obtain ⟨J'', e1, e2, e3, e4, e5⟩ := cend (L := L) (w := 1) (s := 0) tp' d5 d2 d3
    have rh : D_X5_readHeights Z J2 L R 35 7 = some J' := by
      have g0 : D_X10_get Z J2 L R 43 0 = some (J2 43 0) := get_ok (j := 0) (by omega) (by omega)
      rw [D_X5_readHeights, r4, bs_, g0, bs_, v43, D_X5_readHeights_11, show (0 : Int32) = nI 0 from rfl]
      exact c1 J' d1
    have e32 : ∀ y, D_X5_readLine_135 Z J' L R 35 7 (nI 0) (nI 1) = some y → D_X5_readLine Z J L R 35 7 (nI 0) (nI 1) = some y := fun y hy => by
      rw [a1]
      obtain ⟨⟨z1, z2, z3, z4⟩, i1, i2, i3, i4⟩ := rt.fr2 a4
      have gn : D_X10_get Z J2 L R 2 (nI 1) = some (nI 1) := by rw [get_ok (by omega) (by omega), i2 1 (by omega)]; rfl
      refine itC_inr ?_
      unfold B_X5_readLine_32
      dsimp only
      rw [gn, bs_, if_neg (show ¬ nI (nm_ 1) < nI 1 by decide), if_pos (show nI 1 = 1 from rfl), rh, bs_, hy, bs_]
    have o8 : ∀ a, a ≠ 35 → a ≠ 37 → a ≠ 43 → J'' a = J a := fun a h1 h2 h3 => by rw [e1.1 a h1 h3, d4.1 a h1 h2, c2 a h2, a4.1 a h1 h3]
    have kr := fun (K2 : I_T) (L2 : L_T) (q : K2 79 0 = nI v) => kRow_run r19 z78 r20 z79 v100 q L2
    -- the model up to behind the heights
    have mr : ∀ K LK, TPm Z R K n T → MTok K LK T n b → MF K F → (F.1 ≠ 0 → F.2 < b) → K 68 23 = 1 → Safe 0 K → (F.1 = 0 → DRel 0 J K) → ∃ K' L', D_X11_lineOf Z K LK R 68 (nI 0) (cst 1) (nI b) = some (1, K', L') ∧ MTok K' L' T n E.1 ∧ MF K' E.2 ∧ (E.2.1 ≠ 0 → E.2.2 < E.1) ∧ LFm K LK K' L' ∧ Safe 0 K' ∧ (E.2.1 = 0 → ∃ K2 c0 f0, LD J2 K2 ∧ HRel c0 f0 J' K' v ∧ J2 35 9 = nI c0 ∧ J2 35 10 = nI f0 ∧ c0 ≤ 7 ∧ f0 ≤ 7 ∧ ∀ j, j < 21 ∨ 85 ≤ j → K' 78 j = K2 78 j) := fun K LK tpm mt mf wf h23 safe dr => by
      obtain ⟨K2, L2, m1, m2, m3, m4, m5, m6, m7, m8, m9, m10, m11, m12⟩ := run K LK tpm mt mf wf h23 safe dr
      have q0 : K2 79 0 = nI v := by
        have := m10 hok 0 (by decide)
        rw [show itb T n 0 (nbt T n b) = nbt T n b from rfl, hv] at this
        exact this
      obtain ⟨K8, dn, k1, k2, k3, k4, k5, k6, k7, k8⟩ := kr K2 L2 q0
      have tp2 : TPm Z R K8 n T := tpm.fr (by rw [k5 11 (by omega), m6.2.1 11 (by omega)]) (by rw [k4 69 (by omega) (by omega), m6.1 69 (by omega) (by omega) (by omega)])
      have hl : N.2.2.1 = 0 → ∃ c0 f0, LD J2 K2 ∧ J2 35 9 = nI c0 ∧ J2 35 10 = nI f0 ∧ c0 ≤ 7 ∧ f0 ≤ 7 ∧ HRel c0 f0 J8 K8 v := fun z => by
        obtain ⟨f0, v7⟩ := ov z
        have ld : LD J2 K2 := (m8 f0 hok).1 rfl
        obtain ⟨g1, g2⟩ := c3 z
        have dv := k2 v7
        subst dv
        obtain ⟨c0, f0, h1, h2, h3, h4, h5⟩ := HRel.of v7 ld c2 g1 g2 k5 k6 k7 k8
        exact ⟨c0, f0, ld, h1, h2, h3, h4, h5⟩
      obtain ⟨c0, f0, hcf⟩ : ∃ c0 f0, (N.2.2.1 = 0 → LD J2 K2 ∧ J2 35 9 = nI c0 ∧ J2 35 10 = nI f0 ∧ c0 ≤ 7 ∧ f0 ≤ 7 ∧ HRel c0 f0 J8 K8 v) := by
        by_cases z : N.2.2.1 = 0
        · obtain ⟨c0, f0, h⟩ := hl z
          exact ⟨c0, f0, fun _ => h⟩
        · exact ⟨0, 0, fun y => (z y).elim⟩
      obtain ⟨K', L', p1, p2, p3, p4, p5, p6⟩ := d8 K8 L2 dn K8 L2 c0 f0 tp2 (m3.fr (fun j hj => k5 j (by omega))) (m4.fr (k5 17 (by omega)) (k5 18 (by omega))) m5 k1 (fun z => ⟨k2 (ov z).2, (hcf z).2.2.2.2.2⟩)
      have f8 : LFm K2 L2 K8 L2 := ⟨fun a h1 h2 _ => k4 a h1 h2, fun j hj => k5 j (by omega), fun _ _ => rfl⟩
      have n78 : ∀ j, j < 21 ∨ 85 ≤ j → K' 78 j = K2 78 j := fun j hj => by rw [p5.2.2.1 j hj, k8 j (by omega)]
      refine ⟨K', L', m1 1 K' L' (by rw [if_pos hok]; exact k3 _ p1) (by decide), p2, p3, p4, (m6.trans f8).trans p5.l, ?_, fun z => ?_⟩
      · obtain ⟨c, g1, g2⟩ := m7
        exact ⟨c, g1, (n78 5 (by omega)).trans g2⟩
      · obtain ⟨g1, g2, g3, g4, g5, g6⟩ := hcf (d7 z)
        exact ⟨K2, c0, f0, g1, p6 z, g2, g3, g4, g5, n78⟩
    have k4 := tkK_le T n E.1
    by_cases h3 : tkK T n E.1 = 3
    · obtain ⟨x1, x2⟩ := e4 h3
      have bgt := nbt_gt (T := T) (tkK_lt (T := T) (n := n) (b := E.1) (by omega))
      by_cases z : E.2.1 = 0
      · have f0 := (ov (d7 z)).1
        have v7 := (ov (d7 z)).2
        have cd : CDr 0 J'' := (hc f0).fr (by rw [o8 36 (by omega) (by omega) (by omega)]) (by rw [o8 41 (by omega) (by omega) (by omega)])
        have j43 : J'' 43 0 = nI v := by rw [e2, d4.1 43 (by omega) (by omega), c2 43 (by omega)]; exact v43
        have tk : D_X5_take Z J'' L R 35 (nI 0) (nI 1) = some (up2 (up2 J'' 35 9 (imax (J'' 35 9) 0)) 35 10 (imax (J'' 35 10) (nI v))) := by
          refine take_l r4 z43 ?_
          rw [D_X5_takeLand, bs_, if_neg (show ¬ nI 1 = 0 by decide), if_pos (show nI 1 = 1 from rfl), tellOf_ok, bs_, j43]
        rw [if_pos z, tk, bs_] at x2
        refine ⟨true, nbt T n E.1, E.2, up2 (up2 J'' 35 9 (imax (J'' 35 9) 0)) 35 10 (imax (J'' 35 10) (nI v)), fun _ => by omega, nbt_le d5, ?_, ?_, fun _ => ⟨?_, ?_, fun _ => ⟨f0, ?_⟩⟩, fun y => Bool.noConfusion y, fun K LK tpm mt mf wf h23 safe dr => ?_⟩
        · rw [D_X5_readLines_39, if_neg wm1, e32 _ x2, bs_]
          dsimp only
          rw [if_neg (show ¬ (1 : Int32) = 0 by decide), nI_1, if_pos rfl]
        · intro a ha
          rw [up2_ne (by omega), up2_ne (by omega)]
          exact o8 a (by omega) (by omega) (by omega)
        · exact x1.fr (fun j j1 j2 => by rw [up2_j (by omega), up2_j (by omega)])
        · unfold CF at e3 ⊢
          rw [up2_j (by omega), up2_j (by omega), up2_j (by omega), up2_j (by omega)]
          exact e3
        · exact cd.fr (by rw [up2_ne (by omega), up2_ne (by omega)]) (by rw [up2_ne (by omega), up2_ne (by omega)])
        · obtain ⟨K', L', l1, l2, l3, l4, l5, l6, l7⟩ := mr K LK tpm mt mf wf h23 safe dr
          have tp3 : TPm Z R K' n T := tpm.fr (l5.2.1 11 (by omega)) (l5.1 69 (by omega) (by omega) (by omega))
          obtain ⟨K4, L4, p1, p2, p3⟩ := m41_ok l1 tp3 d5 l2 h3
          obtain ⟨K2, c0, f0', g1, g2, g3, g4, g5, g6, g7⟩ := l7 z
          have ld4 : LD (up2 (up2 J'' 35 9 (imax (J'' 35 9) 0)) 35 10 (imax (J'' 35 10) (nI v))) K' := g1.row v7 g2 g3 g4 g5 g6 (fun a h1 h2 h3 => by rw [d4.1 a (by omega) h3, c2 a h3]) g7 _ (fun a h1 h2 => by rw [up2_ne (by omega), up2_ne (by omega), e1.1 a (by omega) (by omega)]) (by rw [up2_j (by omega), up2_s, e1.2 9 (by omega)]) (by rw [up2_s, e1.2 10 (by omega)])
          have dr4 := (dr0 ld4).fr (K' := K4) (fun _ _ _ => rfl) rfl rfl (p3.1 78 (by omega)) (p3.2.1 21 (by omega) (by omega) (by omega) (by omega)) (p3.2.1 22 (by omega) (by omega) (by omega) (by omega))
          exact ⟨K4, L4, p1, l5.trans p3.l, fun _ => ⟨p2, l3.fr (p3.2.1 17 (by omega) (by omega) (by omega) (by omega)) (p3.2.1 18 (by omega) (by omega) (by omega) (by omega)), fun y => by have := l4 y; omega, dr4.safe (by omega), fun _ => dr4⟩, fun y => Bool.noConfusion y⟩
      · rw [if_neg z] at x2
        refine ⟨true, nbt T n E.1, E.2, J'', fun _ => by omega, nbt_le d5, ?_, fun a ha => o8 a (by omega) (by omega) (by omega), fun _ => ⟨x1, e3, fun y => (z y).elim⟩, fun y => Bool.noConfusion y, fun K LK tpm mt mf wf h23 safe dr => ?_⟩
        · rw [D_X5_readLines_39, if_neg wm1, e32 _ x2, bs_]
          dsimp only
          rw [if_neg (show ¬ (1 : Int32) = 0 by decide), nI_1, if_pos rfl]
        · obtain ⟨K', L', l1, l2, l3, l4, l5, l6, l7⟩ := mr K LK tpm mt mf wf h23 safe dr
          have tp3 : TPm Z R K' n T := tpm.fr (l5.2.1 11 (by omega)) (l5.1 69 (by omega) (by omega) (by omega))
          obtain ⟨K4, L4, p1, p2, p3⟩ := m41_ok l1 tp3 d5 l2 h3
          refine ⟨K4, L4, p1, l5.trans p3.l, fun _ => ⟨p2, l3.fr (p3.2.1 17 (by omega) (by omega) (by omega) (by omega)) (p3.2.1 18 (by omega) (by omega) (by omega) (by omega)), fun y => by have := l4 y; omega, ?_, fun y => (z y).elim⟩, fun y => Bool.noConfusion y⟩
          unfold Safe at l6 ⊢
          rw [p3.1 78 (by omega)]
          exact l6
    · obtain ⟨x1, x2⟩ := e5 h3
      obtain ⟨Jh, h1, h2, h3', h4⟩ := halt_ok (Z := Z) (L := L) (R := R) x1.2.1
      refine ⟨false, E.1, E.2, Jh, fun y => Bool.noConfusion y, d5, ?_, fun a ha => by rw [h4 a ha]; exact o8 a (by omega) (by omega) (by omega), fun y => Bool.noConfusion y, fun _ => ⟨h2, h3'⟩, fun K LK tpm mt mf wf h23 safe dr => ?_⟩
      · rw [D_X5_readLines_39, if_neg wm1, e32 _ x2, bs_]
        dsimp only
        rw [if_pos rfl, h1, bs_, if_neg (fun y => Bool.noConfusion y)]
      · obtain ⟨K', L', l1, l2, l3, l4, l5, l6, l7⟩ := mr K LK tpm mt mf wf h23 safe dr
        have bad := m41_bad l1 l2 h3
        exact ⟨_, L', bad, ⟨fun a a1 a2 a3 => by rw [up2_ne a1]; exact l5.1 a a1 a2 a3, fun j hj => by rw [up2_j (by omega)]; exact l5.2.1 j hj, l5.2.2⟩, fun y => Bool.noConfusion y, fun _ => up2_s _ _ _ _⟩
  · rw [if_neg hok] at a1
    obtain ⟨Jh, h1, h2, h3, h4⟩ := halt_ok (Z := Z) (L := L) (R := R) a2.2.1
    refine ⟨false, N.2.1, N.2.2, Jh, fun y => Bool.noConfusion y, a5, ?_, fun a ha => by rw [h4 a ha, a4.1 a (by omega) (by omega)], fun y => Bool.noConfusion y, fun _ => ⟨h2, h3⟩, fun K LK tpm mt mf wf h23 safe dr => ?_⟩
    · rw [D_X5_readLines_39, if_neg wm1, a1, bs_]
      dsimp only
      rw [if_pos rfl, h1, bs_, if_neg (fun y => Bool.noConfusion y)]
    · obtain ⟨K2, L2, m1, m2, m3, m4, m5, m6, m7, m8, m9, m10, m11, m12⟩ := run K LK tpm mt mf wf h23 safe dr
      have hf : N.1 = false := by
        cases q : N.1 with
        | false => rfl
        | true => exact (hok q).elim
      have lo := m1 0 K2 L2 (by rw [if_neg hok]) (by decide)
      exact ⟨K2, L2, m41_no lo, m6, fun y => Bool.noConfusion y, fun _ => m2 hf⟩
end
