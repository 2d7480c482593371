/-! errands: the model's run, whole -/
theorem ord_loop {sh : sh_T} {I J0 : I_T} {L L' : L_T} {R : R_T} (h : Inv sh I L R) {kk : Nat} {d : ld_T} (vd : VD d) (hd0 : HD J0 kk d) {kd : Nat} (hkd : kd ≤ 2) {c0 : Nat} (h0 : c0 < cs_ d) (J9 : I_T) : ∀ u k, k + u = 81984 → ∀ (J : I_T) (e : Nat) (F O G T : Nat → Nat), k ≤ e → BFI d (lim_ d kd) c0 k e 0 F O G → TI k O G T → (∀ c, c < 64 → T c ≤ 1000000) → MB J e F O T → (∀ i, i ≠ 87 → i ≠ 88 → i ≠ 89 → J i = J0 i) → ∃ (J' : I_T) (e' : Nat) (F' O' G' T' : Nat → Nat), itC (B_X11_findErrands_75 sh.2.2 J9 L' R 68 (nI kd)) (nI e, nI k, J) = some J' ∧ BFI d (lim_ d kd) c0 e' e' 0 F' O' G' ∧ TI e' O' G' T' ∧ (∀ c, c < 64 → J' 89 c = nI (T' c)) ∧ ∀ i, i ≠ 87 → i ≠ 88 → i ≠ 89 → J' i = J0 i := by
  have h64 := cs_le vd
  have r41 := h.r 68 41 87 rfl
  have r42 := h.r 68 42 88 rfl
  have r43 := h.r 68 43 89 rfl
  have z87 := h.z 87 81984 rfl
  have z88 := h.z 88 81984 rfl
  have z89 := h.z 89 64 rfl
  intro u
  induction u with
  | zero =>
    intro k hk J e F O G T ke bf ti tl mb fr
    have el := bf.e_le
    have : k = e := by omega
    subst this
    refine ⟨J, k, F, O, G, T, itC_inr ?_, bf, ti, mb.2.2, fr⟩
    unfold B_X11_findErrands_75
    dsimp only
    rw [if_neg Int32.lt_irrefl]
  | succ u ih =>
    intro k hk J e F O G T ke bf ti tl mb fr
    have el := bf.e_le
    by_cases lt : k < e
    · have ok := bf.2.1 k lt
      have rk := bf.2.2.2.2.2.1 k lt
      have ri := Rg_in vd h0 _ _ _ _ rk
      generalize hT : (fun c => if c = O k / 1281 then min (T c) (G k) else T c) = T1
      have t1 : ∀ c, T1 c = if c = O k / 1281 then min (T c) (G k) else T c := fun c => by rw [← hT]
      generalize hJ : up2 J 89 (O k / 1281) (nI (min (T (O k / 1281)) (G k))) = J1
      have mb1 : MB J1 e F O T1 := ⟨fun s hs => by rw [← hJ, up2_ne (by omega)]; exact mb.1 s hs, fun i hi => by rw [← hJ, up2_ne (by omega)]; exact mb.2.1 i hi, fun c hc => by
        rw [t1, ← hJ]
        by_cases y : c = O k / 1281
        · rw [if_pos y, y, up2_s]
        · rw [if_neg y, up2_j y]
          exact mb.2.2 c hc⟩
      obtain ⟨J', e', F', O', G', k1, k2, k3, k4, k5, k6⟩ := ways_ok (L' := L') h vd hd0 hkd h0 (T := T1) J1 5 0 (by omega) J1 e F O G lt bf mb1 (fun i i1 i2 i3 => by rw [← hJ, up2_ne i3]; exact fr i i1 i2 i3)
      have ti' : TI (k + 1) O' G' T1 := fun c hc => by
        obtain ⟨a, b⟩ := ti c hc
        obtain ⟨o1, o2⟩ := k6 k lt
        rw [t1]
        constructor
        · by_cases y : c = O k / 1281
          · rw [if_pos y]
            by_cases y2 : G k ≤ T c
            · exact Or.inr ⟨k, by omega, by rw [o1, y], by rw [o2]; omega⟩
            · rcases a with a | ⟨i, i1, i2, i3⟩
              · omega
              · obtain ⟨p1, p2⟩ := k6 i (by omega)
                exact Or.inr ⟨i, by omega, by rw [p1, i2], by rw [p2]; omega⟩
          · rw [if_neg y]
            rcases a with a | ⟨i, i1, i2, i3⟩
            · exact Or.inl a
            · obtain ⟨p1, p2⟩ := k6 i (by omega)
              exact Or.inr ⟨i, by omega, by rw [p1, i2], by rw [p2]; omega⟩
        · intro i hi q
          obtain ⟨p1, p2⟩ := k6 i (by omega)
          rw [p1] at q
          rw [p2]
          by_cases y : c = O k / 1281
          · rw [if_pos y]
            by_cases y2 : i = k
            · rw [y2]
              omega
            · have := b i (by omega) q
              omega
          · rw [if_neg y]
            by_cases y2 : i = k
            · rw [y2] at q
              omega
            · exact b i (by omega) q
      obtain ⟨J2, e2, F2, O2, G2, T2, j1, j2⟩ := ih (k + 1) (by omega) J' e' F' O' G' T1 (by omega) (k2.next (by omega)) ti' (fun c hc => by
        have := tl c hc
        rw [t1]
        split <;> omega) k3 k4
      refine ⟨J2, e2, F2, O2, G2, T2, (itC_inl ?_).trans j1, j2⟩
      have v88 : J 88 k = nI (O k) := mb.2.1 k lt
      have vok : J 87 (O k) = nI (G k) := by rw [mb.1 _ ok.1, ok.2.1]
      have v89 : J 89 (O k / 1281) = nI (T (O k / 1281)) := mb.2.2 _ (by omega)
      have d1 : nI (O k) / 1281 = nI (O k / 1281) := by rw [show (1281 : Int32) = nI 1281 from rfl, pk_div (by omega) (by omega) (by omega)]
      have d2 : nI (O k) / 21 = nI (O k / 21) := by rw [show (21 : Int32) = nI 21 from rfl, pk_div (by omega) (by omega) (by omega)]
      have d3 : nI (O k / 21) - nI (O k / 21) / 61 * 61 = nI (O k / 21 % 61) := by rw [show (61 : Int32) = nI 61 from rfl, nI_rem (by omega) (by omega) (by omega)]
      have d4 : nI (O k) - nI (O k / 21) * 21 = nI (O k % 21) := by rw [← d2, show (21 : Int32) = nI 21 from rfl, nI_rem (by omega) (by omega) (by omega)]
      have tk := tl (O k / 1281) (by omega)
      have le : D_X11_lesser sh.2.2 J L' R (nI (T (O k / 1281))) (nI (G k)) = some (nI (min (T (O k / 1281)) (G k))) := by
        rw [D_X11_lesser]
        by_cases z : T (O k / 1281) < G k
        · rw [if_pos ((nI_ltI (by omega) (by omega)).mpr z), show min (T (O k / 1281)) (G k) = T (O k / 1281) by omega]
        · rw [if_neg (fun u => z ((nI_ltI (by omega) (by omega)).mp u)), show min (T (O k / 1281)) (G k) = G k by omega]
      have ik : inb (nI k) (sh.2.2 88) = true := by rw [z88]; exact inb_nI (by omega) (by omega)
      have ic : inb (nI (O k / 1281)) (sh.2.2 89) = true := by rw [z89]; exact inb_nI (by omega) (by omega)
      have io : inb (nI (O k)) (sh.2.2 87) = true := by rw [z87]; exact inb_nI (by omega) (by omega)
      unfold B_X11_findErrands_75
      dsimp only
      rw [if_pos ((nI_ltI (by omega) (by omega)).mpr lt), r42, bs_]
      simp only [cl_nI (show k < 2 ^ 31 by omega), v88, d1, d2, d3, d4]
      rw [if_pos ik, if_pos ik, bs_, if_pos ik, bs_, r43, bs_, if_pos ic, r41, bs_, if_pos ik, if_pos io, cl_nI (by omega), cl_nI (by omega), v89, vok, le, bs_, if_pos ic, bs_, hJ]
      exact k1
    · have : k = e := by omega
      subst this
      refine ⟨J, k, F, O, G, T, itC_inr ?_, bf, ti, mb.2.2, fr⟩
      unfold B_X11_findErrands_75
      dsimp only
      rw [if_neg Int32.lt_irrefl]
theorem findErrands_ok {sh : sh_T} {I J0 : I_T} {L L' : L_T} {R : R_T} (h : Inv sh I L R) {kk : Nat} {d : ld_T} (vd : VD d) (hd0 : HD J0 kk d) {kd : Nat} (hkd : kd ≤ 2) {c0 : Nat} (h0 : c0 < cs_ d) : ∃ (J' : I_T) (T : Nat → Nat), D_X11_findErrands sh.2.2 J0 L' R 68 (nI kd) (nI c0) = some J' ∧ (∀ c, c < 64 → J' 89 c = nI (T c)) ∧ (∀ c, c < 64 → (T c = 1000000 ∧ ∀ t, ¬ Rt d (lim_ d kd) c0 t c) ∨ (T c < 81984 ∧ Rt d (lim_ d kd) c0 (T c) c ∧ ∀ t, Rt d (lim_ d kd) c0 t c → T c ≤ t)) ∧ ∀ i, i ≠ 87 → i ≠ 88 → i ≠ 89 → J' i = J0 i := by
  have h64 := cs_le vd
  have ll := lim_le vd kd
  have l20 := vd.2.2.2.2.2.2.2.1
  have r41 := h.r 68 41 87 rfl
  have r42 := h.r 68 42 88 rfl
  have r43 := h.r 68 43 89 rfl
  have z87 := h.z 87 81984 rfl
  have z88 := h.z 88 81984 rfl
  have z89 := h.z 89 64 rfl
  have s0 : cod_ c0 0 0 = 1281 * c0 := rfl
  have start : ∀ (J : I_T), (∀ s, s < 81984 → J 87 s = 1000000) → (∀ c, c < 64 → J 89 c = 1000000) → (∀ i, i ≠ 87 → i ≠ 88 → i ≠ 89 → J i = J0 i) → ∃ (J' : I_T) (T : Nat → Nat), D_X11_findErrands_75 sh.2.2 (up2 (up2 J 87 (cod_ c0 0 0) 0) 88 0 (nI (cod_ c0 0 0))) L' R 68 (nI kd) (1, 0, up2 (up2 J 87 (cod_ c0 0 0) 0) 88 0 (nI (cod_ c0 0 0))) = some J' ∧ (∀ c, c < 64 → J' 89 c = nI (T c)) ∧ (∀ c, c < 64 → (T c = 1000000 ∧ ∀ t, ¬ Rt d (lim_ d kd) c0 t c) ∨ (T c < 81984 ∧ Rt d (lim_ d kd) c0 (T c) c ∧ ∀ t, Rt d (lim_ d kd) c0 t c → T c ≤ t)) ∧ ∀ i, i ≠ 87 → i ≠ 88 → i ≠ 89 → J' i = J0 i := fun J j87 j89 fr => by
    have bf : BFI d (lim_ d kd) c0 0 1 0 (fun s => if s = cod_ c0 0 0 then 0 else 1000000) (fun _ => cod_ c0 0 0) (fun _ => 0) := by
      refine ⟨?_, fun i hi => ⟨show cod_ c0 0 0 < 81984 by omega, if_pos rfl, Nat.zero_le i⟩, fun s hs => ?_, fun _ _ _ _ => Nat.le_refl _, fun _ _ _ => Nat.zero_le _, fun i hi => ?_, fun i w' q hi => by omega, by omega, rfl, rfl⟩
      · rw [fb_ct_set (p := fun _ => false) (j := cod_ c0 0 0) rfl (decide_eq_true (by dsimp only; rw [if_pos rfl]; decide)) (fun i hi => decide_eq_false (by dsimp only; rw [if_neg hi]; exact fun u => u rfl)), if_pos (by omega), fb_ct_zero.mpr (fun _ _ => rfl)]
      · dsimp only
        by_cases y : s = cod_ c0 0 0
        · rw [if_pos y]
          exact ⟨by omega, fun _ => ⟨0, by omega, y.symm⟩⟩
        · rw [if_neg y]
          exact ⟨Nat.le_refl _, fun u => (u rfl).elim⟩
      · dsimp only
        obtain ⟨m1, m2, m3⟩ := cod_c (c := c0) (on := 0) (r := 0) (by omega) (by omega)
        rw [m1, m2, m3]
        exact ⟨rfl, rfl, rfl⟩
    obtain ⟨J', e', F', O', G', T', k1, k2, k3, k4, k5⟩ := ord_loop (L' := L') h vd hd0 hkd h0 (up2 (up2 J 87 (cod_ c0 0 0) 0) 88 0 (nI (cod_ c0 0 0))) 81984 0 (by omega) (up2 (up2 J 87 (cod_ c0 0 0) 0) 88 0 (nI (cod_ c0 0 0))) 1 _ _ _ (fun _ => 1000000) (by omega) bf (fun c hc => ⟨Or.inl rfl, fun i hi => by omega⟩) (fun _ _ => Nat.le_refl _) ⟨fun s hs => by
      dsimp only
      rw [up2_ne (by omega)]
      by_cases y : s = cod_ c0 0 0
      · rw [y, up2_s, if_pos rfl]
        rfl
      · rw [up2_j y, if_neg y]
        exact j87 s hs, fun i hi => by
      have : i = 0 := by omega
      subst this
      exact up2_s _ _ _ _, fun c hc => by
      rw [up2_ne (by omega), up2_ne (by omega)]
      exact j89 c hc⟩ (fun i i1 i2 i3 => by rw [up2_ne i2, up2_ne i1]; exact fr i i1 i2 i3)
    exact ⟨J', T', k1, k4, fun c hc => TI.fin k2 k3 ll.2 l20 vd h0 hc, k5⟩
  have clr : ∀ u k, k + u = 64 → ∀ (J9 J : I_T), (∀ s, s < 81984 → J 87 s = 1000000) → (∀ c, c < k → J 89 c = 1000000) → (∀ i, i ≠ 87 → i ≠ 88 → i ≠ 89 → J i = J0 i) → ∃ (J' : I_T) (T : Nat → Nat), itC (B_X11_findErrands_25 sh.2.2 J9 L' R 68 (nI kd) (nI c0)) (nI k, J) = some J' ∧ (∀ c, c < 64 → J' 89 c = nI (T c)) ∧ (∀ c, c < 64 → (T c = 1000000 ∧ ∀ t, ¬ Rt d (lim_ d kd) c0 t c) ∨ (T c < 81984 ∧ Rt d (lim_ d kd) c0 (T c) c ∧ ∀ t, Rt d (lim_ d kd) c0 t c → T c ≤ t)) ∧ ∀ i, i ≠ 87 → i ≠ 88 → i ≠ 89 → J' i = J0 i := by
    intro u
    induction u with
    | zero =>
      intro k hk J9 J j87 j89 fr
      have : k = 64 := by omega
      subst this
      obtain ⟨J', T, k1, k2⟩ := start J j87 j89 fr
      refine ⟨J', T, itC_inr ?_, k2⟩
      have mk0 : ∀ J1 : I_T, D_X11_mark sh.2.2 J1 L' R (nI c0) 0 0 = some (nI (cod_ c0 0 0)) := fun J1 => mark_c c0 0 0
      unfold B_X11_findErrands_25
      dsimp only
      rw [if_neg (show ¬ nI 64 < 64 by decide), r41, bs_, mk0, bs_, if_pos (by rw [z87]; exact inb_nI (by omega) (by omega)), bs_, r42, bs_, cl_nI (by omega), mk0, bs_, if_pos (show inb 0 (sh.2.2 88) = true by rw [z88]; exact inb_nI (j := 0) (by omega) (by omega)), bs_]
      rw [show (0 : Int32).toNatClampNeg = 0 from rfl, k1, bs_]
    | succ u ih =>
      intro k hk J9 J j87 j89 fr
      obtain ⟨J', T, k1, k2⟩ := ih (k + 1) (by omega) J9 (up2 J 89 k 1000000) (fun s hs => by rw [up2_ne (by omega)]; exact j87 s hs) (fun c hc => by
        by_cases y : c = k
        · rw [y, up2_s]
        · rw [up2_j y]
          exact j89 c (by omega)) (fun i i1 i2 i3 => by rw [up2_ne i3]; exact fr i i1 i2 i3)
      refine ⟨J', T, (itC_inl ?_).trans k1, k2⟩
      unfold B_X11_findErrands_25
      dsimp only
      rw [if_pos ((nl_lt (k := 64) (j := 64) rfl (by omega) (by omega)).mpr (by omega)), r43, bs_, if_pos (inb_nI (by omega) (by omega)), bs_, cl_nI (by omega), nI_1]
  have clr2 : ∀ u k, k + u = 81984 → ∀ J : I_T, (∀ s, s < k → J 87 s = 1000000) → (∀ i, i ≠ 87 → i ≠ 88 → i ≠ 89 → J i = J0 i) → ∃ (J' : I_T) (T : Nat → Nat), itC (B_X11_findErrands_2 sh.2.2 J0 L' R 68 (nI kd) (nI c0)) (nI k, J) = some J' ∧ (∀ c, c < 64 → J' 89 c = nI (T c)) ∧ (∀ c, c < 64 → (T c = 1000000 ∧ ∀ t, ¬ Rt d (lim_ d kd) c0 t c) ∨ (T c < 81984 ∧ Rt d (lim_ d kd) c0 (T c) c ∧ ∀ t, Rt d (lim_ d kd) c0 t c → T c ≤ t)) ∧ ∀ i, i ≠ 87 → i ≠ 88 → i ≠ 89 → J' i = J0 i := by
    intro u
    induction u with
    | zero =>
      intro k hk J j87 fr
      have : k = 81984 := by omega
      subst this
      obtain ⟨J', T, k1, k2⟩ := clr 64 0 (by omega) J J (fun s hs => j87 s hs) (fun c hc => by omega) fr
      refine ⟨J', T, itC_inr ?_, k2⟩
      unfold B_X11_findErrands_2
      dsimp only
      rw [if_neg (show ¬ nI 81984 < 81984 by decide), show D_X11_findErrands_25 sh.2.2 J L' R 68 (nI kd) (nI c0) (0, J) = _ from k1, bs_]
    | succ u ih =>
      intro k hk J j87 fr
      obtain ⟨J', T, k1, k2⟩ := ih (k + 1) (by omega) (up2 J 87 k 1000000) (fun s hs => by
        by_cases y : s = k
        · rw [y, up2_s]
        · rw [up2_j y]
          exact j87 s (by omega)) (fun i i1 i2 i3 => by rw [up2_ne i1]; exact fr i i1 i2 i3)
      refine ⟨J', T, (itC_inl ?_).trans k1, k2⟩
      unfold B_X11_findErrands_2
      dsimp only
      rw [if_pos ((nl_lt (k := 81984) (j := 81984) rfl (by omega) (by omega)).mpr (by omega)), r41, bs_, if_pos (inb_nI (by omega) (by omega)), bs_, cl_nI (by omega), nI_1]
  exact clr2 81984 0 (by omega) J0 (fun s hs => by omega) (fun _ _ _ _ => rfl)
