/-! errands: the model's run -/
theorem mark_c {Z : Nat → Nat} {I : I_T} {L : L_T} {R : R_T} (c on r : Nat) : D_X11_mark Z I L R (nI c) (nI on) (nI r) = some (nI (cod_ c on r)) := by
  rw [D_X11_mark, show (61 : Int32) = nI 61 from rfl, show (21 : Int32) = nI 21 from rfl, nI_mul, nI_add, nI_mul, nI_add]
  congr 2
  unfold cod_
  rw [Nat.add_mul]
  omega
theorem behind_ok {sh : sh_T} {I J : I_T} {L L' : L_T} {R : R_T} (h : Inv sh I L R) {k : Nat} {d : ld_T} (vd : VD d) (hd : HD J k d) {c on r lim : Nat} (hc : c < cs_ d) (ho : on ≤ 60) (hr : r ≤ 20) (hl : lim ≤ 60) : D_X11_behind sh.2.2 J L' R 68 (nI c) (nI on) (nI r) (nI lim) = some (oI (match stp d lim (laf d) c on r with | none => none | some (a, x) => some (cod_ c a x))) := by
  have l20 := vd.2.2.2.2.2.2.2.1
  have so := soil_ok (L' := L') h vd vd.2.2.2.2.1 hc hd.2.2.2.1 hd.2.2.2.2.2.2.2.1 (hd.2.2.2.2.2.2.2.2 c hc).1
  have e29 : J 68 29 = nI (laf d) := hd.2.2.2.2.2.1
  rw [D_X11_behind, so, bs_]
  unfold stp
  rw [show slv d (lv d) c = decide (lv d < d 6 c) from rfl]
  cases decide (lv d < d 6 c) with
  | true =>
    rw [if_neg (show ¬ bI true = 0 by decide), if_pos rfl]
    by_cases z : on < lim
    · rw [if_pos ((nI_ltI (by omega) (by omega)).mpr z), if_pos z, nI_1, show (0 : Int32) = nI 0 from rfl, mark_c, bs_]
      rfl
    · rw [if_neg (fun u => z ((nI_ltI (by omega) (by omega)).mp u)), if_neg z]
      rfl
  | false =>
    have le : D_X11_lesser sh.2.2 J L' R (J 68 29) (nI r + 1) = some (nI (min (laf d) (r + 1))) := by
      rw [D_X11_lesser, e29, nI_1]
      by_cases z : laf d < r + 1
      · rw [if_pos ((nI_ltI (by omega) (by omega)).mpr z), show min (laf d) (r + 1) = laf d by omega]
      · rw [if_neg (fun u => z ((nI_ltI (by omega) (by omega)).mp u)), show min (laf d) (r + 1) = r + 1 by omega]
    rw [if_pos (show bI false = 0 from rfl), le, bs_, e29, if_neg (show ¬ (false = true) by decide)]
    by_cases z : laf d ≤ min (laf d) (r + 1)
    · rw [if_neg (fun u => by
        have := (nI_ltI (by omega) (by omega)).mp u
        omega), if_pos z, D_X11_behind_54, show (0 : Int32) = nI 0 from rfl, mark_c, bs_]
      rfl
    · rw [if_pos ((nI_ltI (by omega) (by omega)).mpr (by omega)), if_neg z, D_X11_behind_54, mark_c, bs_]
      rfl
/-- the model's rows while it seeks -/
def MB (J : I_T) (e : Nat) (F O T : Nat → Nat) : Prop := (∀ s, s < 81984 → J 87 s = nI (F s)) ∧ (∀ i, i < e → J 88 i = nI (O i)) ∧ ∀ c, c < 64 → J 89 c = nI (T c)
theorem HD.mv {J J' : I_T} {k : Nat} {d : ld_T} (h : HD J k d) (f : ∀ i, i ≠ 87 → i ≠ 88 → i ≠ 89 → J' i = J i) : HD J' k d := by
  unfold HD at h ⊢
  rw [f 68 (by omega) (by omega) (by omega), f 80 (by omega) (by omega) (by omega), f 81 (by omega) (by omega) (by omega)]
  exact h
theorem ways_ok {sh : sh_T} {I J0 : I_T} {L L' : L_T} {R : R_T} (h : Inv sh I L R) {kk : Nat} {d : ld_T} (vd : VD d) (hd0 : HD J0 kk d) {kd : Nat} (hkd : kd ≤ 2) {c0 : Nat} (h0 : c0 < cs_ d) {k : Nat} {T : Nat → Nat} (J9 : I_T) : ∀ u w, w + u = 5 → ∀ (J : I_T) (e : Nat) (F O G : Nat → Nat), k < e → BFI d (lim_ d kd) c0 k e w F O G → MB J e F O T → (∀ i, i ≠ 87 → i ≠ 88 → i ≠ 89 → J i = J0 i) → ∃ (J' : I_T) (e' : Nat) (F' O' G' : Nat → Nat), itC (B_X11_findErrands_153 sh.2.2 J9 L' R 68 (nI kd) (nI k) (nI (O k / 1281)) (nI (O k / 21 % 61)) (nI (O k % 21))) (nI e, nI w, J) = some (.inl (nI e', nI (k + 1), J')) ∧ BFI d (lim_ d kd) c0 k e' 5 F' O' G' ∧ MB J' e' F' O' T ∧ (∀ i, i ≠ 87 → i ≠ 88 → i ≠ 89 → J' i = J0 i) ∧ e ≤ e' ∧ ∀ i, i < e → O' i = O i ∧ G' i = G i := by
  have ll := lim_le vd kd
  have h64 := cs_le vd
  have l20 := vd.2.2.2.2.2.2.2.1
  have r41 := h.r 68 41 87 rfl
  have r42 := h.r 68 42 88 rfl
  have z87 := h.z 87 81984 rfl
  have z88 := h.z 88 81984 rfl
  intro u
  induction u with
  | zero =>
    intro w hw J e F O G hk bf mb fr
    have : w = 5 := by omega
    subst this
    refine ⟨J, e, F, O, G, itC_inr ?_, bf, mb, fr, Nat.le_refl _, fun _ _ => ⟨rfl, rfl⟩⟩
    unfold B_X11_findErrands_153
    dsimp only
    rw [if_pos (show (4 : Int32) < nI 5 by decide), nI_1]
  | succ u ih =>
    intro w hw J e F O G hk bf mb fr
    have el := bf.e_le
    have ok := (bf.2.1 k hk)
    have rk := bf.2.2.2.2.2.1 k hk
    have ri := Rg_in vd h0 _ _ _ _ rk
    have hd := hd0.mv fr
    have nxt := next_ok (Z := sh.2.2) (L := L') (R := R) vd hd.2.1 hd.2.2.1 ri.1 (show w ≤ 4 by omega)
    have nl4 : ¬ (4 : Int32) < nI w := fun u => by
      have := (nI_ltI (a := 4) (b := w) (by omega) (by omega)).mp u
      omega
    have go : B_X11_findErrands_153 sh.2.2 J9 L' R 68 (nI kd) (nI k) (nI (O k / 1281)) (nI (O k / 21 % 61)) (nI (O k % 21)) (nI e, nI w, J) = D_X11_findErrands_194 sh.2.2 J L' R 68 (nI kd) (nI e) (nI k) (nI (O k / 1281)) (nI (O k / 21 % 61)) (nI (O k % 21)) (nI w) (oI (msuc d (lim_ d kd) (O k) w)) := by
      unfold B_X11_findErrands_153 msuc
      dsimp only
      rw [if_neg nl4, nxt, bs_]
      cases en : nx d (O k / 1281) w with
      | none => rw [show oI none = -1 from rfl, if_pos rfl]
      | some c =>
        have c2 := nx_lt vd ri.1 en
        rw [show oI (some c) = nI c from rfl, if_neg (nI_neg1 (by omega)), mlimit_ok vd hd.2.2.2.2.1 hkd, bs_, behind_ok h vd hd c2 (by omega) (by omega) ll.2, bs_]
        dsimp only
        cases stp d (lim_ d kd) (laf d) c (O k / 21 % 61) (O k % 21) <;> rfl
    have stay : (∀ s', msuc d (lim_ d kd) (O k) w = some s' → s' < 81984 ∧ F s' ≠ 1000000) → B_X11_findErrands_153 sh.2.2 J9 L' R 68 (nI kd) (nI k) (nI (O k / 1281)) (nI (O k / 21 % 61)) (nI (O k % 21)) (nI e, nI w, J) = some (.inl (nI e, nI (w + 1), J)) → ∃ (J' : I_T) (e' : Nat) (F' O' G' : Nat → Nat), itC (B_X11_findErrands_153 sh.2.2 J9 L' R 68 (nI kd) (nI k) (nI (O k / 1281)) (nI (O k / 21 % 61)) (nI (O k % 21))) (nI e, nI w, J) = some (.inl (nI e', nI (k + 1), J')) ∧ BFI d (lim_ d kd) c0 k e' 5 F' O' G' ∧ MB J' e' F' O' T ∧ (∀ i, i ≠ 87 → i ≠ 88 → i ≠ 89 → J' i = J0 i) ∧ e ≤ e' ∧ ∀ i, i < e → O' i = O i ∧ G' i = G i := fun q1 q2 => by
      obtain ⟨J', e', F', O', G', k1, k2⟩ := ih (w + 1) (by omega) J e F O G hk (bf.old hk q1) mb fr
      exact ⟨J', e', F', O', G', (itC_inl q2).trans k1, k2⟩
    cases es : msuc d (lim_ d kd) (O k) w with
    | none =>
      refine stay (fun s' u => by rw [es] at u; cases u) ?_
      rw [go, es, show oI none = -1 from rfl, D_X11_findErrands_194, if_pos rfl, nI_1]
    | some s' =>
      obtain ⟨c, a, x, q1, q2, q3⟩ := msuc_some es
      have c2 := nx_lt vd ri.1 q1
      have le := stp_le q2 ri.2.1
      have sl : s' < 81984 := by
        rw [q3]
        unfold cod_
        omega
      have fs := (bf.2.2.1 s' sl).1
      by_cases z : F s' = 1000000
      · obtain ⟨lt, bn⟩ := bf.new hk (by omega) ll.2 l20 vd h0 es z sl
        have ne : ∀ i, i < e → O i ≠ s' := fun i hi u => by
          have := bf.2.1 i hi
          rw [u, z] at this
          omega
        have mb' : MB (up2 (up2 J 87 s' (nI (G k + 1))) 88 e (nI s')) (e + 1) (fun s => if s = s' then G k + 1 else F s) (fun i => if i = e then s' else O i) T := by
          refine ⟨fun s hs => ?_, fun i hi => ?_, fun c hc => ?_⟩
          · dsimp only
            rw [up2_ne (by omega)]
            by_cases y : s = s'
            · rw [y, up2_s, if_pos rfl]
            · rw [up2_j y, if_neg y]
              exact mb.1 s hs
          · dsimp only
            by_cases y : i = e
            · rw [y, up2_s, if_pos rfl]
            · rw [up2_j y, if_neg y, up2_ne (by omega)]
              exact mb.2.1 i (by omega)
          · rw [up2_ne (by omega), up2_ne (by omega)]
            exact mb.2.2 c hc
        have ok' : (if k = e then s' else O k) = O k := if_neg (by omega)
        obtain ⟨J', e', F', O', G', k1, k2, k3, k4, k5, k6⟩ := ih (w + 1) (by omega) _ (e + 1) _ _ _ (by omega) bn mb' (fun i i1 i2 i3 => by rw [up2_ne i2, up2_ne i1]; exact fr i i1 i2 i3)
        rw [ok'] at k1
        refine ⟨J', e', F', O', G', (itC_inl ?_).trans k1, k2, k3, k4, by omega, fun i hi => ?_⟩
        · have v87 : J 87 s' = 1000000 := by rw [mb.1 s' sl, z]; rfl
          have v88 : J 88 k = nI (O k) := mb.2.1 k hk
          have vok : J 87 (O k) = nI (G k) := by rw [mb.1 _ ok.1, ok.2.1]
          rw [go, es, show oI (some s') = nI s' from rfl, D_X11_findErrands_194, if_neg (nI_neg1 (by omega)), r41, bs_, z87, if_pos (inb_nI (by omega) (by omega)), cl_nI (by omega), if_pos v87, r42, bs_, z88, if_pos (inb_nI (by omega) (by omega)), cl_nI (by omega), v88, if_pos (inb_nI (by omega) (by omega)), if_pos (inb_nI (by omega) (by omega)), bs_, if_pos (inb_nI (by omega) (by omega)), bs_, cl_nI (by omega), vok, cl_nI (by omega), nI_1, nI_1, nI_1]
        · have := k6 i (by omega)
          rw [if_neg (by omega), if_neg (by omega)] at this
          exact this
      · refine stay (fun s'' u => by
          have := Option.some.inj (es.symm.trans u)
          subst this
          exact ⟨sl, z⟩) ?_
        have v87 : ¬ J 87 s' = 1000000 := fun u => by
          rw [mb.1 s' sl] at u
          exact z ((nI_eq (b := 1000000) (by omega) (by omega)).mp u)
        rw [go, es, show oI (some s') = nI s' from rfl, D_X11_findErrands_194, if_neg (nI_neg1 (by omega)), r41, bs_, z87, if_pos (inb_nI (by omega) (by omega)), cl_nI (by omega), if_neg v87, nI_1]
