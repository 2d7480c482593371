/-! sights: the model's walks -/
theorem lN_pos {a : Nat} (h : a < 2 ^ 31) : (0 : Int64) < lN a ↔ a ≠ 0 := by
  rw [show (0 : Int64) = lN 0 from rfl, Int64.lt_iff_toInt_lt, lN_toInt (by omega), lN_toInt h]
  omega
/-- what is known of the model's memory while it seeks -/
def MSt (sh : sh_T) (I J : I_T) (R : R_T) (L : L_T) (j : Nat) (d : ld_T) (s : Nat → Bool) (n0 x y : Nat) (e : Nat → Nat → Int32) (ok : Nat → Nat → Bool) : Prop := (Inv sh I L R) ∧ (j < 2) ∧ (VD d) ∧ (VSight n0 x y e) ∧ (I 77 (43 * j) = nI x) ∧ (I 77 (43 * j + 1) = nI y) ∧ (I 77 (43 * j + 2) = nI n0) ∧ (∀ i q, i < n0 → q < 4 → I 77 (43 * j + (3 + 4 * i + q)) = e i q) ∧ (J 68 25 = nI (lw d)) ∧ (J 68 26 = nI (cs_ d)) ∧ (J 68 28 = nI (lhr d)) ∧ (J 68 55 = nI j) ∧ (J 77 = I 77) ∧ (∀ L' : L_T, SoilA sh.2.2 J L' R d s) ∧ (x < lw d ∧ y < lh d) ∧ (∀ t c, ok t c = true ↔ okF d n0 e t c)
theorem MSt.inv {sh : sh_T} {I J : I_T} {R : R_T} {L : L_T} {j : Nat} {d : ld_T} {s : Nat → Bool} {n0 x y : Nat} {e : Nat → Nat → Int32} {ok : Nat → Nat → Bool} (h : MSt sh I J R L j d s n0 x y e ok) : Inv sh I L R := h.1
theorem MSt.j2 {sh : sh_T} {I J : I_T} {R : R_T} {L : L_T} {j : Nat} {d : ld_T} {s : Nat → Bool} {n0 x y : Nat} {e : Nat → Nat → Int32} {ok : Nat → Nat → Bool} (h : MSt sh I J R L j d s n0 x y e ok) : j < 2 := h.2.1
theorem MSt.hd {sh : sh_T} {I J : I_T} {R : R_T} {L : L_T} {j : Nat} {d : ld_T} {s : Nat → Bool} {n0 x y : Nat} {e : Nat → Nat → Int32} {ok : Nat → Nat → Bool} (h : MSt sh I J R L j d s n0 x y e ok) : VD d := h.2.2.1
theorem MSt.v {sh : sh_T} {I J : I_T} {R : R_T} {L : L_T} {j : Nat} {d : ld_T} {s : Nat → Bool} {n0 x y : Nat} {e : Nat → Nat → Int32} {ok : Nat → Nat → Bool} (h : MSt sh I J R L j d s n0 x y e ok) : VSight n0 x y e := h.2.2.2.1
theorem MSt.m0 {sh : sh_T} {I J : I_T} {R : R_T} {L : L_T} {j : Nat} {d : ld_T} {s : Nat → Bool} {n0 x y : Nat} {e : Nat → Nat → Int32} {ok : Nat → Nat → Bool} (h : MSt sh I J R L j d s n0 x y e ok) : I 77 (43 * j) = nI x := h.2.2.2.2.1
theorem MSt.m1 {sh : sh_T} {I J : I_T} {R : R_T} {L : L_T} {j : Nat} {d : ld_T} {s : Nat → Bool} {n0 x y : Nat} {e : Nat → Nat → Int32} {ok : Nat → Nat → Bool} (h : MSt sh I J R L j d s n0 x y e ok) : I 77 (43 * j + 1) = nI y := h.2.2.2.2.2.1
theorem MSt.m2 {sh : sh_T} {I J : I_T} {R : R_T} {L : L_T} {j : Nat} {d : ld_T} {s : Nat → Bool} {n0 x y : Nat} {e : Nat → Nat → Int32} {ok : Nat → Nat → Bool} (h : MSt sh I J R L j d s n0 x y e ok) : I 77 (43 * j + 2) = nI n0 := h.2.2.2.2.2.2.1
theorem MSt.m3 {sh : sh_T} {I J : I_T} {R : R_T} {L : L_T} {j : Nat} {d : ld_T} {s : Nat → Bool} {n0 x y : Nat} {e : Nat → Nat → Int32} {ok : Nat → Nat → Bool} (h : MSt sh I J R L j d s n0 x y e ok) : ∀ i q, i < n0 → q < 4 → I 77 (43 * j + (3 + 4 * i + q)) = e i q := h.2.2.2.2.2.2.2.1
theorem MSt.e25 {sh : sh_T} {I J : I_T} {R : R_T} {L : L_T} {j : Nat} {d : ld_T} {s : Nat → Bool} {n0 x y : Nat} {e : Nat → Nat → Int32} {ok : Nat → Nat → Bool} (h : MSt sh I J R L j d s n0 x y e ok) : J 68 25 = nI (lw d) := h.2.2.2.2.2.2.2.2.1
theorem MSt.e26 {sh : sh_T} {I J : I_T} {R : R_T} {L : L_T} {j : Nat} {d : ld_T} {s : Nat → Bool} {n0 x y : Nat} {e : Nat → Nat → Int32} {ok : Nat → Nat → Bool} (h : MSt sh I J R L j d s n0 x y e ok) : J 68 26 = nI (cs_ d) := h.2.2.2.2.2.2.2.2.2.1
theorem MSt.e28 {sh : sh_T} {I J : I_T} {R : R_T} {L : L_T} {j : Nat} {d : ld_T} {s : Nat → Bool} {n0 x y : Nat} {e : Nat → Nat → Int32} {ok : Nat → Nat → Bool} (h : MSt sh I J R L j d s n0 x y e ok) : J 68 28 = nI (lhr d) := h.2.2.2.2.2.2.2.2.2.2.1
theorem MSt.e55 {sh : sh_T} {I J : I_T} {R : R_T} {L : L_T} {j : Nat} {d : ld_T} {s : Nat → Bool} {n0 x y : Nat} {e : Nat → Nat → Int32} {ok : Nat → Nat → Bool} (h : MSt sh I J R L j d s n0 x y e ok) : J 68 55 = nI j := h.2.2.2.2.2.2.2.2.2.2.2.1
theorem MSt.e77 {sh : sh_T} {I J : I_T} {R : R_T} {L : L_T} {j : Nat} {d : ld_T} {s : Nat → Bool} {n0 x y : Nat} {e : Nat → Nat → Int32} {ok : Nat → Nat → Bool} (h : MSt sh I J R L j d s n0 x y e ok) : J 77 = I 77 := h.2.2.2.2.2.2.2.2.2.2.2.2.1
theorem MSt.soil {sh : sh_T} {I J : I_T} {R : R_T} {L : L_T} {j : Nat} {d : ld_T} {s : Nat → Bool} {n0 x y : Nat} {e : Nat → Nat → Int32} {ok : Nat → Nat → Bool} (h : MSt sh I J R L j d s n0 x y e ok) : ∀ L' : L_T, SoilA sh.2.2 J L' R d s := h.2.2.2.2.2.2.2.2.2.2.2.2.2.1
theorem MSt.al {sh : sh_T} {I J : I_T} {R : R_T} {L : L_T} {j : Nat} {d : ld_T} {s : Nat → Bool} {n0 x y : Nat} {e : Nat → Nat → Int32} {ok : Nat → Nat → Bool} (h : MSt sh I J R L j d s n0 x y e ok) : x < lw d ∧ y < lh d := h.2.2.2.2.2.2.2.2.2.2.2.2.2.2.1
theorem MSt.hok {sh : sh_T} {I J : I_T} {R : R_T} {L : L_T} {j : Nat} {d : ld_T} {s : Nat → Bool} {n0 x y : Nat} {e : Nat → Nat → Int32} {ok : Nat → Nat → Bool} (h : MSt sh I J R L j d s n0 x y e ok) : ∀ t c, ok t c = true ↔ okF d n0 e t c := h.2.2.2.2.2.2.2.2.2.2.2.2.2.2.2
theorem MSt.on {sh : sh_T} {I J : I_T} {R : R_T} {L : L_T} {j : Nat} {d : ld_T} {s : Nat → Bool} {n0 x y : Nat} {e : Nat → Nat → Int32} {ok : Nat → Nat → Bool} (h : MSt sh I J R L j d s n0 x y e ok) (L' : L_T) {c on t : Nat} (hc : c < cs_ d) (ho : on ≤ 13) (ht : t ≤ 12) : D_X11_walksOn sh.2.2 J L' R 68 (nI c) (nI on) (nI t) = some (if ok t c = true ∧ now_ s c on ≤ lhr d then nI (now_ s c on) else -1) := by
  obtain ⟨q, q1, q2⟩ := walksOn_ok (L' := L') h.inv h.j2 h.hd h.v h.m2 h.m3 h.e25 h.e28 h.e55 h.e77 (h.soil L') hc ho ht
  rw [q1]
  congr 1
  by_cases z : ok t c = true ∧ now_ s c on ≤ lhr d
  · rw [if_pos z, if_pos (q2.mpr ⟨z.2, (h.hok t c).mp z.1⟩)]
  · rw [if_neg z, if_neg (fun u => z ⟨(h.hok t c).mpr (q2.mp u).2, (q2.mp u).1⟩)]
theorem MSt.c0 {sh : sh_T} {I J : I_T} {R : R_T} {L : L_T} {j : Nat} {d : ld_T} {s : Nat → Bool} {n0 x y : Nat} {e : Nat → Nat → Int32} {ok : Nat → Nat → Bool} (h : MSt sh I J R L j d s n0 x y e ok) : lw d * y + x < cs_ d := by
  have := h.al.1
  show _ < lw d * lh d
  have h2 : lw d * (y + 1) ≤ lw d * lh d := Nat.mul_le_mul_left _ h.al.2
  rw [Nat.mul_add, Nat.mul_one] at h2
  omega
theorem div14 {k : Nat} (h : k < 896) : nI k / 14 = nI (k / 14) ∧ nI k - nI k / 14 * 14 = nI (k % 14) := by
  have a : nI k / 14 = nI (k / 14) := by rw [show (14 : Int32) = nI 14 from rfl, pk_div (by omega) (by omega) (by omega)]
  exact ⟨a, by rw [show (14 : Int32) = nI 14 from rfl, nI_rem (by omega) (by omega) (by omega)]⟩
/-- forward: a state's pushes -/
theorem fw_dir {sh : sh_T} {I J : I_T} {R : R_T} {L : L_T} {j : Nat} {d : ld_T} {s : Nat → Bool} {n0 x y : Nat} {e : Nat → Nat → Int32} {ok : Nat → Nat → Bool} (h : MSt sh I J R L j d s n0 x y e ok) (n : Int32) {t k : Nat} (ht : t < 12) (hk : k < 14 * cs_ d) {M0 : L_T} {V : Nat → Int64} {a : Nat} (hV : V k = lN a) (ha : a < 2 ^ 31) (h1 : a ≠ 0 → k % 14 ≤ t + 1) {M : L_T} {r : Nat → Int64} (hM : ∀ i, i ≠ 98 → M i = M0 i) (hM2 : ∀ i, (i < 896 * (t + 1) ∨ 896 * (t + 1) + 896 ≤ i) → M 98 i = M0 98 i) (hr : ∀ i, i < 896 → M 98 (896 * (t + 1) + i) = r i) (ev : M0 98 (896 * t + k) = V k) : ∃ M', itC (B_X11_findWalks_98 sh.2.2 J M R 68 n (nI t) (nI k)) (0, M) = some (.inl (nI (k + 1), M')) ∧ (∀ i, i ≠ 98 → M' i = M0 i) ∧ (∀ i, (i < 896 * (t + 1) ∨ 896 * (t + 1) + 896 ≤ i) → M' 98 i = M0 98 i) ∧ ∀ i, i < 896 → M' 98 (896 * (t + 1) + i) = stW (opm false) (PT d s ok t) V k 5 r i := by
  have h64 := cs_le h.hd
  have k14 : k / 14 < cs_ d := by omega
  have r56 := h.inv.r 68 56 98 rfl
  have z98 := h.inv.z 98 11648 rfl
  have dv := div14 (k := k) (by omega)
  have t1 : nI t + 1 = nI (t + 1) := nI_1 t
  have sp0 : ∀ L' : L_T, D_X11_step sh.2.2 J L' R (nI t) 0 0 = some (nI (896 * t + 14 * 0 + 0)) := fun L' => step_ok t 0 0
  have ik : inb (nI (896 * t + 14 * 0 + 0) + nI k) (sh.2.2 98) = true := by rw [nI_add]; exact inb_nI (by omega) (by omega)
  have ck : (nI (896 * t + 14 * 0 + 0) + nI k).toNatClampNeg = 896 * t + k := by rw [nI_add, cl_nI (by omega)]; omega
  by_cases z0 : a = 0
  · refine ⟨M, itC_inr ?_, hM, hM2, fun i hi => by rw [stW_0 (opm_0 false) (by rw [hV, z0]; rfl)]; exact hr i hi⟩
    unfold B_X11_findWalks_98
    dsimp only
    rw [if_neg (show ¬ (4 : Int32) < 0 by decide), r56, bs_, sp0, bs_, if_pos ik, ck]
    rw [if_neg (show ¬ (0 : Int64) < M 98 (896 * t + k) from fun u => (lN_pos ha).mp (by rw [hM2 _ (by omega), ev, hV] at u; exact u) z0), nI_1]
  · have k13 := h1 z0
    have key : ∀ u w, w + u = 5 → ∀ N : L_T, (∀ i, i ≠ 98 → N i = M0 i) → (∀ i, (i < 896 * (t + 1) ∨ 896 * (t + 1) + 896 ≤ i) → N 98 i = M0 98 i) → (∀ i, i < 896 → N 98 (896 * (t + 1) + i) = stW (opm false) (PT d s ok t) V k w r i) → ∃ M', itC (B_X11_findWalks_98 sh.2.2 J M R 68 n (nI t) (nI k)) (nI w, N) = some (.inl (nI (k + 1), M')) ∧ (∀ i, i ≠ 98 → M' i = M0 i) ∧ (∀ i, (i < 896 * (t + 1) ∨ 896 * (t + 1) + 896 ≤ i) → M' 98 i = M0 98 i) ∧ ∀ i, i < 896 → M' 98 (896 * (t + 1) + i) = stW (opm false) (PT d s ok t) V k 5 r i := by
      intro u
      induction u with
      | zero =>
        intro w hw5 N hN hN2 hrN
        have : w = 5 := by omega
        subst this
        refine ⟨N, itC_inr ?_, hN, hN2, hrN⟩
        unfold B_X11_findWalks_98
        rw [if_pos (show (4 : Int32) < nI 5 by decide), nI_1]
      | succ u ih =>
        intro w hw5 N hN hN2 hrN
        have nxt := next_ok (Z := sh.2.2) (J := J) (L := N) (R := R) h.hd h.e25 h.e26 k14 (show w ≤ 4 by omega)
        have nl4 : ¬ (4 : Int32) < nI w := fun u => by
          have := (nI_ltI (a := 4) (b := w) (by omega) (by omega)).mp u
          omega
        have sW : ∀ i, stW (opm false) (PT d s ok t) V k (w + 1) r i = st1 (opm false) (PT d s ok t k w) (V k) (stW (opm false) (PT d s ok t) V k w r) i := fun i => rfl
        have vk : N 98 (896 * t + k) = lN a := by rw [hN2 _ (by omega), ev, hV]
        have go : ∀ D : Option ((Int32 × L_T) ⊕ ((Int32 × L_T) ⊕ ((Int32 × L_T) ⊕ L_T))), ((D_X11_next sh.2.2 J N R 68 (nI k / 14) (nI w)).bind fun q6 => if q6 = (-1) then (D_X11_findWalks_162 sh.2.2 J N R 68 n (nI t) (nI k) (nI w) q6 (-1)) else ((D_X11_walksOn sh.2.2 J N R 68 q6 (nI k - nI k / 14 * 14) (nI t + 1)).bind fun q8 => D_X11_findWalks_162 sh.2.2 J N R 68 n (nI t) (nI k) (nI w) q6 q8)) = D → B_X11_findWalks_98 sh.2.2 J M R 68 n (nI t) (nI k) (nI w, N) = D := fun D hD => by
          unfold B_X11_findWalks_98
          rw [if_neg nl4, r56, bs_]
          dsimp only
          rw [sp0, bs_, if_pos ik, ck, if_pos (show (0 : Int64) < N 98 (896 * t + k) by rw [vk]; exact (lN_pos ha).mpr z0)]
          exact hD
        have no : PT d s ok t k w = none → ∃ M', itC (B_X11_findWalks_98 sh.2.2 J M R 68 n (nI t) (nI k)) (nI (w + 1), N) = some (.inl (nI (k + 1), M')) ∧ (∀ i, i ≠ 98 → M' i = M0 i) ∧ (∀ i, (i < 896 * (t + 1) ∨ 896 * (t + 1) + 896 ≤ i) → M' 98 i = M0 98 i) ∧ ∀ i, i < 896 → M' 98 (896 * (t + 1) + i) = stW (opm false) (PT d s ok t) V k 5 r i := fun pe => ih (w + 1) (by omega) N hN hN2 (fun i hi => by
            rw [hrN i hi, sW, pe]
            rfl)
        cases en : nx d (k / 14) w with
        | none =>
          rw [en] at nxt
          obtain ⟨M', p1, p2⟩ := no (by
            unfold PT
            rw [if_pos ⟨ht, k14, k13⟩, en])
          refine ⟨M', (itC_inl (go _ ?_)).trans p1, p2⟩
          rw [dv.1, nxt, bs_, show oI none = -1 from rfl, if_pos rfl, D_X11_findWalks_162, if_pos rfl, nI_1]
        | some c' =>
          rw [en] at nxt
          have c2 := nx_lt h.hd k14 en
          have pe : PT d s ok t k w = if ok (t + 1) c' = true ∧ now_ s c' (k % 14) ≤ lhr d then some (14 * c' + now_ s c' (k % 14)) else none := by
            unfold PT
            rw [if_pos ⟨ht, k14, k13⟩, en]
          have nb := @now_le s c' (k % 14)
          have on := h.on N (c := c') (on := k % 14) (t := t + 1) c2 (by omega) (by omega)
          by_cases z : ok (t + 1) c' = true ∧ now_ s c' (k % 14) ≤ lhr d
          · rw [if_pos z] at on pe
            have st : D_X11_step sh.2.2 J N R (nI (t + 1)) (nI c') (nI (now_ s c' (k % 14))) = some (nI (896 * (t + 1) + 14 * c' + now_ s c' (k % 14))) := step_ok _ _ _
            have i2 : inb (nI (896 * (t + 1) + 14 * c' + now_ s c' (k % 14))) (sh.2.2 98) = true := inb_nI (by omega) (by omega)
            have c3 : (nI (896 * (t + 1) + 14 * c' + now_ s c' (k % 14))).toNatClampNeg = 896 * (t + 1) + (14 * c' + now_ s c' (k % 14)) := by rw [cl_nI (by omega)]; omega
            obtain ⟨M', p1, p2⟩ := ih (w + 1) (by omega) (up2 N 98 (896 * (t + 1) + (14 * c' + now_ s c' (k % 14))) (N 98 (896 * (t + 1) + (14 * c' + now_ s c' (k % 14))) + lN a)) (fun i hi => by rw [up2_ne hi]; exact hN i hi) (fun i hi => by rw [up2_j (by omega)]; exact hN2 i hi) (fun i hi => by
              rw [sW, pe]
              show _ = if i = 14 * c' + now_ s c' (k % 14) then opm false (stW (opm false) (PT d s ok t) V k w r (14 * c' + now_ s c' (k % 14))) (V k) else _
              by_cases x : i = 14 * c' + now_ s c' (k % 14)
              · subst x
                rw [if_pos rfl, up2_s, hrN _ hi, hV]
                rfl
              · rw [if_neg x, up2_j (by omega), hrN i hi])
            refine ⟨M', (itC_inl (go _ ?_)).trans p1, p2⟩
            rw [dv.2, dv.1, nxt, bs_, show oI (some c') = nI c' from rfl, if_neg (nI_neg1 (by omega)), t1, on, bs_, D_X11_findWalks_162, if_neg (nI_neg1 (by omega)), r56, bs_, t1, st, bs_, if_pos i2, sp0, bs_, if_pos ik, if_pos i2, c3, ck, vk, bs_, nI_1]
          · rw [if_neg z] at on pe
            obtain ⟨M', p1, p2⟩ := no pe
            refine ⟨M', (itC_inl (go _ ?_)).trans p1, p2⟩
            rw [dv.2, dv.1, nxt, bs_, show oI (some c') = nI c' from rfl, if_neg (nI_neg1 (by omega)), t1, on, bs_, D_X11_findWalks_162, if_pos rfl, nI_1]
    exact key 5 0 (by omega) M hM hM2 hr
