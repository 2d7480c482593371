/-! routes: the model's path; at -/
theorem lay_ok {sh : sh_T} {I J : I_T} {L : L_T} {R : R_T} (h : Inv sh I L R) {k : Nat} (hk : k < 2) {d : ld_T} (hd : VD d) (e25 : J 68 25 = nI (lw d)) (e26 : J 68 26 = nI (cs_ d)) (e73 : J 73 = I 73) (e76 : J 76 = I 76) {n x y : Nat} {e : Nat → Nat → Int32} (v : VRoute n x y e) (m0 : I 76 (23 * k) = nI x) (m1 : I 76 (23 * k + 1) = nI y) (m2 : I 76 (23 * k + 2) = nI n) (m3 : ∀ j q, j < n → q < 2 → I 76 (23 * k + (3 + 2 * j + q)) = e j q) (hi : ∀ (I' : I_T) (L' : L_T), I' 73 = I 73 → D_X11_is sh.2.2 I' L' R 68 2 (nI k) = some 1) {into : Nat} (hin : into < 2) : ∃ J', D_X11_layRoute sh.2.2 J L R 68 (nI k) (nI into) = some (bI (decide (x < lw d ∧ y < lh d)), J') ∧ (∀ i, i ≠ 68 → i ≠ 97 → J' i = J i) ∧ (∀ j, j ≠ 53 → J' 68 j = J 68 j) ∧ (∀ i, (i < 1000 * into ∨ 1000 * into + 1000 ≤ i) → J' 97 i = J 97 i) ∧ ((x < lw d ∧ y < lh d) → ∀ t, t < 1000 → J' 97 (1000 * into + t) = nI (rs d n x y e t).1) := by
  have n10 := v.1
  have x7 := v.2.1
  have y7 := v.2.2.1
  have w8 := hd.2.1
  have h8 := hd.2.2.2.1
  have h64 := cs_le hd
  have is1 : D_X11_is sh.2.2 (up2 J 68 53 (nI k)) L R 68 2 (nI k) = some (bI true) := hi _ L (by rw [up2_ne (by omega)]; exact e73)
  have hr := hasR_eq is1
  generalize hK : up2 J 68 53 (nI k) = K at hr is1
  have k53 : K 68 53 = nI k := by rw [← hK, up2_s]
  have kf : ∀ i, i ≠ 68 → K i = J i := fun i h => by rw [← hK, up2_ne h]
  have kj : ∀ j, j ≠ 53 → K 68 j = J 68 j := fun j h => by rw [← hK, up2_j h]
  have ro : ∀ (J' : I_T), J' 68 53 = nI k → J' 76 = I 76 → ∀ j, j < 23 → D_X11_routeOf sh.2.2 J' L R 68 (nI j) = some (I 76 (23 * k + j)) := fun J' a b j hj => by rw [routeOf_ok h hk a hj, b]
  have k76 : K 76 = I 76 := by rw [kf 76 (by omega)]; exact e76
  have ro0 : D_X11_routeOf sh.2.2 K L R 68 0 = some (nI x) := by rw [← m0]; exact ro K k53 k76 0 (by omega)
  have ro1 : D_X11_routeOf sh.2.2 K L R 68 1 = some (nI y) := by rw [← m1]; exact ro K k53 k76 1 (by omega)
  have kb : K 68 25 = nI (lw d) := by rw [kj 25 (by omega)]; exact e25
  have kc : K 68 26 = nI (cs_ d) := by rw [kj 26 (by omega)]; exact e26
  have base : D_X11_layRoute sh.2.2 J L R 68 (nI k) (nI into) = (if nI x < nI (lw d) then (if nI (lw d * y) < nI (cs_ d) then D_X11_layRoute_65 sh.2.2 K L R 68 (nI into) (nI (lw d * y + x), 0, 0, 0, K) else some (0, K)) else some (0, K)) := by
    rw [D_X11_layRoute, hr, bs_, if_neg (show ¬ bI true = 0 by decide)]
    simp only [ro0, ro1, bs_, kb, kc, nI_mul, nI_add]
  have noK : ∃ J', some ((0 : Int32), K) = some (bI false, J') ∧ (∀ i, i ≠ 68 → i ≠ 97 → J' i = J i) ∧ (∀ j, j ≠ 53 → J' 68 j = J 68 j) ∧ (∀ i, (i < 1000 * into ∨ 1000 * into + 1000 ≤ i) → J' 97 i = J 97 i) := ⟨K, rfl, fun i a b => kf i a, kj, fun i _ => by rw [kf 97 (by omega)]⟩
  rw [base]
  by_cases hx : x < lw d
  · rw [if_pos ((nI_ltI (by omega) (by omega)).mpr hx)]
    by_cases hy : y < lh d
    · have ym : lw d * y < cs_ d := Nat.mul_lt_mul_of_pos_left hy (by have := hd.1; omega)
      rw [if_pos ((nI_ltI (by omega) (by omega)).mpr ym), decide_eq_true (show x < lw d ∧ y < lh d from ⟨hx, hy⟩)]
      have key : ∀ k' t, t + k' = 1000 → ∀ K' : I_T, (∀ i, i ≠ 97 → K' i = K i) → (∀ i, (i < 1000 * into ∨ 1000 * into + 1000 ≤ i) → K' 97 i = K 97 i) → (∀ u, u < t → K' 97 (1000 * into + u) = nI (rs d n x y e u).1) → ∃ J', itC (B_X11_layRoute_65 sh.2.2 K L R 68 (nI into)) (nI (rs d n x y e t).1, nI (rs d n x y e t).2.1, nI (rs d n x y e t).2.2, nI t, K') = some (1, J') ∧ (∀ i, i ≠ 97 → J' i = K i) ∧ (∀ i, (i < 1000 * into ∨ 1000 * into + 1000 ≤ i) → J' 97 i = K 97 i) ∧ ∀ u, u < 1000 → J' 97 (1000 * into + u) = nI (rs d n x y e u).1 := by
        intro k'
        induction k' with
        | zero =>
          intro t ht K' f1 f2 f3
          have : t = 1000 := by omega
          subst this
          refine ⟨K', itC_inr ?_, f1, f2, f3⟩
          unfold B_X11_layRoute_65
          rw [if_neg (show ¬ nI 1000 < 1000 by decide)]
        | succ k' ih =>
          intro t ht K' f1 f2 f3
          obtain ⟨r1, r2, r3, r4⟩ := rs_ok hd v hx hy t
          have g97 : sh.2.2 97 = 2000 := h.z 97 2000 rfl
          have ei : (1000 : Int32) * nI into + nI t = nI (1000 * into + t) := by rw [show (1000 : Int32) = nI 1000 from rfl, nI_mul, nI_add]
          generalize hK2 : up2 K' 97 (1000 * into + t) (nI (rs d n x y e t).1) = K2
          have a1 : ∀ i, i ≠ 97 → K2 i = K i := fun i hi => by rw [← hK2, up2_ne hi]; exact f1 i hi
          have a2 : ∀ i, (i < 1000 * into ∨ 1000 * into + 1000 ≤ i) → K2 97 i = K 97 i := fun i hi => by rw [← hK2, up2_j (by omega)]; exact f2 i hi
          have a3 : ∀ u, u < t + 1 → K2 97 (1000 * into + u) = nI (rs d n x y e u).1 := fun u hu => by
            by_cases z : u = t
            · subst z
              rw [← hK2, up2_s]
            · rw [← hK2, up2_j (by omega)]
              exact f3 u (by omega)
          have b53 : K2 68 53 = nI k := by rw [a1 68 (by omega)]; exact k53
          have b76 : K2 76 = I 76 := by rw [a1 76 (by omega)]; exact k76
          have b25 : K2 68 25 = nI (lw d) := by rw [a1 68 (by omega)]; exact kb
          have b26 : K2 68 26 = nI (cs_ d) := by rw [a1 68 (by omega)]; exact kc
          have ro2 : D_X11_routeOf sh.2.2 K2 L R 68 2 = some (nI n) := by rw [← m2]; exact ro K2 b53 b76 2 (by omega)
          obtain ⟨J', A, B, C, E⟩ := ih (t + 1) (by omega) K2 a1 a2 a3
          refine ⟨J', (itC_inl ?_).trans A, B, C, E⟩
          show _ = some (Sum.inl (nI (if n = 0 then (rs d n x y e t).1 else go_ d (rs d n x y e t).1 (dj e (rs d n x y e t).2.1)), nI (lg n e (rs d n x y e t).2.1 (rs d n x y e t).2.2).1, nI (lg n e (rs d n x y e t).2.1 (rs d n x y e t).2.2).2, nI (t + 1), K2))
          have t1000 : nI t < 1000 := (nl_lt (k := 1000) (j := 1000) rfl (by omega) (by omega)).mpr (by omega)
          have st : B_X11_layRoute_65 sh.2.2 K L R 68 (nI into) (nI (rs d n x y e t).1, nI (rs d n x y e t).2.1, nI (rs d n x y e t).2.2, nI t, K') = (if nI n = 0 then (D_X11_layRoute_109 sh.2.2 K2 L R 68 (nI into) (nI (rs d n x y e t).1) (nI (rs d n x y e t).2.1) (nI (rs d n x y e t).2.2) (nI t) 4) else ((D_X11_routeOf sh.2.2 K2 L R 68 (3 + (2 * nI (rs d n x y e t).2.1))).bind fun q7 => D_X11_layRoute_109 sh.2.2 K2 L R 68 (nI into) (nI (rs d n x y e t).1) (nI (rs d n x y e t).2.1) (nI (rs d n x y e t).2.2) (nI t) q7)) := by
            unfold B_X11_layRoute_65
            simp only [t1000, if_true, h.r 68 54 97 rfl, bs_, ei, g97]
            rw [if_pos (inb_nI (by omega) (by omega)), cl_nI (by omega), hK2, ro2, bs_]
          rw [st]
          generalize (rs d n x y e t).1 = c at *
          generalize (rs d n x y e t).2.1 = l at *
          generalize (rs d n x y e t).2.2 = g at *
          have fin : ∀ c' : Nat, (0 < n → l < n ∧ g < mj e l) → D_X11_layRoute_132 sh.2.2 K2 L R 68 (nI into) (nI l) (nI g) (nI t) (nI c') = some (.inl (nI c', nI (lg n e l g).1, nI (lg n e l g).2, nI (t + 1), K2)) := fun c' hh => by
            rw [D_X11_layRoute_132, ro2, bs_]
            unfold lg
            by_cases hn : 0 < n
            · obtain ⟨l1, l2⟩ := hh hn
              obtain ⟨v1, v2, v3, v4, v5⟩ := v.leg l1
              have rom : D_X11_routeOf sh.2.2 K2 L R 68 (4 + 2 * nI l) = some (nI (mj e l)) := by
                rw [← v3, ← m3 l 1 l1 (by omega), show (4 : Int32) + 2 * nI l = nI (3 + 2 * l + 1) by rw [show (4 : Int32) = nI 4 from rfl, show (2 : Int32) = nI 2 from rfl, nI_mul, nI_add]; congr 1; omega]
                exact ro K2 b53 b76 _ (by omega)
              rw [if_pos ((ln_lt (k := 0) (j := 0) rfl (by omega) (by omega)).mpr hn), rom, bs_, nI_1]
              by_cases z : g + 1 = mj e l
              · rw [if_pos (by rw [z]), bs_, nI_1, show (if 0 < n ∧ g + 1 = mj e l then ((if l + 1 = n then 0 else l + 1), 0) else (l, g + 1)) = ((if l + 1 = n then 0 else l + 1), 0) from if_pos ⟨hn, z⟩]
                by_cases q : l + 1 = n
                · rw [if_pos (by rw [q]), if_pos q, nI_1]
                  rfl
                · rw [if_neg (fun u => q ((nI_eq (by omega) (by omega)).mp u)), if_neg q, nI_1]
                  rfl
              · rw [if_neg (fun u => z ((nI_eq (by omega) (by omega)).mp u)), if_neg (fun u => z u.2), nI_1]
            · rw [if_neg (fun u => hn ((ln_lt (k := 0) (j := 0) rfl (by omega) (by omega)).mp u)), if_neg (fun u => hn u.1), nI_1, nI_1]
          by_cases hn : n = 0
          · subst hn
            have nk : D_X11_next sh.2.2 K2 L R 68 (nI c) 4 = some (oI (nx d c 4)) := next_ok hd b25 b26 r1 (r := 4) (by omega)
            have n4 : nx d c 4 = some c := rfl
            rw [if_pos (show nI 0 = 0 from rfl), D_X11_layRoute_109, nk, bs_, n4, if_neg (show ¬ oI (some c) = -1 from nI_neg1 (by omega)), if_pos rfl]
            exact fin c (fun z => by omega)
          · have hn' : 0 < n := by omega
            obtain ⟨l1, l2⟩ := r2 hn'
            obtain ⟨v1, v2, v3, v4, v5⟩ := v.leg l1
            have rod : D_X11_routeOf sh.2.2 K2 L R 68 (3 + 2 * nI l) = some (nI (dj e l)) := by
              rw [← v1, ← m3 l 0 l1 (by omega), show (3 : Int32) + 2 * nI l = nI (3 + 2 * l + 0) by rw [show (3 : Int32) = nI 3 from rfl, show (2 : Int32) = nI 2 from rfl, nI_mul, nI_add]; rfl]
              exact ro K2 b53 b76 _ (by omega)
            have nk := next_ok (Z := sh.2.2) (L := L) (R := R) hd b25 b26 r1 v2
            rw [if_neg (fun u => hn ((nl_eq (k := 0) (j := 0) rfl (by omega) (by omega)).mp u)), rod, bs_, D_X11_layRoute_109, nk, bs_, if_neg hn]
            unfold go_
            cases q : nx d c (dj e l) with
            | none =>
              rw [if_pos (show oI none = -1 from rfl)]
              exact fin c r2
            | some j =>
              have jl := nx_lt hd r1 q
              rw [if_neg (show ¬ oI (some j) = -1 from nI_neg1 (by omega))]
              exact fin j r2
      obtain ⟨J', A, B, C, E⟩ := key 1000 0 (by omega) K (fun _ _ => rfl) (fun _ _ => rfl) (fun u hu => by omega)
      refine ⟨J', ?_, fun i i1 i2 => by rw [B i i2]; exact kf i i1, fun j hj => by rw [B 68 (by omega)]; exact kj j hj, fun i hi => by rw [C i hi, kf 97 (by omega)], fun _ => E⟩
      rw [show lw d * y + x = y * lw d + x by rw [Nat.mul_comm]]
      exact A
    · obtain ⟨J', p1, p2, p3, p4⟩ := noK
      have le : cs_ d ≤ lw d * y := Nat.mul_le_mul_left _ (by omega)
      have ub : lw d * y ≤ 8 * 7 := Nat.mul_le_mul w8 y7
      rw [if_neg (fun u => by have := (nI_ltI (by omega) (by omega)).mp u; omega), decide_eq_false (fun u : x < lw d ∧ y < lh d => hy u.2)]
      exact ⟨J', p1, p2, p3, p4, fun u => (hy u.2).elim⟩
  · obtain ⟨J', p1, p2, p3, p4⟩ := noK
    rw [if_neg (fun u => hx ((nI_ltI (by omega) (by omega)).mp u)), decide_eq_false (fun u : x < lw d ∧ y < lh d => hx u.1)]
    exact ⟨J', p1, p2, p3, p4, fun u => (hx u.1).elim⟩
theorem lay_no {Z : Nat → Nat} {J : I_T} {L : L_T} {R : R_T} {v w : Int32} (h : ∀ (I' : I_T) (L' : L_T), I' 73 = J 73 → D_X11_is Z I' L' R 68 2 v = some 0) : D_X11_layRoute Z J L R 68 v w = some (0, up2 J 68 53 v) := by
  have e : D_X11_is Z (up2 J 68 53 v) L R 68 2 v = some (bI false) := h _ L (up2_ne (by omega))
  rw [D_X11_layRoute, hasR_eq e, bs_, if_pos (show bI false = 0 from rfl)]
