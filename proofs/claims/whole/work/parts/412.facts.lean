/-! sights: what the facts leave at a minute -/
def okF (d : ld_T) (n : Nat) (e : Nat → Nat → Int32) (t c : Nat) : Prop := ∀ j, j < n → sn e j 1 = t → (lw d * sn e j 3 + sn e j 2 = c ↔ e j 0 = 1)
theorem mayBe_ok {sh : sh_T} {I J : I_T} {L L' : L_T} {R : R_T} (h : Inv sh I L R) {j : Nat} (hj : j < 2) {d : ld_T} (hd : VD d) {n x y : Nat} {e : Nat → Nat → Int32} (v : VSight n x y e) (m2 : I 77 (43 * j + 2) = nI n) (m3 : ∀ i q, i < n → q < 4 → I 77 (43 * j + (3 + 4 * i + q)) = e i q) (e25 : J 68 25 = nI (lw d)) (e55 : J 68 55 = nI j) (e77 : J 77 = I 77) {c t : Nat} (hc : c < 64) (ht : t ≤ 12) : ∃ q : Bool, D_X11_mayBe sh.2.2 J L' R 68 (nI c) (nI t) = some (bI q) ∧ (q = true ↔ okF d n e t c) := by
  have n10 := v.1
  have w8 := hd.2.1
  have so : ∀ i, i < 43 → D_X11_sightOf sh.2.2 J L' R 68 (nI i) = some (I 77 (43 * j + i)) := fun i hi => by rw [sightOf_ok h hj e55 hi, e77]
  have s2 : D_X11_sightOf sh.2.2 J L' R 68 2 = some (nI n) := by rw [← m2]; exact so 2 (by omega)
  have key : ∀ k' i, i + k' = n → ∃ q : Bool, itC (B_X11_mayBe_2 sh.2.2 J L' R 68 (nI c) (nI t)) (nI i) = some (bI q) ∧ (q = true ↔ ∀ i', i ≤ i' → i' < n → sn e i' 1 = t → (lw d * sn e i' 3 + sn e i' 2 = c ↔ e i' 0 = 1)) := by
    intro k'
    induction k' with
    | zero =>
      intro i hi
      have : i = n := by omega
      subst this
      refine ⟨true, itC_inr ?_, fun _ i' h1 h2 => by omega, fun _ => rfl⟩
      unfold B_X11_mayBe_2
      rw [s2, bs_, if_neg Int32.lt_irrefl]
      rfl
    | succ k' ih =>
      intro i hi
      obtain ⟨l1, l2, l3, l4, l5, l6, l7⟩ := v.line (j := i) (by omega)
      have sf : ∀ q, q < 4 → D_X11_sightOf sh.2.2 J L' R 68 (nI (3 + q) + 4 * nI i) = some (e i q) := fun q hq => by
        rw [← m3 i q (by omega) hq, show nI (3 + q) + 4 * nI i = nI (3 + 4 * i + q) by rw [show (4 : Int32) = nI 4 from rfl, nI_mul, nI_add]; congr 1; omega]
        exact so _ (by omega)
      have t0 : D_X11_sightOf sh.2.2 J L' R 68 (3 + 4 * nI i) = some (e i 0) := sf 0 (by omega)
      have t1 : D_X11_sightOf sh.2.2 J L' R 68 (4 + 4 * nI i) = some (nI (sn e i 1)) := by rw [← l2]; exact sf 1 (by omega)
      have t2 : D_X11_sightOf sh.2.2 J L' R 68 (5 + 4 * nI i) = some (nI (sn e i 2)) := by rw [← l4]; exact sf 2 (by omega)
      have t3 : D_X11_sightOf sh.2.2 J L' R 68 (6 + 4 * nI i) = some (nI (sn e i 3)) := by rw [← l6]; exact sf 3 (by omega)
      have pm : lw d * sn e i 3 ≤ 8 * 7 := Nat.mul_le_mul w8 l7
      have f45 : ∀ b : Bool, D_X11_mayBe_45 sh.2.2 J L' R 68 (nI c) (nI t) (nI i) (bI b) = (if sn e i 1 = t ∧ ¬ (b = true ↔ e i 0 = 1) then some (.inr 0) else some (.inl (nI (i + 1)))) := fun b => by
        rw [D_X11_mayBe_45, t1, bs_]
        by_cases z : sn e i 1 = t
        · rw [if_pos (by rw [z]), t0, bs_]
          by_cases w : e i 0 = 1
          · rw [if_pos w, D_X11_mayBe_80, nI_1]
            cases b with
            | true => rw [if_pos (show bI true = 1 from rfl), if_neg (fun u => u.2 ⟨fun _ => w, fun _ => rfl⟩)]
            | false => rw [if_neg (show ¬ bI false = 1 by decide), if_pos (show sn e i 1 = t ∧ ¬ (false = true ↔ e i 0 = 1) from ⟨z, fun u => by cases u.mpr w⟩)]
          · rw [if_neg w, D_X11_mayBe_80, nI_1]
            cases b with
            | true => rw [if_neg (show ¬ bI true = 0 by decide), if_pos (show sn e i 1 = t ∧ ¬ (true = true ↔ e i 0 = 1) from ⟨z, fun u => w (u.mp rfl)⟩)]
            | false => rw [if_pos (show bI false = 0 from rfl), if_neg (fun u => u.2 ⟨(fun q => by cases q), fun q => (w q).elim⟩)]
        · rw [if_neg (fun u => z ((nI_eq (by omega) (by omega)).mp u)), if_neg (fun u => z u.1), nI_1]
      have st : B_X11_mayBe_2 sh.2.2 J L' R 68 (nI c) (nI t) (nI i) = (if sn e i 1 = t ∧ ¬ (decide (lw d * sn e i 3 + sn e i 2 = c) = true ↔ e i 0 = 1) then some (.inr 0) else some (.inl (nI (i + 1)))) := by
        rw [← f45]
        unfold B_X11_mayBe_2
        rw [s2, bs_, if_pos ((nI_ltI (by omega) (by omega)).mpr (by omega)), t3, bs_, t2, bs_, e25, nI_mul, nI_add]
        by_cases z : lw d * sn e i 3 + sn e i 2 = c
        · rw [if_pos (by rw [z]), decide_eq_true z]
          rfl
        · rw [if_neg (fun u => z ((nI_eq (by omega) (by omega)).mp u)), decide_eq_false z]
          rfl
      by_cases z : sn e i 1 = t ∧ ¬ (decide (lw d * sn e i 3 + sn e i 2 = c) = true ↔ e i 0 = 1)
      · rw [if_pos z] at st
        exact ⟨false, itC_inr st, (fun u => by cases u), fun u => (z.2 (by rw [decide_eq_true_eq]; exact u i (Nat.le_refl _) (by omega) z.1)).elim⟩
      · rw [if_neg z] at st
        obtain ⟨q, q1, q2⟩ := ih (i + 1) (by omega)
        refine ⟨q, (itC_inl st).trans q1, q2.trans ⟨fun u i' h1 h2 h3 => ?_, fun u i' h1 h2 => u i' (by omega) h2⟩⟩
        by_cases w : i' = i
        · subst w
          exact Classical.byContradiction fun no => z ⟨h3, by rw [decide_eq_true_eq]; exact no⟩
        · exact u i' (by omega) h2 h3
  obtain ⟨q, q1, q2⟩ := key n 0 (by omega)
  exact ⟨q, by rw [D_X11_mayBe]; exact q1, q2.trans ⟨fun u j hj => u j (by omega) hj, fun u j _ hj => u j hj⟩⟩
/-- the class's sets of cells by minute -/
theorem allow_ok {Z : Nat → Nat} {I : I_T} {L : L_T} {R : R_T} {a b : Nat} (ha : a < 50) (hb : b < 50) {d : ld_T} (hd : VD d) (cl : CL I L a d) {n x y : Nat} {e : Nat → Nat → Int32} (v : VSight n x y e) (hs : CS I b n x y e) (rb : R b 0 = some (b + 1)) (zb : Z (b + 1) = 40) (r0 : R 59 0 = some 60) (z60 : Z 60 = 13) (al : allIn d n x y e) : ∃ L', D_X7_allow Z I L R 59 a b = some L' ∧ (∀ i, i ≠ 60 → L' i = L i) ∧ ∀ t, t < 13 → ∀ c, c < 64 → (tb (L' 60 t) c = true ↔ c < cs_ d ∧ (t = 0 → c = lw d * y + x) ∧ okF d n e t c) := by
  have h64 := cs_le hd
  have n10 := v.1
  have x7 := v.2.1
  have y7 := v.2.2.1
  have w8 := hd.2.1
  have w2 := hd.1
  have e0 : I a 0 = nI (lw d) := cl.1 0 (by omega)
  have e1 : I a 1 = nI (lh d) := cl.1 1 (by omega)
  have e3 : I b 3 = nI n := hs.2.2.1
  have inl : ∀ x y, x < lw d → y < lh d → y * lw d + x < cs_ d := fun x y hx hy => by
    have : (y + 1) * lw d ≤ lh d * lw d := Nat.mul_le_mul_right _ hy
    rw [Nat.add_mul, Nat.one_mul] at this
    show _ < lw d * lh d
    rw [Nat.mul_comm (lw d)]
    omega
  obtain ⟨M, m1, m2, m3, m4⟩ := fillL_ok (Z := Z) (I := I) (L := L) (R := R) (a := 60) (v := L a 10) (by rw [z60]; decide)
  have s0 := inl x y al.1.1 al.1.2
  have co := cellOf_ok (Z := Z) (L := M) (R := R) hd e0 e1 (show x < 2 ^ 31 by omega) (show y < 2 ^ 31 by omega)
  rw [if_pos al.1] at co
  have bo : D_X10_bit Z I M R (nI (y * lw d + x)) = some (bit_ (y * lw d + x)) := bit_ok (by omega)
  have p0 : D_X10_put_ Z I M R 60 0 (bit_ (y * lw d + x)) = some (up2 M 60 0 (bit_ (y * lw d + x))) := putL_ok (j := 0) (by omega) (by omega) _
  have key : ∀ k j, j + k = n → ∀ L1 : L_T, (∀ i, i ≠ 60 → L1 i = L i) → (∀ t, t < 13 → ∀ c, c < 64 → (tb (L1 60 t) c = true ↔ c < cs_ d ∧ (t = 0 → c = lw d * y + x) ∧ ∀ i, i < j → sn e i 1 = t → (lw d * sn e i 3 + sn e i 2 = c ↔ e i 0 = 1))) → ∃ L', itC (B_X7_allow_36 Z I (up2 M 60 0 (bit_ (y * lw d + x))) R 59 a b) (nI j, L1) = some L' ∧ (∀ i, i ≠ 60 → L' i = L i) ∧ ∀ t, t < 13 → ∀ c, c < 64 → (tb (L' 60 t) c = true ↔ c < cs_ d ∧ (t = 0 → c = lw d * y + x) ∧ okF d n e t c) := by
    intro k
    induction k with
    | zero =>
      intro j hj L1 f g
      have : j = n := by omega
      subst this
      refine ⟨L1, itC_inr ?_, f, g⟩
      unfold B_X7_allow_36
      rw [e3, if_neg Int32.lt_irrefl]
    | succ k ih =>
      intro j hj L1 f g
      obtain ⟨l1, l2, l3, l4, l5, l6, l7⟩ := v.line (j := j) (by omega)
      have pj := al.2 j (by omega)
      have cj := inl (sn e j 2) (sn e j 3) pj.1 pj.2
      have vo : ∀ q, q < 4 → D_X6_value Z I L1 R b (nI j) (nI q) = some (e j q) := fun q hq => value_ok hs rb (by omega) (by omega) (by omega) (by omega) hq
      have v0 : D_X6_value Z I L1 R b (nI j) 0 = some (e j 0) := vo 0 (by omega)
      have v1 : D_X6_value Z I L1 R b (nI j) 1 = some (nI (sn e j 1)) := by rw [← l2]; exact vo 1 (by omega)
      have v2 : D_X6_value Z I L1 R b (nI j) 2 = some (nI (sn e j 2)) := by rw [← l4]; exact vo 2 (by omega)
      have v3 : D_X6_value Z I L1 R b (nI j) 3 = some (nI (sn e j 3)) := by rw [← l6]; exact vo 3 (by omega)
      have cj' := cellOf_ok (Z := Z) (L := L1) (R := R) hd e0 e1 (show sn e j 2 < 2 ^ 31 by omega) (show sn e j 3 < 2 ^ 31 by omega)
      rw [if_pos pj] at cj'
      have nxt : ∀ w : Int64, (∀ c, c < 64 → (tb w c = true ↔ (lw d * sn e j 3 + sn e j 2 = c ↔ e j 0 = 1))) → ∃ L', itC (B_X7_allow_36 Z I (up2 M 60 0 (bit_ (y * lw d + x))) R 59 a b) (nI (j + 1), up2 L1 60 (sn e j 1) (L1 60 (sn e j 1) &&& w)) = some L' ∧ (∀ i, i ≠ 60 → L' i = L i) ∧ ∀ t, t < 13 → ∀ c, c < 64 → (tb (L' 60 t) c = true ↔ c < cs_ d ∧ (t = 0 → c = lw d * y + x) ∧ okF d n e t c) := fun w hw => by
        refine ih (j + 1) (by omega) _ (fun i hi => by rw [up2_ne hi]; exact f i hi) (fun t ht c hc => ?_)
        by_cases z : t = sn e j 1
        · subst z
          rw [up2_s, tb_and, Bool.and_eq_true, g _ ht c hc, hw c hc]
          constructor
          · rintro ⟨⟨u1, u2, u3⟩, u4⟩
            refine ⟨u1, u2, fun i hi ei => ?_⟩
            by_cases q : i = j
            · subst q
              exact u4
            · exact u3 i (by omega) ei
          · rintro ⟨u1, u2, u3⟩
            exact ⟨⟨u1, u2, fun i hi ei => u3 i (by omega) ei⟩, u3 j (by omega) rfl⟩
        · rw [up2_j z, g t ht c hc]
          constructor
          · rintro ⟨u1, u2, u3⟩
            refine ⟨u1, u2, fun i hi ei => ?_⟩
            by_cases q : i = j
            · subst q
              exact (z ei.symm).elim
            · exact u3 i (by omega) ei
          · rintro ⟨u1, u2, u3⟩
            exact ⟨u1, u2, fun i hi ei => u3 i (by omega) ei⟩
      have st : B_X7_allow_36 Z I (up2 M 60 0 (bit_ (y * lw d + x))) R 59 a b (nI j, L1) = some (.inl (nI (j + 1), up2 L1 60 (sn e j 1) (L1 60 (sn e j 1) &&& (if e j 0 = 1 then bit_ (sn e j 3 * lw d + sn e j 2) else bit_ (sn e j 3 * lw d + sn e j 2) ^^^ (-1))))) := by
        have pt : ∀ w : Int64, D_X10_put_ Z I L1 R 60 (nI (sn e j 1)) w = some (up2 L1 60 (sn e j 1) w) := fun w => putL_ok (by omega) (by omega) w
        unfold B_X7_allow_36
        rw [e3, if_pos ((nI_ltI (by omega) (by omega)).mpr (by omega)), v1, bs_, v2, bs_, v3, bs_, cj', bs_, bit_ok (by omega), bs_, r0, bs_, getL_ok (by omega) (by omega), bs_, v0, bs_]
        by_cases z : e j 0 = 1
        · rw [if_pos z, if_pos z, D_X7_allow_109, pt, bs_, nI_1]
        · rw [if_neg z, if_neg z, D_X7_allow_109, pt, bs_, nI_1]
      obtain ⟨L', A, B⟩ := nxt (if e j 0 = 1 then bit_ (sn e j 3 * lw d + sn e j 2) else bit_ (sn e j 3 * lw d + sn e j 2) ^^^ (-1)) (fun c hc => by
        by_cases z : e j 0 = 1
        · rw [if_pos z, tb_bit c hc, decide_eq_true_eq, Nat.mul_comm (sn e j 3)]
          exact ⟨fun u => ⟨fun _ => z, fun _ => u.symm⟩, fun u => (u.mpr z).symm⟩
        · rw [if_neg z, tb_not _ hc, tb_bit c hc, Bool.not_eq_true', decide_eq_false_iff_not, Nat.mul_comm (sn e j 3)]
          exact ⟨fun u => ⟨fun q => (u q.symm).elim, fun q => (z q).elim⟩, fun u q => z (u.mp q.symm)⟩)
      exact ⟨L', (itC_inl st).trans A, B⟩
  obtain ⟨L', A, B⟩ := key n 0 (by omega) (up2 M 60 0 (bit_ (y * lw d + x))) (fun i hi => by rw [up2_ne hi]; exact m2 i hi) (fun t ht c hc => by
    by_cases z : t = 0
    · subst z
      rw [up2_s, tb_bit c hc, decide_eq_true_eq, Nat.mul_comm y]
      constructor
      · intro u
        subst u
        exact ⟨by rw [Nat.mul_comm]; exact s0, fun _ => rfl, fun i hi => by omega⟩
      · exact fun u => u.2.1 rfl
    · rw [up2_j z, m3 t (by omega), cl.2.2.2.1 c hc, decide_eq_true_eq]
      exact ⟨fun u => ⟨u, fun q => (z q).elim, fun i hi => by omega⟩, fun u => u.1⟩)
  refine ⟨L', ?_, B⟩
  rw [D_X7_allow, r0, bs_, m1, bs_, hs.1, hs.2.1, co, bs_, bo, bs_, p0, bs_]
  exact A
