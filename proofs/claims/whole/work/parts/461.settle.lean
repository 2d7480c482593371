/-! texts: a land settled -/
theorem dm_ {w r c : Nat} (hc : c < w) : (w * r + c) / w = r ∧ (w * r + c) % w = c := by
  have hw : 0 < w := by omega
  constructor
  · rw [Nat.mul_add_div hw, Nat.div_eq_of_lt hc, Nat.add_zero]
  · rw [Nat.mul_add_mod, Nat.mod_eq_of_lt hc]
theorem pl_sh : ∀ m, m < 64 → (nI m) >>> ((3 : Int32) &&& 31) = nI (m / 8) ∧ nI m &&& 7 = nI (m % 8) := by decide +kernel
/-- rows of eight brought together, up to row r, column c -/
def Pkd (h0 : Nat → Nat) (A : Nat → Int32) (w r c : Nat) : Prop := (∀ q, q < w * r + c → A q = nI (h0 (8 * (q / w) + q % w))) ∧ ∀ p, 8 * r + c ≤ p → p < 64 → A p = nI (h0 p)
theorem Pkd.step {h0 : Nat → Nat} {A : Nat → Int32} {w r c : Nat} (h : Pkd h0 A w r c) (hc : c < w) (hw : w ≤ 8) {A' : Nat → Int32} (a1 : A' (w * r + c) = nI (h0 (8 * r + c))) (a2 : ∀ i, i ≠ w * r + c → A' i = A i) : Pkd h0 A' w r (c + 1) := by
  have le : w * r ≤ 8 * r := Nat.mul_le_mul_right r hw
  refine ⟨fun q hq => ?_, fun p h1 h2 => ?_⟩
  · by_cases z : q = w * r + c
    · obtain ⟨d1, d2⟩ := dm_ (r := r) hc
      rw [z, a1, d1, d2]
    · rw [a2 q z]
      exact h.1 q (by omega)
  · rw [a2 p (by omega)]
    exact h.2 p (by omega) h2
theorem Pkd.next {h0 : Nat → Nat} {A : Nat → Int32} {w r : Nat} (h : Pkd h0 A w r w) (hw : w ≤ 8) : Pkd h0 A w (r + 1) 0 := by
  refine ⟨fun q hq => h.1 q ?_, fun p h1 h2 => h.2 p (by omega) h2⟩
  rw [Nat.mul_add, Nat.mul_one] at hq
  omega
section
variable {Z : Nat → Nat} {L : L_T} {R : R_T}
/-- a row settled -/
theorem settle_row (lz : LZ Z R 36) {w r : Nat} (hw2 : 2 ≤ w) (hw : w ≤ 8) (hr : r < 8) {h0 k0 : Nat → Nat} (I9 : I_T) : ∀ k c (J : I_T), c + k = w → J 36 0 = nI w → Pkd h0 (J 37) w r c → Pkd k0 (J 38) w r c → ∃ J', itC (B_X2_settle_22 Z I9 L R 36 (nI r)) (nI c, J) = some (.inl (nI (r + 1), J', up2 (up2 L 36 11 (L 36 11 ||| bit_ (w * r))) 36 12 (L 36 12 ||| bit_ (w * r + w - 1)))) ∧ (∀ a, a ≠ 37 → a ≠ 38 → J' a = J a) ∧ Pkd h0 (J' 37) w r w ∧ Pkd k0 (J' 38) w r w := by
  obtain ⟨r6, r7, r8, r9, z6, z7, z8, z9⟩ := lz
  have z37 : Z 37 = 64 := z6
  have z38 : Z 38 = 64 := z7
  have z40 : Z 40 = 5 := z9
  have wr : w * r ≤ 8 * r := Nat.mul_le_mul_right r hw
  intro k
  induction k with
  | zero =>
    intro c J hc j0 p1 p2
    have : c = w := by omega
    subst this
    refine ⟨J, itC_inr ?_, fun _ _ _ => rfl, p1, p2⟩
    have e1 : nI r * nI c = nI (c * r) := by rw [nI_mul, Nat.mul_comm]
    unfold B_X2_settle_22
    dsimp only
    rw [if_neg (show ¬ nI c < J 36 0 from fun u => by rw [j0] at u; have := (nI_ltI (by omega) (by omega)).mp u; omega), j0, e1, bit_ok (by omega), bs_, bs_, nI_add, show (1 : Int32) = nI 1 from rfl, nI_sub (show 1 ≤ c * r + c by omega), bit_ok (show c * r + c - 1 < 64 by omega), bs_, up2_j (show (12 : Nat) ≠ 11 by decide), bs_, nI_add]
  | succ k ih =>
    intro c J hc j0 p1 p2
    have e1 : nI r * 8 + nI c = nI (8 * r + c) := by rw [show (8 : Int32) = nI 8 from rfl, nI_mul, nI_add, Nat.mul_comm]
    have e2 : nI r * nI w + nI c = nI (w * r + c) := by rw [nI_mul, nI_add, Nat.mul_comm]
    have v1 := p1.2 (8 * r + c) (Nat.le_refl _) (by omega)
    have v2 := p2.2 (8 * r + c) (Nat.le_refl _) (by omega)
    generalize hJ1 : up2 (up2 J 37 (w * r + c) (nI (h0 (8 * r + c)))) 38 (w * r + c) (nI (k0 (8 * r + c))) = J1
    have o1 : ∀ a, a ≠ 37 → a ≠ 38 → J1 a = J a := fun a h1 h2 => by rw [← hJ1, up2_ne h2, up2_ne h1]
    obtain ⟨J', b1, b2, b3, b4⟩ := ih (c + 1) J1 (by omega) (by rw [o1 36 (by omega) (by omega)]; exact j0) (p1.step (by omega) hw (by rw [← hJ1, up2_ne (by omega), up2_s]) (fun i hi => by rw [← hJ1, up2_ne (by omega), up2_j hi])) (p2.step (by omega) hw (by rw [← hJ1, up2_s]) (fun i hi => by rw [← hJ1, up2_j hi, up2_ne (by omega)]))
    refine ⟨J', (itC_inl ?_).trans b1, fun a h1 h2 => by rw [b2 a h1 h2, o1 a h1 h2], b3, b4⟩
    unfold B_X2_settle_22
    dsimp only
    rw [if_pos (show nI c < J 36 0 by rw [j0]; exact (nI_ltI (by omega) (by omega)).mpr (by omega)), r6, bs_, e1, get_ok (by omega) (by omega), bs_, v1, j0, e2, put_ok (by omega) (by omega), bs_, r7, bs_, get_ok (by omega) (by omega), bs_, up2_ne (show (36 + 2 : Nat) ≠ 36 + 1 by decide), show (36 + 2 : Nat) = 38 from rfl, v2, up2_ne (show (36 : Nat) ≠ 36 + 1 by decide), j0, e2, put_ok (by omega) (by omega), bs_, nI_1, show (36 + 1 : Nat) = 37 from rfl, hJ1]
theorem or_bit {x : Int64} {c : Nat} {P : Nat → Bool} (hx : ∀ i, i < 64 → tb x i = P i) {Q : Nat → Bool} (hQ : ∀ i, i < 64 → Q i = (P i || decide (i = c))) : ∀ i, i < 64 → tb (x ||| bit_ c) i = Q i := fun i hi => by rw [tb_or, hx i hi, tb_bit i hi, hQ i hi]
theorem settle_ok (lz : LZ Z R 36) {J : I_T} {w h c : Nat} {h0 k0 x y : Nat → Nat} (hw2 : 2 ≤ w) (hw : w ≤ 8) (hh2 : 2 ≤ h) (hh : h ≤ 8) (hc : c ≤ 5) (j0 : J 36 0 = nI w) (j1 : J 36 1 = nI h) (j5 : J 36 5 = nI c) (j7 : ∀ i, i < 64 → J 37 i = nI (h0 i)) (j8 : ∀ i, i < 64 → J 38 i = nI (k0 i)) (jp : ∀ p, p < c → x p < 8 ∧ y p < 8 ∧ J 40 p = nI (8 * y p + x p)) : ∃ J' L', D_X2_settle Z J L R 36 = some (J', L') ∧ (∀ a, a ≠ 37 → a ≠ 38 → a ≠ 40 → J' a = J a) ∧ (∀ a, a ≠ 36 → L' a = L a) ∧ (∀ q, q < w * h → J' 37 q = nI (h0 (8 * (q / w) + q % w)) ∧ J' 38 q = nI (k0 (8 * (q / w) + q % w))) ∧ (∀ p, p < c → J' 40 p = nI (w * y p + x p)) ∧ (∀ i, i < 64 → tb (L' 36 10) i = decide (i < w * h)) ∧ (∀ i, i < 64 → tb (L' 36 11) i = (decide (i < w * h) && decide (i % w = 0))) ∧ ∀ i, i < 64 → tb (L' 36 12) i = (decide (i < w * h) && decide (i % w + 1 = w)) := by
  have lz' := lz
  obtain ⟨r6, r7, r8, r9, z6, z7, z8, z9⟩ := lz
  have z37 : Z 37 = 64 := z6
  have z38 : Z 38 = 64 := z7
  have z40 : Z 40 = 5 := z9
  have wh64 : w * h ≤ 64 := Nat.le_trans (Nat.mul_le_mul hw hh) (by omega)
  -- people
  have ppl : ∀ (I9 : I_T) (L9 : L_T) k p (J1 : I_T), p + k = c → J1 36 = J 36 → (∀ q, q < p → J1 40 q = nI (w * y q + x q)) → (∀ q, p ≤ q → J1 40 q = J 40 q) → ∃ J', itC (B_X2_settle_182 Z I9 L9 R 36) (nI p, J1) = some (J', L9) ∧ (∀ a, a ≠ 40 → J' a = J1 a) ∧ ∀ q, q < c → J' 40 q = nI (w * y q + x q) := by
    intro I9 L9 k
    induction k with
    | zero =>
      intro p J1 hp e36 a1 a2
      refine ⟨J1, itC_inr ?_, fun _ _ => rfl, fun q hq => a1 q (by omega)⟩
      unfold B_X2_settle_182
      dsimp only
      rw [if_neg (show ¬ nI p < J1 36 5 from fun u => by rw [e36, j5] at u; have := (nI_ltI (by omega) (by omega)).mp u; omega)]
    | succ k ih =>
      intro p J1 hp e36 a1 a2
      obtain ⟨x8, y8, q8⟩ := jp p (by omega)
      obtain ⟨s1, s2⟩ := pl_sh (8 * y p + x p) (by omega)
      obtain ⟨J', b1, b2, b3⟩ := ih (p + 1) (up2 J1 40 p (nI (w * y p + x p))) (by omega) (by rw [up2_ne (by omega)]; exact e36) (fun q hq => by
        by_cases z : q = p
        · rw [z, up2_s]
        · rw [up2_j z]
          exact a1 q (by omega)) (fun q hq => by rw [up2_j (by omega)]; exact a2 q (by omega))
      refine ⟨J', (itC_inl ?_).trans b1, fun a ha => by rw [b2 a ha, up2_ne ha], b3⟩
      unfold B_X2_settle_182
      dsimp only
      rw [if_pos (show nI p < J1 36 5 by rw [e36, j5]; exact (nI_ltI (by omega) (by omega)).mpr (by omega)), r9, bs_, get_ok (by omega) (by omega), bs_, show (36 + 4 : Nat) = 40 from rfl, a2 p (Nat.le_refl _), q8, s1, s2, e36, j0, nI_mul, nI_add, show (8 * y p + x p) / 8 * w + (8 * y p + x p) % 8 = w * y p + x p by rw [show (8 * y p + x p) / 8 = y p by omega, show (8 * y p + x p) % 8 = x p by omega, Nat.mul_comm], put_ok (by omega) (by omega), bs_, nI_1]
  -- the set of cells
  have cel : ∀ (I9 : I_T) (L9 : L_T) (J1 : I_T), J1 36 = J 36 → (J1 40 = J 40) → ∀ k q (M : L_T), q + k = w * h → (∀ i, i < 64 → tb (M 36 10) i = decide (i < q)) → ∃ J' L', itC (B_X2_settle_148 Z J1 L9 R 36) (nI q, M) = some (J', L') ∧ (∀ a, a ≠ 40 → J' a = J1 a) ∧ (∀ p, p < c → J' 40 p = nI (w * y p + x p)) ∧ (∀ a, a ≠ 36 → L' a = M a) ∧ (∀ j, j ≠ 10 → L' 36 j = M 36 j) ∧ ∀ i, i < 64 → tb (L' 36 10) i = decide (i < w * h) := by
    intro I9 L9 J1 e36 e40 k
    induction k with
    | zero =>
      intro q M hq m1
      have : q = w * h := by omega
      subst this
      obtain ⟨J', b1, b2, b3⟩ := ppl J1 M c 0 J1 (by omega) e36 (fun q hq => by omega) (fun q _ => by rw [e40])
      refine ⟨J', M, itC_inr ?_, b2, b3, fun _ _ => rfl, fun _ _ => rfl, m1⟩
      unfold B_X2_settle_148
      dsimp only
      rw [e36, j0, j1, nI_mul, if_neg (fun u => by have := (nI_ltI (by omega) (by omega)).mp u; omega), D_X2_settle_182, show (0 : Int32) = nI 0 from rfl, b1, bs_]
    | succ k ih =>
      intro q M hq m1
      obtain ⟨J', L', b1, b2, b3, b4, b5, b6⟩ := ih (q + 1) (up2 M 36 10 (M 36 10 ||| bit_ q)) (by omega) (by
        rw [up2_s]
        refine or_bit m1 (fun i hi => ?_)
        by_cases z : i = q
        · rw [decide_eq_true (show i < q + 1 by omega), decide_eq_true z, Bool.or_true]
        · rw [decide_eq_false z, Bool.or_false]
          exact decide_eq_decide.mpr ⟨fun _ => by omega, fun _ => by omega⟩)
      refine ⟨J', L', (itC_inl ?_).trans b1, b2, b3, fun a ha => by rw [b4 a ha, up2_ne ha], fun j hj => by rw [b5 j hj, up2_j hj], b6⟩
      unfold B_X2_settle_148
      dsimp only
      rw [e36, j0, j1, nI_mul, if_pos ((nI_ltI (by omega) (by omega)).mpr (by omega)), bit_ok (by omega), bs_, bs_, nI_1]
  -- the rows
  have rows : ∀ (I9 : I_T) (L9 : L_T) k r (J1 : I_T) (M : L_T), r + k = h → (∀ a, a ≠ 37 → a ≠ 38 → J1 a = J a) → Pkd h0 (J1 37) w r 0 → Pkd k0 (J1 38) w r 0 → (∀ a, a ≠ 36 → M a = L a) → (∀ i, i < 64 → tb (M 36 11) i = (decide (i < w * r) && decide (i % w = 0))) → (∀ i, i < 64 → tb (M 36 12) i = (decide (i < w * r) && decide (i % w + 1 = w))) → ∃ J' L', itC (B_X2_settle_12 Z I9 L9 R 36) (nI r, J1, M) = some (J', L') ∧ (∀ a, a ≠ 37 → a ≠ 38 → a ≠ 40 → J' a = J a) ∧ (∀ a, a ≠ 36 → L' a = L a) ∧ (∀ q, q < w * h → J' 37 q = nI (h0 (8 * (q / w) + q % w)) ∧ J' 38 q = nI (k0 (8 * (q / w) + q % w))) ∧ (∀ p, p < c → J' 40 p = nI (w * y p + x p)) ∧ (∀ i, i < 64 → tb (L' 36 10) i = decide (i < w * h)) ∧ (∀ i, i < 64 → tb (L' 36 11) i = (decide (i < w * h) && decide (i % w = 0))) ∧ ∀ i, i < 64 → tb (L' 36 12) i = (decide (i < w * h) && decide (i % w + 1 = w)) := by
    intro I9 L9 k
    induction k with
    | zero =>
      intro r J1 M hr e1 p1 p2 l0 l1 l2
      have : r = h := by omega
      subst this
      obtain ⟨J', L', b1, b2, b3, b4, b5, b6⟩ := cel J1 (up2 M 36 10 0) J1 (e1 36 (by omega) (by omega)) (e1 40 (by omega) (by omega)) (w * r) 0 (up2 M 36 10 0) (by omega) (fun i _ => by rw [up2_s, tb_0, decide_eq_false (by omega)])
      refine ⟨J', L', itC_inr ?_, fun a h1 h2 h3 => by rw [b2 a h3, e1 a h1 h2], fun a ha => by rw [b4 a ha, up2_ne ha, l0 a ha], fun q hq => ⟨?_, ?_⟩, b3, b6, fun i hi => ?_, fun i hi => ?_⟩
      · unfold B_X2_settle_12
        dsimp only
        rw [if_neg (show ¬ nI r < J1 36 1 from fun u => by rw [e1 36 (by omega) (by omega), j1] at u; have := (nI_ltI (by omega) (by omega)).mp u; omega), bs_, D_X2_settle_148, show (0 : Int32) = nI 0 from rfl, b1, bs_]
      · rw [b2 37 (by omega)]
        exact p1.1 q (by omega)
      · rw [b2 38 (by omega)]
        exact p2.1 q (by omega)
      · rw [b5 11 (by omega), up2_j (by omega)]
        exact l1 i hi
      · rw [b5 12 (by omega), up2_j (by omega)]
        exact l2 i hi
    | succ k ih =>
      intro r J1 M hr e1 p1 p2 l0 l1 l2
      have wr8 : w * r ≤ 8 * r := Nat.mul_le_mul_right r hw
      obtain ⟨J2, s1, s2, s3, s4⟩ := settle_row (L := M) lz' hw2 hw (show r < 8 by omega) J1 w 0 J1 (by omega) (by rw [e1 36 (by omega) (by omega)]; exact j0) p1 p2
      have wm : w * (r + 1) = w * r + w := by rw [Nat.mul_add, Nat.mul_one]
      have cl : ∀ i, i < 64 → w * r ≤ i → i < w * r + w → i % w = i - w * r := fun i _ h1 h2 => by
        have := (dm_ (w := w) (r := r) (c := i - w * r) (by omega)).2
        rwa [show w * r + (i - w * r) = i by omega] at this
      obtain ⟨J', L', b1, b2⟩ := ih (r + 1) J2 (up2 (up2 M 36 11 (M 36 11 ||| bit_ (w * r))) 36 12 (M 36 12 ||| bit_ (w * r + w - 1))) (by omega) (fun a h1 h2 => by rw [s2 a h1 h2, e1 a h1 h2]) (s3.next hw) (s4.next hw) (fun a ha => by rw [up2_ne ha, up2_ne ha, l0 a ha]) (by
        rw [up2_j (show (11 : Nat) ≠ 12 by decide), up2_s, wm]
        refine or_bit l1 (fun i hi => ?_)
        by_cases z1 : i < w * r
        · rw [decide_eq_true z1, decide_eq_true (show i < w * r + w by omega), decide_eq_false (show ¬ i = w * r by omega), Bool.or_false]
        · rw [decide_eq_false z1, Bool.false_and, Bool.false_or]
          by_cases z2 : i < w * r + w
          · rw [decide_eq_true z2, Bool.true_and, cl i hi (by omega) z2]
            exact decide_eq_decide.mpr ⟨fun _ => by omega, fun _ => by omega⟩
          · rw [decide_eq_false z2, Bool.false_and, decide_eq_false (by omega)]) (by
        rw [up2_s, wm]
        refine or_bit l2 (fun i hi => ?_)
        by_cases z1 : i < w * r
        · rw [decide_eq_true z1, decide_eq_true (show i < w * r + w by omega), decide_eq_false (show ¬ i = w * r + w - 1 by omega), Bool.or_false]
        · rw [decide_eq_false z1, Bool.false_and, Bool.false_or]
          by_cases z2 : i < w * r + w
          · rw [decide_eq_true z2, Bool.true_and, cl i hi (by omega) z2]
            exact decide_eq_decide.mpr ⟨fun _ => by omega, fun _ => by omega⟩
          · rw [decide_eq_false z2, Bool.false_and, decide_eq_false (by omega)])
      refine ⟨J', L', (itC_inl ?_).trans b1, b2⟩
      unfold B_X2_settle_12
      dsimp only
      rw [if_pos (show nI r < J1 36 1 by rw [e1 36 (by omega) (by omega), j1]; exact (nI_ltI (by omega) (by omega)).mpr (by omega)), D_X2_settle_22, show (0 : Int32) = nI 0 from rfl]
      exact s1
  obtain ⟨J', L', b1, b2⟩ := rows J (up2 (up2 L 36 11 0) 36 12 0) h 0 J (up2 (up2 L 36 11 0) 36 12 0) (by omega) (fun _ _ _ => rfl) ⟨fun q hq => by omega, fun p _ hp => j7 p hp⟩ ⟨fun q hq => by omega, fun p _ hp => j8 p hp⟩ (fun a ha => by rw [up2_ne ha, up2_ne ha]) (fun i _ => by rw [up2_j (by omega), up2_s, tb_0, decide_eq_false (by omega), Bool.false_and]) (fun i _ => by rw [up2_s, tb_0, decide_eq_false (by omega), Bool.false_and])
  refine ⟨J', L', ?_, b2⟩
  rw [D_X2_settle, bs_, bs_, D_X2_settle_12, show (0 : Int32) = nI 0 from rfl]
  exact b1
end
