/-! moored: the first fourteen, the neighbours' words, the sets -/
def sl_ (B : Nat → Bool) (c : Nat) : Bool := B c && decide (fb_ct B c < 14)
theorem sl_ct (B : Nat → Bool) : ∀ c, fb_ct (sl_ B) c = min 14 (fb_ct B c)
  | 0 => rfl
  | c + 1 => by
    have ih := sl_ct B c
    rw [fb_ct_succ, fb_ct_succ, ih]
    have e : sl_ B c = (B c && decide (fb_ct B c < 14)) := rfl
    rw [e]
    cases B c with
    | false => simp
    | true =>
      by_cases z : fb_ct B c < 14
      · rw [decide_eq_true z]
        simp
        omega
      · rw [decide_eq_false z]
        simp
        omega
/-- bits of those that a set has, by their places in the row -/
def pw_ (B q : Nat → Bool) : Nat → Int32
  | 0 => 0
  | e + 1 => if sl_ B e = true ∧ q e = true then pw_ B q e ||| ((1 : Int32) <<< (nI (fb_ct (sl_ B) e) &&& 31)) else pw_ B q e
theorem pw_cong {B p q : Nat → Bool} : ∀ {n : Nat}, (∀ e, e < n → sl_ B e = true → p e = q e) → pw_ B p n = pw_ B q n
  | 0, _ => rfl
  | n + 1, h => by
    show (if sl_ B n = true ∧ p n = true then pw_ B p n ||| _ else pw_ B p n) = (if sl_ B n = true ∧ q n = true then pw_ B q n ||| _ else pw_ B q n)
    rw [pw_cong (fun e he => h e (by omega))]
    by_cases z : sl_ B n = true
    · rw [h n (by omega) z]
    · rw [if_neg (fun u => z u.1), if_neg (fun u => z u.1)]
theorem places_ok {Z : Nat → Nat} {I : I_T} {L : L_T} {R : R_T} {B q : Nat → Bool} {x w : Int64} (hw : isS w (sl_ B)) (hx : isS x q) : D_X3_placesOf Z I L R x w = some (pw_ B q 64) := by
  refine itC_count (f := B_X3_placesOf_9 Z I L R x w) (fun e => (pw_ B q e, nI (fb_ct (sl_ B) e), nI e)) (n := 64) (fun e he => ?_) ?_
  · have lt : nI e < 64 := (nl_lt (k := 64) (j := 64) rfl (by omega) (by omega)).mpr he
    unfold B_X3_placesOf_9
    rw [if_pos lt, has_ok he, bs_, hw e he, has_ok he, bs_, hx e he, fb_ct_succ, nI_1]
    show _ = some (Sum.inl ((if sl_ B e = true ∧ q e = true then pw_ B q e ||| ((1 : Int32) <<< (nI (fb_ct (sl_ B) e) &&& 31)) else pw_ B q e), _, nI (e + 1)))
    cases sl_ B e with
    | false =>
      rw [if_pos (show bI false = 0 from rfl), if_neg (fun u => by cases u.1)]
      rfl
    | true =>
      rw [if_neg (show ¬ bI true = 0 by decide)]
      cases q e with
      | false =>
        rw [if_pos (show bI false = 0 from rfl), if_neg (fun u => by cases u.2), Int32.or_zero, nI_1]
        rfl
      | true =>
        rw [if_neg (show ¬ bI true = 0 by decide), if_pos ⟨rfl, rfl⟩, nI_1]
        rfl
  · unfold B_X3_placesOf_9
    rw [if_neg (show ¬ nI 64 < 64 by decide)]
def ap_ (W : Nat → Int32) (n : Nat) : Nat → Bool
  | 0 => true
  | k + 1 => ap_ W n k && (!n.testBit k || decide (nI n &&& W k = 0))
def best_ (W : Nat → Int32) (N : Nat) : Nat → Nat
  | 0 => 0
  | m + 1 => if popc (best_ W N m) < popc (m + 1) ∧ ap_ W (m + 1) N = true then m + 1 else best_ W N m
theorem best_le (W : Nat → Int32) (N : Nat) : ∀ m, best_ W N m ≤ m
  | 0 => Nat.le_refl _
  | m + 1 => by
    have := best_le W N m
    show (if popc (best_ W N m) < popc (m + 1) ∧ ap_ W (m + 1) N = true then m + 1 else best_ W N m) ≤ m + 1
    by_cases z : popc (best_ W N m) < popc (m + 1) ∧ ap_ W (m + 1) N = true
    · rw [if_pos z]
      exact Nat.le_refl _
    · rw [if_neg z]
      omega
theorem popc_le (n : Nat) : popc n ≤ 14 := fb_ct_le _ 14
theorem bit_lt {n N k : Nat} (hn : n < 2 ^ N) (hk : N ≤ k) : n.testBit k = false := Nat.testBit_lt_two_pow (Nat.lt_of_lt_of_le hn (Nat.pow_le_pow_right (by decide) hk))
theorem ap_more {W : Nat → Int32} {n N : Nat} (hn : n < 2 ^ N) : ∀ k, ap_ W n (N + k) = ap_ W n N
  | 0 => rfl
  | k + 1 => by
    show (ap_ W n (N + k) && (!n.testBit (N + k) || _)) = _
    rw [bit_lt hn (by omega), ap_more hn k]
    simp
theorem apart_ok {Z : Nat → Nat} {I : I_T} {L : L_T} {R : R_T} (r3 : R 63 3 = some 66) (z66 : Z 66 = 14) {n : Nat} (hn : n < 2 ^ 31) : D_X3_isApart Z I L R 63 (nI n) = some (bI (ap_ (I 66) n 14)) := by
  have key : ∀ m k, k + m = 14 → ∃ b : Bool, itC (B_X3_isApart_2 Z I L R 63 (nI n)) (nI k) = some (bI b) ∧ (b = true ↔ ∀ j, k ≤ j → j < 14 → n.testBit j = true → nI n &&& I 66 j = 0) := by
    intro m
    induction m with
    | zero =>
      intro k hk
      have : k = 14 := by omega
      subst this
      refine ⟨true, itC_inr ?_, fun _ j h1 h2 => by omega, fun _ => rfl⟩
      unfold B_X3_isApart_2
      rw [r3, bs_, z66, if_neg Int32.lt_irrefl]
      rfl
    | succ m ih =>
      intro k hk
      have ik : inb (nI k) (Z 66) = true := inb_nI (by omega) (by omega)
      have st : B_X3_isApart_2 Z I L R 63 (nI n) (nI k) = (if bI (n.testBit k) = 0 then some (.inl (nI (k + 1))) else if (nI n &&& I 66 k) = 0 then some (.inl (nI (k + 1))) else some (.inr 0)) := by
        unfold B_X3_isApart_2
        rw [r3, bs_, if_pos ik, cl_nI (by omega), z66, if_pos ((nI_ltI (by omega) (by omega)).mpr (by omega)), shr_1 hn (by omega), nI_1]
      have go : (n.testBit k = true → nI n &&& I 66 k = 0) → B_X3_isApart_2 Z I L R 63 (nI n) (nI k) = some (.inl (nI (k + 1))) → ∃ b : Bool, itC (B_X3_isApart_2 Z I L R 63 (nI n)) (nI k) = some (bI b) ∧ (b = true ↔ ∀ j, k ≤ j → j < 14 → n.testBit j = true → nI n &&& I 66 j = 0) := fun q e => by
        obtain ⟨b, b1, b2⟩ := ih (k + 1) (by omega)
        refine ⟨b, (itC_inl e).trans b1, b2.trans ⟨?_, ?_⟩⟩
        · intro a j h1 h2 h3
          by_cases z : j = k
          · subst z
            exact q h3
          · exact a j (by omega) h2 h3
        · exact fun a j h1 h2 h3 => a j (by omega) h2 h3
      cases q : n.testBit k with
      | false =>
        rw [q, if_pos (show bI false = 0 from rfl)] at st
        exact go (fun u => by rw [q] at u; cases u) st
      | true =>
        rw [q, if_neg (show ¬ bI true = 0 by decide)] at st
        by_cases z : (nI n &&& I 66 k) = 0
        · rw [if_pos z] at st
          exact go (fun _ => z) st
        · rw [if_neg z] at st
          exact ⟨false, itC_inr st, (fun u => by cases u), fun a => (z (a k (Nat.le_refl _) (by omega) q)).elim⟩
  obtain ⟨b, b1, b2⟩ := key 14 0 (by omega)
  rw [D_X3_isApart]
  refine Eq.trans b1 ?_
  have ap : ∀ m, ap_ (I 66) n m = true ↔ ∀ j, j < m → n.testBit j = true → nI n &&& I 66 j = 0 := by
    intro m
    induction m with
    | zero => exact ⟨fun _ j h => by omega, fun _ => rfl⟩
    | succ m ih =>
      show (ap_ (I 66) n m && (!n.testBit m || decide (nI n &&& I 66 m = 0))) = true ↔ _
      rw [Bool.and_eq_true, ih, Bool.or_eq_true]
      constructor
      · rintro ⟨a, b⟩ j hj hb
        by_cases z : j = m
        · subst z
          rcases b with b | b
          · rw [hb] at b
            cases b
          · exact of_decide_eq_true b
        · exact a j (by omega) hb
      · intro a
        refine ⟨fun j hj => a j (by omega), ?_⟩
        cases q : n.testBit m with
        | false => exact Or.inl rfl
        | true => exact Or.inr (decide_eq_true (a m (by omega) q))
  congr 2
  apply bt_eq
  rw [ap, b2]
  exact ⟨fun a j h1 h2 => a j (by omega) h1 h2, fun a j _ h1 h2 => a j h1 h2⟩
theorem sets_ok {Z : Nat → Nat} {I Ib : I_T} {L : L_T} {R : R_T} (r3 : R 63 3 = some 66) (z66 : Z 66 = 14) {N : Nat} (hN : N ≤ 14) : itC (B_X3_moor_92 Z I L R 63 (nI N)) (0, 1) = some (nI (best_ (I 66) N (2 ^ N - 1)), I) := by
  have p14 : 2 ^ N ≤ 2 ^ 14 := Nat.pow_le_pow_right (by decide) hN
  have p0 : 0 < 2 ^ N := Nat.pow_pos (by decide)
  have e := sh14 N (by omega)
  refine itC_count (f := B_X3_moor_92 Z I L R 63 (nI N)) (fun m => (nI (best_ (I 66) N m), nI (m + 1))) (n := 2 ^ N - 1) (fun m hm => ?_) ?_
  · have bl := best_le (I 66) N m
    have lt : nI (m + 1) < nI (2 ^ N) := (nI_ltI (by omega) (by omega)).mpr (by omega)
    have q1 := popc_le (best_ (I 66) N m)
    have q2 := popc_le (m + 1)
    have am : ap_ (I 66) (m + 1) 14 = ap_ (I 66) (m + 1) N := by
      have := ap_more (W := I 66) (n := m + 1) (N := N) (by omega) (14 - N)
      rwa [show N + (14 - N) = 14 by omega] at this
    unfold B_X3_moor_92
    rw [e, if_pos lt, pop32_ok (by omega), bs_, pop32_ok (by omega), bs_]
    show _ = some (Sum.inl (nI (if popc (best_ (I 66) N m) < popc (m + 1) ∧ ap_ (I 66) (m + 1) N = true then m + 1 else best_ (I 66) N m), nI (m + 1 + 1)))
    by_cases z : popc (best_ (I 66) N m) < popc (m + 1)
    · rw [if_pos ((nI_ltI (by omega) (by omega)).mpr z), apart_ok r3 z66 (by omega), bs_, am, nI_1]
      cases q : ap_ (I 66) (m + 1) N with
      | true => rw [if_neg (show ¬ bI true = 0 by decide), if_pos ⟨z, rfl⟩]
      | false => rw [if_pos (show bI false = 0 from rfl), if_neg (fun u => by cases u.2)]
    · rw [if_neg (fun u => z ((nI_ltI (by omega) (by omega)).mp u)), if_neg (fun u => z u.1), nI_1]
  · unfold B_X3_moor_92
    rw [e, if_neg (fun u => by have := (nI_ltI (by omega) (by omega)).mp u; omega)]
theorem msets_ok {Z : Nat → Nat} {J : I_T} {L : L_T} {R : R_T} (r52 : R 68 52 = some 96) (z96 : Z 96 = 14) {N : Nat} (hN : N ≤ 14) {W : Nat → Int32} (hW : ∀ k, k < N → J 96 k = W k) (v : Int32) : itC (B_X11_moored_147 Z J L R 68 v (nI N)) (0, 0, 1) = some (if v = 0 then nI (popc (best_ W N (2 ^ N - 1))) else nI (best_ W N (2 ^ N - 1)), J) := by
  have p14 : 2 ^ N ≤ 2 ^ 14 := Nat.pow_le_pow_right (by decide) hN
  have p0 : 0 < 2 ^ N := Nat.pow_pos (by decide)
  have e := sh14 N (by omega)
  have pz : popc 0 = 0 := fb_ct_zero.mpr (fun k _ => Nat.zero_testBit k)
  have e0 : ((nI (best_ W N 0), nI (popc (best_ W N 0)), nI (0 + 1)) : Int32 × Int32 × Int32) = (0, 0, 1) := by
    show ((nI 0, nI (popc 0), nI 1) : Int32 × Int32 × Int32) = _
    rw [pz]
    rfl
  rw [← e0]
  refine itC_count (f := B_X11_moored_147 Z J L R 68 v (nI N)) (fun m => (nI (best_ W N m), nI (popc (best_ W N m)), nI (m + 1))) (n := 2 ^ N - 1) (fun m hm => ?_) ?_
  · have lt : nI (m + 1) < nI (2 ^ N) := (nI_ltI (by omega) (by omega)).mpr (by omega)
    have bl := best_le W N m
    have q1 := popc_le (best_ W N m)
    have q2 := popc_le (m + 1)
    have hl : ∀ i, N ≤ i → (m + 1).testBit i = false := fun i hi => bit_lt (N := N) (by omega) hi
    have pn : fb_ct (fun i => (m + 1).testBit i) N = popc (m + 1) := (ct_gap hN (fun c u _ => hl c u)).symm
    have inn : D_X11_moored_164 Z J L R 68 v (nI N) (nI (best_ W N m)) (nI (popc (best_ W N m))) (nI (m + 1)) (0, 1, 0) = some (.inl (nI (if popc (best_ W N m) < popc (m + 1) ∧ ap_ W (m + 1) N = true then m + 1 else best_ W N m), nI (popc (if popc (best_ W N m) < popc (m + 1) ∧ ap_ W (m + 1) N = true then m + 1 else best_ W N m)), nI (m + 1 + 1))) := by
      refine itC_count (f := B_X11_moored_164 Z J L R 68 v (nI N) (nI (best_ W N m)) (nI (popc (best_ W N m))) (nI (m + 1))) (fun k => (nI (fb_ct (fun i => (m + 1).testBit i) k), bI (ap_ W (m + 1) k), nI k)) (n := N) (fun k hk => ?_) ?_
      · have f187 : ∀ t : Nat, D_X11_moored_187 Z J L R 68 v (nI N) (nI (best_ W N m)) (nI (popc (best_ W N m))) (nI (m + 1)) (bI (ap_ W (m + 1) k)) (nI k) (nI t) (nI (fb_ct (fun i => (m + 1).testBit i) k)) = some (.inl (nI (fb_ct (fun i => (m + 1).testBit i) k + t), bI (ap_ W (m + 1) (k + 1)), nI (k + 1))) := fun t => by
          rw [D_X11_moored_187, has32_ok (by omega) (by omega), bs_, nI_add, nI_1]
          show _ = some (Sum.inl (_, bI (ap_ W (m + 1) k && (!(m + 1).testBit k || decide (nI (m + 1) &&& W k = 0))), _))
          cases ap_ W (m + 1) k with
          | false => rw [if_pos (show bI false = 0 from rfl), Bool.false_and]; rfl
          | true =>
            rw [if_neg (show ¬ bI true = 0 by decide), Bool.true_and]
            cases (m + 1).testBit k with
            | false => rw [if_pos (show bI false = 0 from rfl)]; rfl
            | true =>
              rw [if_neg (show ¬ bI true = 0 by decide), r52, bs_, if_pos (inb_nI (by omega) (by omega)), cl_nI (by omega), hW k hk]
              by_cases z : nI (m + 1) &&& W k = 0
              · rw [if_pos z, decide_eq_true z]; rfl
              · rw [if_neg z, decide_eq_false z]; rfl
        unfold B_X11_moored_164
        rw [if_pos ((nI_ltI (by omega) (by omega)).mpr hk), has32_ok (by omega) (by omega), bs_, fb_ct_succ]
        cases (m + 1).testBit k with
        | false =>
          rw [if_pos (show bI false = 0 from rfl)]
          exact f187 0
        | true =>
          rw [if_neg (show ¬ bI true = 0 by decide)]
          exact f187 1
      · unfold B_X11_moored_164
        rw [if_neg Int32.lt_irrefl, pn]
        cases q : ap_ W (m + 1) N with
        | false =>
          rw [if_pos (show bI false = 0 from rfl), if_neg (show ¬ (popc (best_ W N m) < popc (m + 1) ∧ false = true) from fun u => by cases u.2), D_X11_moored_248, D_X11_moored_250, if_pos (show bI false = 0 from rfl), bs_, nI_1]
        | true =>
          rw [if_neg (show ¬ bI true = 0 by decide)]
          by_cases z : popc (best_ W N m) < popc (m + 1)
          · rw [if_pos ((nI_ltI (by omega) (by omega)).mpr z), if_pos (show popc (best_ W N m) < popc (m + 1) ∧ true = true from ⟨z, rfl⟩), D_X11_moored_250, if_neg (show ¬ bI true = 0 by decide), greater_ok, bs_, bs_, if_pos ((nI_ltI (by omega) (by omega)).mpr z), nI_1]
          · rw [if_neg (fun u => z ((nI_ltI (by omega) (by omega)).mp u)), if_neg (show ¬ (popc (best_ W N m) < popc (m + 1) ∧ true = true) from fun u => z u.1), D_X11_moored_248, D_X11_moored_250, if_neg (show ¬ bI true = 0 by decide), greater_ok, bs_, bs_, if_neg (fun u => z ((nI_ltI (by omega) (by omega)).mp u)), nI_1]
    unfold B_X11_moored_147
    rw [e, if_pos lt]
    exact inn
  · unfold B_X11_moored_147
    rw [e, if_neg (fun u => by have := (nI_ltI (by omega) (by omega)).mp u; omega)]
    by_cases z : v = 0
    · rw [if_pos z, if_pos z]
    · rw [if_neg z, if_neg z]
