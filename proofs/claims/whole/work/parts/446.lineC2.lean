/-! texts: a line, the class's side -/
def fu (w : Nat) : Bool := decide (6 ≤ w ∧ w ≠ 14 ∧ w ≠ 16)
def fl (J : I_T) (s : Nat) : Bool := if s = 0 then !decide (J 36 5 < 5) else if s = 1 then !decide (J 41 3 < 40) else !decide (J 41 3 < 10)
section
variable {Z : Nat → Nat} {L : L_T} {R : R_T} {n : Nat} {T : Nat → Nat}
theorem isFurther_ok {I : I_T} {w : Nat} (hw : w < 19) : D_X5_isFurther Z I L R (nI w) = some (bI (fu w)) := by
  rw [D_X5_isFurther]
  unfold fu
  by_cases h1 : w < 6
  · rw [if_pos ((nl_lt (k := 6) (j := 6) rfl (by omega) (by omega)).mpr h1), decide_eq_false (by omega)]; rfl
  · rw [if_neg (fun u => h1 ((nl_lt (k := 6) (j := 6) rfl (by omega) (by omega)).mp u))]
    by_cases h2 : w = 14
    · rw [if_pos ((nl_eq (k := 14) (j := 14) rfl (by omega) (by omega)).mpr h2), decide_eq_false (by omega)]; rfl
    · rw [if_neg (fun u => h2 ((nl_eq (k := 14) (j := 14) rfl (by omega) (by omega)).mp u))]
      by_cases h3 : w = 16
      · rw [if_pos ((nl_eq (k := 16) (j := 16) rfl (by omega) (by omega)).mpr h3), decide_eq_false (by omega)]; rfl
      · rw [if_neg (fun u => h3 ((nl_eq (k := 16) (j := 16) rfl (by omega) (by omega)).mp u)), decide_eq_true (by omega)]; rfl
theorem isFull_ok {J : I_T} (r0 : R 35 0 = some 36) (r1 : R 35 1 = some 41) {s : Nat} (hs : s < 4) : D_X5_isFull Z J L R 35 (nI s) = some (bI (fl J s)) := by
  rw [D_X5_isFull, bs_]
  unfold fl
  by_cases h1 : s = 0
  · rw [if_pos ((nl_eq (k := 0) (j := 0) rfl (by omega) (by omega)).mpr h1), if_pos h1, r0, bs_]
    by_cases z : J 36 5 < 5
    · rw [if_pos z, decide_eq_true z]; rfl
    · rw [if_neg z, decide_eq_false z]; rfl
  · rw [if_neg (fun u => h1 ((nl_eq (k := 0) (j := 0) rfl (by omega) (by omega)).mp u)), if_neg h1]
    by_cases h2 : s = 1
    · rw [if_pos ((nl_eq (k := 1) (j := 1) rfl (by omega) (by omega)).mpr h2), if_pos h2, r1, bs_]
      by_cases z : J 41 3 < 40
      · rw [if_pos z, decide_eq_true z]; rfl
      · rw [if_neg z, decide_eq_false z]; rfl
    · rw [if_neg (fun u => h2 ((nl_eq (k := 1) (j := 1) rfl (by omega) (by omega)).mp u)), if_neg h2, r1, bs_]
      by_cases z : J 41 3 < 10
      · rw [if_pos z, decide_eq_true z]; rfl
      · rw [if_neg z, decide_eq_false z]; rfl
theorem CTok.fr {J J' : I_T} {b : Nat} (h : CTok J T n b) (e : ∀ j, 5 ≤ j → j ≤ 8 → J' 35 j = J 35 j) : CTok J' T n b := by
  unfold CTok at h ⊢
  rw [e 5 (by omega) (by omega), e 6 (by omega) (by omega), e 7 (by omega) (by omega), e 8 (by omega) (by omega)]
  exact h
/-- the fault behind a line's first word -/
def F0_ (J : I_T) (s w b : Nat) (F : Nat × Nat) : Nat × Nat := fN (!(fu w && fl J s)) 3 b F
/-- a line up to behind its numbers -/
theorem cstart {J : I_T} {F : Nat × Nat} (tp : TPc Z R J n T) (rt : RT Z J) (r0 : R 35 0 = some 36) (r1 : R 35 1 = some 41) (r4 : R 35 4 = some 43) (z43 : Z 43 = 3) {b w s : Nat} (hb : b ≤ n) (hw : w < 19) (hs : s < 4) (ct : CTok J T n b) (cf : CF J F) : ∃ J0 J', D_X5_readLine Z J L R 35 7 (nI s) (nI w) = (if (nums T n w (nm_ w) 0 (nbt T n b) (F0_ J s w b F)).1 = true then itC (B_X5_readLine_32 Z J0 L R 35 7 (nI s) (nI w)) (nI (nm_ w), J') else some (0, J')) ∧ CTok J' T n (nums T n w (nm_ w) 0 (nbt T n b) (F0_ J s w b F)).2.1 ∧ CF J' (nums T n w (nm_ w) 0 (nbt T n b) (F0_ J s w b F)).2.2 ∧ CFr2 J J' ∧ (nums T n w (nm_ w) 0 (nbt T n b) (F0_ J s w b F)).2.1 ≤ n ∧ ((nums T n w (nm_ w) 0 (nbt T n b) (F0_ J s w b F)).1 = true → ∀ q, q < nm_ w → J' 43 q = nI (tkV T n (itb T n q (nbt T n b)))) := by
  have te := tkE_ge (T := T) hb
  have e24 : ∀ J1 F1, CFr2 J J1 → CTok J1 T n b → CF J1 F1 → ∃ J0 J', D_X5_readLine_24 Z J1 L R 35 7 (nI s) (nI w) = (if (nums T n w (nm_ w) 0 (nbt T n b) F1).1 = true then itC (B_X5_readLine_32 Z J0 L R 35 7 (nI s) (nI w)) (nI (nm_ w), J') else some (0, J')) ∧ CTok J' T n (nums T n w (nm_ w) 0 (nbt T n b) F1).2.1 ∧ CF J' (nums T n w (nm_ w) 0 (nbt T n b) F1).2.2 ∧ CFr2 J J' ∧ (nums T n w (nm_ w) 0 (nbt T n b) F1).2.1 ≤ n ∧ ((nums T n w (nm_ w) 0 (nbt T n b) F1).1 = true → ∀ q, q < nm_ w → J' 43 q = nI (tkV T n (itb T n q (nbt T n b)))) := fun J1 F1 f1 ct1 cf1 => by
    obtain ⟨J2, a1, a2, a3⟩ := advance_ok (L := L) (tp.fr2 f1) te.2 ct1.1
    have f2 := f1.trans a3.two
    obtain ⟨J', b1, b2, b3, b4, b5, b6, b7⟩ := cnums (L := L) hw r4 z43 J2 (nI s) (nm_ w) 0 (nbt T n b) F1 J2 (by omega) (nbt_le hb) (tp.fr2 f2) (rt.fr2 f2) a2 (cf1.fr a3)
    refine ⟨J2, J', ?_, b2, b3, f2.trans b4, b5, fun z q hq => ?_⟩
    · rw [D_X5_readLine_24, a1, bs_, D_X5_readLine_32]
      exact b1
    · have := (b7 z).2 q hq
      rwa [Nat.zero_add] at this
  rw [D_X5_readLine, isFurther_ok hw, bs_]
  unfold F0_
  cases hf : fu w with
  | false =>
    rw [if_pos (show bI false = 0 from rfl), Bool.false_and]
    exact e24 J F CFr2.rfl ct cf
  | true =>
    rw [if_neg (show ¬ bI true = 0 by decide), isFull_ok r0 r1 hs, bs_, Bool.true_and]
    cases hl : fl J s with
    | false =>
      rw [if_pos (show bI false = 0 from rfl)]
      exact e24 J F CFr2.rfl ct cf
    | true =>
      rw [if_neg (show ¬ bI true = 0 by decide)]
      obtain ⟨J1, c1, c2, c3, c4, c5⟩ := note_ok (Z := Z) (L := L) (R := R) (q := b) (w := 3) cf (by omega) (by omega) ct
      rw [ct.2.1, show (3 : Int32) = nI 3 from rfl, c1, bs_]
      exact e24 J1 _ c3 c5 c2
/-- a line's end -/
theorem cend {J : I_T} {F : Nat × Nat} (tp : TPc Z R J n T) {b w s : Nat} (hb : b ≤ n) (ct : CTok J T n b) (cf : CF J F) : ∃ J', CFr2 J J' ∧ J' 43 = J 43 ∧ CF J' F ∧ (tkK T n b = 3 → CTok J' T n (nbt T n b) ∧ D_X5_readLine_135 Z J L R 35 7 (nI s) (nI w) = if F.1 = 0 then (D_X5_take Z J' L R 35 (nI s) (nI w)).bind fun q => some (1, q) else some (1, J')) ∧ (¬ tkK T n b = 3 → CTok J' T n b ∧ D_X5_readLine_135 Z J L R 35 7 (nI s) (nI w) = some (0, J')) := by
  have k4 := tkK_le T n b
  rw [D_X5_readLine_135]
  by_cases hk : tkK T n b = 3
  · have te := tkE_ge (T := T) hb
    obtain ⟨J', a1, a2, a3⟩ := advance_ok (L := L) tp te.2 ct.1
    have cf' := cf.fr a3
    refine ⟨J', a3.two, a3.1 43 (by omega), cf', fun _ => ⟨a2, ?_⟩, fun z => (z hk).elim⟩
    have c0 : J' 35 2 = 0 ↔ F.1 = 0 := by rw [cf'.1]; exact nl_eq (k := 0) (j := 0) rfl (by have := cf.2.2; omega) (by omega)
    rw [if_pos (show J 35 7 = 3 by rw [ct.2.2.1, hk]; rfl), a1, bs_]
    by_cases z : F.1 = 0
    · rw [if_pos (c0.mpr z), if_pos z]
    · rw [if_neg (fun u => z (c0.mp u)), if_neg z]
  · refine ⟨J, CFr2.rfl, rfl, cf, fun z => (hk z).elim, fun _ => ⟨ct, ?_⟩⟩
    rw [if_neg (show ¬ J 35 7 = 3 by rw [ct.2.2.1]; exact fun u => hk ((nl_eq (k := 3) (j := 3) rfl (by omega) (by omega)).mp u))]
/-- a line that isn't a row's -/
theorem cline {J : I_T} {F : Nat × Nat} (tp : TPc Z R J n T) (rt : RT Z J) (r0 : R 35 0 = some 36) (r1 : R 35 1 = some 41) (r4 : R 35 4 = some 43) (z43 : Z 43 = 3) {b w s : Nat} (hb : b ≤ n) (hw : w < 19) (hw1 : w ≠ 1) (hs : s < 4) (ct : CTok J T n b) (cf : CF J F) {N : Bool × Nat × (Nat × Nat)} (hN : nums T n w (nm_ w) 0 (nbt T n b) (F0_ J s w b F) = N) : ∃ J', CF J' N.2.2 ∧ CFr2 J J' ∧ N.2.1 ≤ n ∧ (N.1 = true ∧ tkK T n N.2.1 = 3 → CTok J' T n (nbt T n N.2.1) ∧ D_X5_readLine Z J L R 35 7 (nI s) (nI w) = (if N.2.2.1 = 0 then (D_X5_take Z J' L R 35 (nI s) (nI w)).bind fun q => some (1, q) else some (1, J')) ∧ ∀ q, q < nm_ w → J' 43 q = nI (tkV T n (itb T n q (nbt T n b)))) ∧ (¬ (N.1 = true ∧ tkK T n N.2.1 = 3) → CTok J' T n N.2.1 ∧ D_X5_readLine Z J L R 35 7 (nI s) (nI w) = some (0, J')) := by
  obtain ⟨J0, J2, a1, a2, a3, a4, a5, a6⟩ := cstart (L := L) tp rt r0 r1 r4 z43 hb hw hs ct cf
  rw [hN] at a1 a2 a3 a5 a6
  cases hok : N.1 with
  | false =>
    rw [hok, if_neg (fun z => Bool.noConfusion z)] at a1
    exact ⟨J2, a3, a4, a5, fun z => Bool.noConfusion z.1, fun _ => ⟨a2, a1⟩⟩
  | true =>
    rw [hok, if_pos rfl] at a1
    obtain ⟨J', c1, c2, c3, c4, c5⟩ := cend (L := L) (w := w) (s := s) (tp.fr2 a4) a5 a2 a3
    have e : itC (B_X5_readLine_32 Z J0 L R 35 7 (nI s) (nI w)) (nI (nm_ w), J2) = D_X5_readLine_135 Z J2 L R 35 7 (nI s) (nI w) := by
      obtain ⟨⟨z1, z2, z3, z4⟩, i1, i2, i3, i4⟩ := rt.fr2 a4
      have n3 := (nm_le w hw).1
      have g2 : D_X10_get Z J2 L R 2 (nI w) = some (nI (nm_ w)) := by rw [get_ok (by omega) (by omega), i2 w hw]; rfl
      have bd : ∀ y, D_X5_readLine_135 Z J2 L R 35 7 (nI s) (nI w) = some y → B_X5_readLine_32 Z J0 L R 35 7 (nI s) (nI w) (nI (nm_ w), J2) = some (.inr y) := fun y hy => by
        unfold B_X5_readLine_32
        dsimp only
        rw [g2, bs_, if_neg (fun u => by have := (nI_ltI (by omega) (by omega)).mp u; omega), if_neg (fun u => hw1 ((nl_eq (k := 1) (j := 1) rfl (by omega) (by omega)).mp u)), hy, bs_]
      cases q : D_X5_readLine_135 Z J2 L R 35 7 (nI s) (nI w) with
      | some y => exact itC_inr (bd y q)
      | none =>
        have bd2 : B_X5_readLine_32 Z J0 L R 35 7 (nI s) (nI w) (nI (nm_ w), J2) = none := by
          unfold B_X5_readLine_32
          dsimp only
          rw [g2, bs_, if_neg (fun u => by have := (nI_ltI (by omega) (by omega)).mp u; omega), if_neg (fun u => hw1 ((nl_eq (k := 1) (j := 1) rfl (by omega) (by omega)).mp u)), q]
          rfl
        cases q2 : itC (B_X5_readLine_32 Z J0 L R 35 7 (nI s) (nI w)) (nI (nm_ w), J2) with
        | none => rfl
        | some y =>
          obtain ⟨k, hk⟩ := itC_some q2
          exfalso
          cases k with
          | zero => cases hk
          | succ k =>
            rw [itn, bd2] at hk
            cases hk
    rw [e] at a1
    refine ⟨J', c3, a4.trans c1, a5, fun z => ⟨(c4 z.2).1, a1.trans (c4 z.2).2, fun q hq => by rw [c2]; exact a6 hok q hq⟩, fun z => ?_⟩
    have z3 : ¬ tkK T n N.2.1 = 3 := fun u => z ⟨rfl, u⟩
    exact ⟨(c5 z3).1, a1.trans (c5 z3).2⟩
end
