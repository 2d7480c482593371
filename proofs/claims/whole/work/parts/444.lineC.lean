/-! texts: a line's numbers, the class's side -/
/-- a fault kept: the first one -/
def fN (ok : Bool) (w b : Nat) (F : Nat × Nat) : Nat × Nat := if ok = true then F else if F.1 = 0 then (w, b) else F
def okv (lo hi v : Nat) : Bool := decide (lo ≤ v ∧ v ≤ hi)
def lo_ (w i : Nat) : Nat := rtL.getD (w * 3 + i) 0
def hi_ (w i : Nat) : Nat := rtM.getD (w * 3 + i) 0
def nm_ (w : Nat) : Nat := rtN.getD w 0
theorem nm_le : ∀ w, w < 19 → nm_ w ≤ 3 ∧ 1 ≤ nm_ w ∧ ∀ i, i < nm_ w → lo_ w i < 100 ∧ hi_ w i < 100 := by decide
def CF (J : I_T) (F : Nat × Nat) : Prop := J 35 2 = nI F.1 ∧ J 35 3 = (if F.1 = 0 then -1 else nI F.2) ∧ F.1 < 100
def CFr2 (J J' : I_T) : Prop := (∀ a, a ≠ 35 → a ≠ 43 → J' a = J a) ∧ ∀ j, j < 2 ∨ j = 4 ∨ 8 < j → J' 35 j = J 35 j
theorem CFr2.rfl {J : I_T} : CFr2 J J := ⟨fun _ _ _ => Eq.refl _, fun _ _ => Eq.refl _⟩
theorem CFr2.trans {J J' J'' : I_T} (h : CFr2 J J') (g : CFr2 J' J'') : CFr2 J J'' := ⟨fun a h1 h2 => (g.1 a h1 h2).trans (h.1 a h1 h2), fun j hj => (g.2 j hj).trans (h.2 j hj)⟩
theorem CFr.two {J J' : I_T} (h : CFr J J') : CFr2 J J' := ⟨fun a h1 _ => h.1 a h1, fun j hj => h.2 j (by omega)⟩
theorem CF.fr {J J' : I_T} {F : Nat × Nat} (h : CF J F) (c : CFr J J') : CF J' F := by
  unfold CF at h ⊢
  rw [c.2 2 (by omega), c.2 3 (by omega)]
  exact h
theorem TPc.fr2 {Z : Nat → Nat} {R : R_T} {J J' : I_T} {n : Nat} {T : Nat → Nat} (h : TPc Z R J n T) (c : CFr2 J J') : TPc Z R J' n T := h.fr (c.1 7 (by omega) (by omega)) (c.1 8 (by omega) (by omega))
theorem RT.fr2 {Z : Nat → Nat} {J J' : I_T} (h : RT Z J) (c : CFr2 J J') : RT Z J' := h.keep (fun _ _ _ => rfl) (fun a h1 h4 => c.1 a (by omega) (by omega))
section
variable {Z : Nat → Nat} {L : L_T} {R : R_T} {n : Nat} {T : Nat → Nat}
theorem note_ok {J : I_T} {F : Nat × Nat} (h : CF J F) {w q b : Nat} (hw : 0 < w) (hw2 : w < 100) (ct : CTok J T n b) : ∃ J', D_X5_note Z J L R 35 (nI w) (nI q) = some J' ∧ CF J' (fN false w q F) ∧ CFr2 J J' ∧ J' 43 = J 43 ∧ CTok J' T n b := by
  obtain ⟨h2, h3, h4⟩ := h
  unfold fN
  rw [if_neg (fun z => Bool.noConfusion z)]
  by_cases z : F.1 = 0
  · rw [if_pos z]
    refine ⟨up2 (up2 J 35 2 (nI w)) 35 3 (nI q), ?_, ⟨?_, ?_, hw2⟩, ⟨fun a a1 a2 => by rw [up2_ne a1, up2_ne a1], fun j hj => by rw [up2_j (by omega), up2_j (by omega)]⟩, by rw [up2_ne (by omega), up2_ne (by omega)], ?_⟩
    · rw [D_X5_note, h2, z, if_pos (show nI 0 = 0 from rfl), bs_, bs_]
    · rw [up2_j (by omega), up2_s]
    · rw [up2_s, if_neg (show ¬ w = 0 by omega)]
    · unfold CTok at ct ⊢
      rw [up2_j (show (5 : Nat) ≠ 3 by omega), up2_j (show (5 : Nat) ≠ 2 by omega), up2_j (show (6 : Nat) ≠ 3 by omega), up2_j (show (6 : Nat) ≠ 2 by omega), up2_j (show (7 : Nat) ≠ 3 by omega), up2_j (show (7 : Nat) ≠ 2 by omega), up2_j (show (8 : Nat) ≠ 3 by omega), up2_j (show (8 : Nat) ≠ 2 by omega)]
      exact ct
  · rw [if_neg z]
    refine ⟨J, ?_, ⟨h2, h3, h4⟩, CFr2.rfl, rfl, ct⟩
    rw [D_X5_note, h2, if_neg (fun u => z ((nl_eq (k := 0) (j := 0) rfl (by omega) (by omega)).mp u))]
/-- how the class goes on behind a number -/
theorem put_adv {J : I_T} {F : Nat × Nat} (tp : TPc Z R J n T) (r4 : R 35 4 = some 43) (z43 : Z 43 = 3) {b i : Nat} (hb : b ≤ n) (hk : tkK T n b = 2) (ct : CTok J T n b) (cf : CF J F) (hi : i < 3) (v : Int32) (w : Int32) : ∃ J', D_X5_readLine_101 Z J L R 35 7 v w (nI i) = some (.inl (nI (i + 1), J')) ∧ CTok J' T n (nbt T n b) ∧ CF J' F ∧ CFr2 J J' ∧ J' 43 i = nI (tkV T n b) ∧ ∀ q, q ≠ i → J' 43 q = J 43 q := by
  obtain ⟨c1, c2, c3, c4⟩ := ct
  have te := tkE_ge (T := T) hb
  obtain ⟨J', a1, a2, a3⟩ := advance_ok (L := L) (J := up2 J 43 i (J 35 8)) (tp.fr (up2_ne (by omega)) (up2_ne (by omega))) te.2 (by rw [up2_a (by omega)]; exact c1)
  refine ⟨J', ?_, a2, ?_, ⟨fun a h1 h2 => by rw [a3.1 a h1, up2_ne h2], fun j hj => by rw [a3.2 j (by omega), up2_a (by omega)]⟩, by rw [a3.1 43 (by omega), up2_s, c4 hk], fun q hq => by rw [a3.1 43 (by omega), up2_j hq]⟩
  · rw [D_X5_readLine_101, r4, bs_, put_ok (by omega) (by omega), bs_, a1, bs_, nI_1]
  · unfold CF at cf ⊢
    rw [a3.2 2 (by omega), a3.2 3 (by omega), up2_a (by omega), up2_a (by omega)]
    exact cf
theorem cnum_st {J : I_T} {F : Nat × Nat} (tp : TPc Z R J n T) (rt : RT Z J) (r4 : R 35 4 = some 43) (z43 : Z 43 = 3) {b i w : Nat} (hb : b ≤ n) (hw : w < 19) (hi : i < nm_ w) (hk : tkK T n b = 2) (ct : CTok J T n b) (cf : CF J F) (I0 : I_T) (v : Int32) : ∃ J', B_X5_readLine_32 Z I0 L R 35 7 v (nI w) (nI i, J) = some (.inl (nI (i + 1), J')) ∧ CTok J' T n (nbt T n b) ∧ CF J' (fN (okv (lo_ w i) (hi_ w i) (tkV T n b)) 2 b F) ∧ CFr2 J J' ∧ J' 43 i = nI (tkV T n b) ∧ ∀ q, q ≠ i → J' 43 q = J 43 q := by
  obtain ⟨⟨z1, z2, z3, z4⟩, i1, i2, i3, i4⟩ := rt
  obtain ⟨n3, _, nl⟩ := nm_le w hw
  obtain ⟨l1, l2⟩ := nl i hi
  have tv := tk_dig hk
  obtain ⟨c1, c2, c3, c4⟩ := id ct
  have e3 : nI w * 3 + nI i = nI (w * 3 + i) := by rw [show (3 : Int32) = nI 3 from rfl, nI_mul, nI_add]
  have g2 : D_X10_get Z J L R 2 (nI w) = some (nI (nm_ w)) := by rw [get_ok (by omega) (by omega), i2 w hw]; rfl
  have g3 : D_X10_get Z J L R 3 (nI (w * 3 + i)) = some (nI (lo_ w i)) := by rw [get_ok (by omega) (by omega), i3 _ (by omega)]; rfl
  have g4 : D_X10_get Z J L R 4 (nI (w * 3 + i)) = some (nI (hi_ w i)) := by rw [get_ok (by omega) (by omega), i4 _ (by omega)]; rfl
  have lt : nI i < nI (nm_ w) := (nI_ltI (by omega) (by omega)).mpr hi
  have k2 : J 35 7 = 2 := by rw [c3, hk]; rfl
  obtain ⟨Jn, n1, n2, n3', n4, n5⟩ := note_ok (Z := Z) (L := L) (R := R) (q := b) (w := 2) cf (by omega) (by omega) ct
  have e92 : ∃ J', D_X5_readLine_92 Z J L R 35 7 v (nI w) (nI i) = some (.inl (nI (i + 1), J')) ∧ CTok J' T n (nbt T n b) ∧ CF J' (fN false 2 b F) ∧ CFr2 J J' ∧ J' 43 i = nI (tkV T n b) ∧ ∀ q, q ≠ i → J' 43 q = J 43 q := by
    obtain ⟨J', a1, a2, a3, a4, a5, a6⟩ := put_adv (L := L) (tp.fr2 n3') r4 z43 hb hk n5 n2 (show i < 3 by omega) v (nI w)
    refine ⟨J', ?_, a2, a3, n3'.trans a4, a5, fun q hq => by rw [a6 q hq, n4]⟩
    rw [D_X5_readLine_92, c2, show (2 : Int32) = nI 2 from rfl, n1, bs_, a1]
  unfold B_X5_readLine_32
  dsimp only
  rw [g2, bs_, if_pos lt, if_pos k2, e3, g3, bs_]
  have c8 : J 35 8 < nI (lo_ w i) ↔ tkV T n b < lo_ w i := by rw [c4 hk]; exact nI_ltI (by omega) (by omega)
  have c9 : nI (hi_ w i) < J 35 8 ↔ hi_ w i < tkV T n b := by rw [c4 hk]; exact nI_ltI (by omega) (by omega)
  by_cases y1 : tkV T n b < lo_ w i
  · rw [if_pos (c8.mpr y1), show okv (lo_ w i) (hi_ w i) (tkV T n b) = false from decide_eq_false (by omega)]
    exact e92
  · rw [if_neg (fun u => y1 (c8.mp u)), g4, bs_]
    by_cases y2 : hi_ w i < tkV T n b
    · rw [if_pos (c9.mpr y2), show okv (lo_ w i) (hi_ w i) (tkV T n b) = false from decide_eq_false (by omega)]
      exact e92
    · rw [if_neg (fun u => y2 (c9.mp u)), show okv (lo_ w i) (hi_ w i) (tkV T n b) = true from decide_eq_true (by omega)]
      exact put_adv tp r4 z43 hb hk ct cf (by omega) v (nI w)
/-- c numbers from the i-th one on: whether they are there, where the text stands then, the fault -/
def nums (T : Nat → Nat) (n w : Nat) : Nat → Nat → Nat → Nat × Nat → Bool × Nat × (Nat × Nat)
  | 0, _, b, F => (true, b, F)
  | c + 1, i, b, F => if tkK T n b = 2 then nums T n w c (i + 1) (nbt T n b) (fN (okv (lo_ w i) (hi_ w i) (tkV T n b)) 2 b F) else (false, b, F)
def itb (T : Nat → Nat) (n : Nat) : Nat → Nat → Nat
  | 0, b => b
  | q + 1, b => itb T n q (nbt T n b)
theorem cnums {w : Nat} (hw : w < 19) (r4 : R 35 4 = some 43) (z43 : Z 43 = 3) (I0 : I_T) (v : Int32) : ∀ c i b F J, i + c = nm_ w → b ≤ n → TPc Z R J n T → RT Z J → CTok J T n b → CF J F → ∃ J', itC (B_X5_readLine_32 Z I0 L R 35 7 v (nI w)) (nI i, J) = (if (nums T n w c i b F).1 = true then itC (B_X5_readLine_32 Z I0 L R 35 7 v (nI w)) (nI (nm_ w), J') else some (0, J')) ∧ CTok J' T n (nums T n w c i b F).2.1 ∧ CF J' (nums T n w c i b F).2.2 ∧ CFr2 J J' ∧ (nums T n w c i b F).2.1 ≤ n ∧ (∀ q, q < i → J' 43 q = J 43 q) ∧ ((nums T n w c i b F).1 = true → (nums T n w c i b F).2.1 = itb T n c b ∧ ∀ q, q < c → J' 43 (i + q) = nI (tkV T n (itb T n q b))) := by
  intro c
  induction c with
  | zero =>
    intro i b F J hi hb tp rt ct cf
    refine ⟨J, ?_, ct, cf, CFr2.rfl, hb, fun _ _ => rfl, fun _ => ⟨rfl, fun q hq => by omega⟩⟩
    rw [show (nums T n w 0 i b F).1 = true from rfl, if_pos rfl, show i = nm_ w by omega]
  | succ c ih =>
    intro i b F J hi hb tp rt ct cf
    by_cases hk : tkK T n b = 2
    · have e : nums T n w (c + 1) i b F = nums T n w c (i + 1) (nbt T n b) (fN (okv (lo_ w i) (hi_ w i) (tkV T n b)) 2 b F) := if_pos hk
      rw [e]
      obtain ⟨J1, s1, s2, s3, s4, s5, s6⟩ := cnum_st (L := L) tp rt r4 z43 hb hw (show i < nm_ w by omega) hk ct cf I0 v
      obtain ⟨J', a1, a2, a3, a4, a5, a6, a7⟩ := ih (i + 1) (nbt T n b) _ J1 (by omega) (nbt_le hb) (tp.fr2 s4) (rt.fr2 s4) s2 s3
      refine ⟨J', (itC_inl s1).trans a1, a2, a3, s4.trans a4, a5, fun q hq => by rw [a6 q (by omega), s6 q (by omega)], fun z => ⟨(a7 z).1, fun q hq => ?_⟩⟩
      cases q with
      | zero => rw [Nat.add_zero, a6 i (by omega), s5]; rfl
      | succ q =>
        rw [show i + (q + 1) = i + 1 + q by omega, (a7 z).2 q (by omega)]
        rfl
    · have e : nums T n w (c + 1) i b F = (false, b, F) := if_neg hk
      rw [e]
      refine ⟨J, ?_, ct, cf, CFr2.rfl, hb, fun _ _ => rfl, fun z => Bool.noConfusion z⟩
      rw [if_neg (fun z => Bool.noConfusion z)]
      refine itC_inr ?_
      obtain ⟨⟨z1, z2, z3, z4⟩, i1, i2, i3, i4⟩ := rt
      obtain ⟨n3, _, _⟩ := nm_le w hw
      have g2 : D_X10_get Z J L R 2 (nI w) = some (nI (nm_ w)) := by rw [get_ok (by omega) (by omega), i2 w hw]; rfl
      have k4 := tkK_le T n b
      unfold B_X5_readLine_32
      dsimp only
      rw [g2, bs_, if_pos ((nI_ltI (by omega) (by omega)).mpr (by omega)), if_neg (show ¬ J 35 7 = 2 by rw [ct.2.2.1]; exact fun u => hk ((nl_eq (k := 2) (j := 2) rfl (by omega) (by omega)).mp u))]
end
