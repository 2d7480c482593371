/-! texts: a row's heights -/
def hF (T : Nat → Nat) (n x b : Nat) (F : Nat × Nat) : Nat × Nat := fN (decide (x < 8)) 3 b (fN (okv 0 9 (tkV T n b)) 2 b F)
def hts (T : Nat → Nat) (n : Nat) : Nat → Nat → Nat → Nat × Nat → Nat × (Nat × Nat)
  | 0, _, b, F => (b, F)
  | k + 1, x, b, F => if tkK T n b = 2 then hts T n k (x + 1) (nbt T n b) (hF T n x b F) else (b, F)
def HFr (J J' : I_T) : Prop := (∀ a, a ≠ 35 → a ≠ 37 → J' a = J a) ∧ ∀ j, j < 2 ∨ j = 4 ∨ 10 < j → J' 35 j = J 35 j
theorem HFr.rfl {J : I_T} : HFr J J := ⟨fun _ _ _ => Eq.refl _, fun _ _ => Eq.refl _⟩
theorem HFr.trans {J J' J'' : I_T} (h : HFr J J') (g : HFr J' J'') : HFr J J'' := ⟨fun a h1 h2 => (g.1 a h1 h2).trans (h.1 a h1 h2), fun j hj => (g.2 j hj).trans (h.2 j hj)⟩
theorem fN_0 {ok : Bool} {w b : Nat} {F : Nat × Nat} (hw : 0 < w) (h : (fN ok w b F).1 = 0) : ok = true ∧ F.1 = 0 := by
  unfold fN at h
  by_cases y : ok = true
  · rw [if_pos y] at h
    exact ⟨y, h⟩
  · rw [if_neg y] at h
    by_cases z : F.1 = 0
    · rw [if_pos z] at h
      have h' : w = 0 := h
      omega
    · rw [if_neg z] at h
      exact (z h).elim
theorem fN_t {w b : Nat} {F : Nat × Nat} : fN true w b F = F := if_pos rfl
theorem fN_wf {ok : Bool} {w b c : Nat} {F : Nat × Nat} (h : F.1 ≠ 0 → F.2 < c) (hb : b < c) : (fN ok w b F).1 ≠ 0 → (fN ok w b F).2 < c := by
  unfold fN
  by_cases y : ok = true
  · rw [if_pos y]; exact h
  · rw [if_neg y]
    by_cases z : F.1 = 0
    · rw [if_pos z]; exact fun _ => hb
    · rw [if_neg z]; exact h
section
variable {Z : Nat → Nat} {L : L_T} {R : R_T} {n : Nat} {T : Nat → Nat}
theorem tellOf_ok {J : I_T} {x y : Int32} : D_X5_tellOf Z J L R 35 x y = some (up2 (up2 J 35 9 (imax (J 35 9) x)) 35 10 (imax (J 35 10) y)) := by
  rw [D_X5_tellOf, bs_, bs_, up2_j (show (10 : Nat) ≠ 9 by decide)]
theorem hstep_c {J : I_T} {F : Nat × Nat} (tp : TPc Z R J n T) (r0 : R 35 0 = some 36) (r6 : R 36 6 = some 37) (z37 : Z 37 = 64) {b x r : Nat} (hb : b ≤ n) (hx : x ≤ 600) (hr : (hF T n x b F).1 = 0 → r ≤ 7) (hr2 : r < 100) (hk : tkK T n b = 2) (ct : CTok J T n b) (cf : CF J F) (J0 : I_T) : ∃ J', B_X5_readHeights_49 Z J0 L R 35 7 (nI r) (nI x, J) = some (.inl (nI (x + 1), J')) ∧ CTok J' T n (nbt T n b) ∧ CF J' (hF T n x b F) ∧ HFr J J' ∧ ((hF T n x b F).1 = 0 → J' 37 (r * 8 + x) = nI (tkV T n b) ∧ (∀ i, i ≠ r * 8 + x → J' 37 i = J 37 i) ∧ J' 35 9 = imax (J 35 9) (nI x) ∧ J' 35 10 = imax (J 35 10) (nI r)) := by
  have te := tkE_ge (T := T) hb
  have tv := tk_dig hk
  obtain ⟨c1, c2, c3, c4⟩ := id ct
  -- behind the notes
  have e97 : ∀ J1, CFr2 J J1 → CTok J1 T n b → CF J1 (hF T n x b F) → J1 43 = J 43 → ((hF T n x b F).1 = 0 → J1 = J) → ∃ J', D_X5_readHeights_97 Z J1 L R 35 7 (nI r) (nI x) = some (.inl (nI (x + 1), J')) ∧ CTok J' T n (nbt T n b) ∧ CF J' (hF T n x b F) ∧ HFr J J' ∧ ((hF T n x b F).1 = 0 → J' 37 (r * 8 + x) = nI (tkV T n b) ∧ (∀ i, i ≠ r * 8 + x → J' 37 i = J 37 i) ∧ J' 35 9 = imax (J 35 9) (nI x) ∧ J' 35 10 = imax (J 35 10) (nI r)) := fun J1 f1 ct1 cf1 e43 eJ => by
    have go : ∀ J2, (∀ a, a ≠ 35 → a ≠ 37 → J2 a = J1 a) → (∀ j, j ≠ 9 → j ≠ 10 → J2 35 j = J1 35 j) → ∃ J', D_X5_readHeights_130 Z J2 L R 35 7 (nI r) (nI x) = some (.inl (nI (x + 1), J')) ∧ CTok J' T n (nbt T n b) ∧ CF J' (hF T n x b F) ∧ CFr J2 J' := fun J2 g1 g2 => by
      obtain ⟨J', a1, a2, a3⟩ := advance_ok (L := L) (J := J2) ((tp.fr2 f1).fr (g1 7 (by omega) (by omega)) (g1 8 (by omega) (by omega))) te.2 (by rw [g2 5 (by omega) (by omega)]; exact ct1.1)
      refine ⟨J', by rw [D_X5_readHeights_130, a1, bs_, nI_1], a2, ?_, a3⟩
      have cf2 : CF J2 (hF T n x b F) := by
        unfold CF at cf1 ⊢
        rw [g2 2 (by omega) (by omega), g2 3 (by omega) (by omega)]
        exact cf1
      exact cf2.fr a3
    have f43 : ∀ a, a ≠ 35 → J1 a = J a := fun a ha => by
      by_cases y : a = 43
      · rw [y, e43]
      · exact f1.1 a ha y
    rw [D_X5_readHeights_97]
    have c0 : J1 35 2 = 0 ↔ (hF T n x b F).1 = 0 := by rw [cf1.1]; exact nl_eq (k := 0) (j := 0) rfl (by have := cf1.2.2; omega) (by omega)
    by_cases z : (hF T n x b F).1 = 0
    · have r7 := hr z
      have x8 : x < 8 := of_decide_eq_true (fN_0 (by omega) z).1
      have := eJ z
      subst this
      rw [if_pos (c0.mpr z), r0, bs_, r6, bs_, c4 hk, show nI r * 8 + nI x = nI (r * 8 + x) by rw [show (8 : Int32) = nI 8 from rfl, nI_mul, nI_add], put_ok (by omega) (by omega), bs_, tellOf_ok, bs_]
      obtain ⟨J', a1, a2, a3, a4⟩ := go (up2 (up2 (up2 J1 37 (r * 8 + x) (nI (tkV T n b))) 35 9 (imax (up2 J1 37 (r * 8 + x) (nI (tkV T n b)) 35 9) (nI x))) 35 10 (imax (up2 J1 37 (r * 8 + x) (nI (tkV T n b)) 35 10) (nI r))) (fun a a1 a2 => by rw [up2_ne a1, up2_ne a1, up2_ne a2]) (fun j j1 j2 => by rw [up2_j j2, up2_j j1, up2_ne (by omega)])
      refine ⟨J', a1, a2, a3, ⟨fun a a1 a2 => by rw [a4.1 a a1, up2_ne a1, up2_ne a1, up2_ne a2], fun j hj => by rw [a4.2 j (by omega), up2_j (by omega), up2_j (by omega), up2_ne (by omega)]⟩, fun _ => ⟨?_, fun i hi => ?_, ?_, ?_⟩⟩
      · rw [a4.1 37 (by omega), up2_ne (by omega), up2_ne (by omega), up2_s]
      · rw [a4.1 37 (by omega), up2_ne (by omega), up2_ne (by omega), up2_j hi]
      · rw [a4.2 9 (by omega), up2_j (by omega), up2_s, up2_ne (by omega)]
      · rw [a4.2 10 (by omega), up2_s, up2_ne (by omega)]
    · rw [if_neg (fun u => z (c0.mp u))]
      obtain ⟨J', a1, a2, a3, a4⟩ := go J1 (fun _ _ _ => rfl) (fun _ _ _ => rfl)
      exact ⟨J', a1, a2, a3, ⟨fun a a1 a2 => by rw [a4.1 a a1, f43 a a1], fun j hj => by rw [a4.2 j (by omega), f1.2 j (by omega)]⟩, fun y => (z y).elim⟩
  have e82 : ∀ J1, CFr2 J J1 → CTok J1 T n b → CF J1 (fN (okv 0 9 (tkV T n b)) 2 b F) → J1 43 = J 43 → ((fN (okv 0 9 (tkV T n b)) 2 b F).1 = 0 → J1 = J) → ∃ J', D_X5_readHeights_82 Z J1 L R 35 7 (nI r) (nI x) = some (.inl (nI (x + 1), J')) ∧ CTok J' T n (nbt T n b) ∧ CF J' (hF T n x b F) ∧ HFr J J' ∧ ((hF T n x b F).1 = 0 → J' 37 (r * 8 + x) = nI (tkV T n b) ∧ (∀ i, i ≠ r * 8 + x → J' 37 i = J 37 i) ∧ J' 35 9 = imax (J 35 9) (nI x) ∧ J' 35 10 = imax (J 35 10) (nI r)) := fun J1 f1 ct1 cf1 e43 eJ => by
    rw [D_X5_readHeights_82]
    by_cases z : x < 8
    · have eF : hF T n x b F = fN (okv 0 9 (tkV T n b)) 2 b F := by
        unfold hF
        rw [decide_eq_true z, fN_t]
      rw [if_pos ((nl_lt (k := 8) (j := 8) rfl (by omega) (by omega)).mpr z)]
      exact e97 J1 f1 ct1 (by rw [eF]; exact cf1) e43 (fun y => eJ (by rwa [eF] at y))
    · have eF : hF T n x b F = fN false 3 b (fN (okv 0 9 (tkV T n b)) 2 b F) := by
        unfold hF
        rw [decide_eq_false z]
      obtain ⟨J2, d1, d2, d3, d4, d5⟩ := note_ok (Z := Z) (L := L) (R := R) (q := b) (w := 3) cf1 (by omega) (by omega) ct1
      rw [if_neg (fun u => z ((nl_lt (k := 8) (j := 8) rfl (by omega) (by omega)).mp u)), ct1.2.1, show (3 : Int32) = nI 3 from rfl, d1, bs_]
      exact e97 J2 (f1.trans d3) d5 (by rw [eF]; exact d2) (by rw [d4, e43]) (fun y => by rw [eF] at y; exact Bool.noConfusion (fN_0 (by omega) y).1)
  have k2 : J 35 7 = 2 := by rw [c3, hk]; rfl
  have c9 : 9 < J 35 8 ↔ 9 < tkV T n b := by rw [c4 hk]; exact ln_lt (k := 9) (j := 9) rfl (by omega) (by omega)
  unfold B_X5_readHeights_49
  dsimp only
  rw [if_neg (show ¬ (600 : Int32) < nI x from fun u => by have := (ln_lt (k := 600) (j := 600) rfl (by omega) (by omega)).mp u; omega), if_pos k2]
  by_cases z : 9 < tkV T n b
  · obtain ⟨J2, d1, d2, d3, d4, d5⟩ := note_ok (Z := Z) (L := L) (R := R) (q := b) (w := 2) cf (by omega) (by omega) ct
    have eo : okv 0 9 (tkV T n b) = false := decide_eq_false (by omega)
    rw [if_pos (c9.mpr z), c2, show (2 : Int32) = nI 2 from rfl, d1, bs_]
    exact e82 J2 d3 d5 (by rw [eo]; exact d2) d4 (fun y => by rw [eo] at y; exact Bool.noConfusion (fN_0 (by omega) y).1)
  · have eo : okv 0 9 (tkV T n b) = true := decide_eq_true (by omega)
    rw [if_neg (fun u => z (c9.mp u))]
    exact e82 J CFr2.rfl ct (by rw [eo, fN_t]; exact cf) rfl (fun _ => rfl)
/-- the frame of a row's heights, the model's side -/
def MHr (K : I_T) (L : L_T) (K' : I_T) (L' : L_T) : Prop := (∀ a, a ≠ 68 → a ≠ 78 → a ≠ 79 → K' a = K a) ∧ (∀ j, j < 10 ∨ j = 11 ∨ j = 15 ∨ (18 < j ∧ j ≠ 21 ∧ j ≠ 22 ∧ j ≠ 23) → K' 68 j = K 68 j) ∧ (∀ j, j < 21 ∨ 85 ≤ j → K' 78 j = K 78 j) ∧ (∀ a, a ≠ 68 → L' a = L a) ∧ ∀ j, j ≠ 15 → L' 68 j = L 68 j
theorem MHr.rfl {K : I_T} {L : L_T} : MHr K L K L := ⟨fun _ _ _ _ => Eq.refl _, fun _ _ => Eq.refl _, fun _ _ => Eq.refl _, fun _ _ => Eq.refl _, fun _ _ => Eq.refl _⟩
theorem MHr.trans {K K' K'' : I_T} {L L' L'' : L_T} (h : MHr K L K' L') (g : MHr K' L' K'' L'') : MHr K L K'' L'' := ⟨fun a h1 h2 h3 => (g.1 a h1 h2 h3).trans (h.1 a h1 h2 h3), fun j hj => (g.2.1 j hj).trans (h.2.1 j hj), fun j hj => (g.2.2.1 j hj).trans (h.2.2.1 j hj), fun a h1 => (g.2.2.2.1 a h1).trans (h.2.2.2.1 a h1), fun j hj => (g.2.2.2.2 j hj).trans (h.2.2.2.2 j hj)⟩
def grt (a b : Int32) : Int32 := if b < a then a else b
theorem grt_ok {I : I_T} (a b : Int32) : D_X11_greater Z I L R a b = some (grt a b) := by
  rw [D_X11_greater]
  unfold grt
  split <;> rfl
def FEq (v : Int32) (c : Nat) : Prop := v = nI c ∨ (c = 0 ∧ v = -1)
theorem FEq_grt {v : Int32} {c x : Nat} (h : FEq v c) (hc : c < 100) (hx : x < 100) : FEq (grt v (nI x)) (max c x) := by
  left
  unfold grt
  rcases h with h | ⟨h1, h2⟩
  · rw [h]
    by_cases z : x < c
    · rw [if_pos ((nI_ltI (by omega) (by omega)).mpr z), Nat.max_eq_left (by omega)]
    · rw [if_neg (fun u => z ((nI_ltI (by omega) (by omega)).mp u)), Nat.max_eq_right (by omega)]
  · rw [h2, if_neg (show ¬ nI x < -1 from fun u => by
      have h3 : (-1 : Int32).toInt = -1 := by decide
      have := Int32.lt_iff_toInt_lt.mp u
      rw [h3, nI_toInt (by omega)] at this
      omega), Nat.max_eq_right (by omega)]
theorem hF_m {x b : Nat} {F : Nat × Nat} (h : F.1 ≠ 0 → F.2 < b) : (if okv 0 9 (tkV T n b) = true then (if 8 ≤ x then lF 3 b F else F) else lF 2 b (if 8 ≤ x then lF 3 b F else F)) = hF T n x b F := by
  unfold hF
  by_cases z : 8 ≤ x
  · rw [if_pos z, decide_eq_false (show ¬ x < 8 by omega), lF_fN h]
    unfold fN lF okv
    by_cases q : (0 ≤ tkV T n b ∧ tkV T n b ≤ 9)
    · rw [decide_eq_true q, if_pos rfl, if_pos rfl]
    · rw [decide_eq_false q, if_neg (fun z => Bool.noConfusion z), if_neg (fun z => Bool.noConfusion z), if_neg (fun z => Bool.noConfusion z), if_neg (fun z => Bool.noConfusion z)]
      by_cases f : F.1 = 0
      · rw [if_pos f, if_pos f, if_pos (Or.inr (Or.inr ⟨rfl, (show (2 : Nat) < 3 by omega)⟩)), if_neg (show ¬ ((2 : Nat), b).1 = 0 from fun z => by have z' : (2 : Nat) = 0 := z; omega)]
      · have := h f
        rw [if_neg f, if_neg f, if_neg f, if_neg (by omega)]
  · rw [if_neg z, decide_eq_true (show x < 8 by omega), fN_t]
    unfold fN
    by_cases q : okv 0 9 (tkV T n b) = true
    · rw [if_pos q, if_pos q]
    · rw [if_neg q, if_neg q, lF_fN h]
      unfold fN
      rw [if_neg (fun z => Bool.noConfusion z)]
end
