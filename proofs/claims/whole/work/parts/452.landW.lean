/-! texts: the lines of lands, both sides: size, level, hour, afloat, people -/
section
variable {Z : Nat → Nat} {L : L_T} {R : R_T} {n : Nat} {T : Nat → Nat}
theorem kSize_ok (r19 : R 68 19 = some 78) (z78 : Z 78 = 149) (r20 : R 68 20 = some 79) (z79 : Z 79 = 4) (K : I_T) (L : L_T) : kSize Z R K L = some (1, up2 (up2 K 78 0 (K 79 0)) 78 1 (K 79 1), L) := by
  unfold kSize
  rw [r19, bs_, r20, bs_, z78, z79, if_pos (show inb 0 4 = true from rfl), if_pos (show inb 0 149 = true from rfl), bs_, if_pos (show inb 1 4 = true from rfl), if_pos (show inb 1 149 = true from rfl), bs_, show (0 : Int32).toNatClampNeg = 0 from rfl, show (1 : Int32).toNatClampNeg = 1 from rfl, up2_ne (show (79 : Nat) ≠ 78 by decide)]
theorem kPlain_ok (r19 : R 68 19 = some 78) (z78 : Z 78 = 149) (r20 : R 68 20 = some 79) (z79 : Z 79 = 4) {q : Nat} (hq : q < 149) (K : I_T) (L : L_T) : kPlain Z R (nI q) K L = some (1, up2 K 78 q (K 79 0), L) := by
  unfold kPlain
  rw [r19, bs_, r20, bs_, z78, z79, if_pos (show inb 0 4 = true from rfl), if_pos (inb_nI hq (by omega)), bs_, show (0 : Int32).toNatClampNeg = 0 from rfl, cl_nI (by omega)]
theorem take_l {J J4 : I_T} {w : Nat} (r4 : R 35 4 = some 43) (z43 : Z 43 = 3) (h : D_X5_takeLand Z J L R 35 (nI w) (J 43 0) (J 43 1) (J 43 2) = some J4) : D_X5_take Z J L R 35 (nI 0) (nI w) = some J4 := by
  rw [D_X5_take, r4, bs_, show (0 : Int32) = nI 0 from rfl, show (1 : Int32) = nI 1 from rfl, show (2 : Int32) = nI 2 from rfl, get_ok (by omega) (by omega), bs_, get_ok (by omega) (by omega), bs_, get_ok (by omega) (by omega), bs_, bs_, if_pos rfl, h, bs_]
/-- numbers of a land set, nothing else -/
theorem LD.scal {J K J' K' : I_T} (h : LD J K) (s : ∃ w h l hr af, 2 ≤ w ∧ w ≤ 8 ∧ 2 ≤ h ∧ h ≤ 8 ∧ l ≤ 9 ∧ 1 ≤ hr ∧ hr ≤ 60 ∧ af ≤ 20 ∧ (J' 36 0 = nI w ∧ J' 36 1 = nI h ∧ J' 36 2 = nI l ∧ J' 36 3 = nI hr ∧ J' 36 4 = nI af) ∧ K' 78 0 = nI w ∧ K' 78 1 = nI h ∧ K' 78 2 = nI l ∧ K' 78 3 = nI hr ∧ K' 78 4 = nI af) (e5 : J' 36 5 = J 36 5) (e : ∀ a, 37 ≤ a → a ≤ 40 → J' a = J a) (e9 : J' 35 9 = J 35 9) (e10 : J' 35 10 = J 35 10) (k : ∀ j, 5 ≤ j → K' 78 j = K 78 j) (k21 : K' 68 21 = K 68 21) (k22 : K' 68 22 = K 68 22) : LD J' K' := by
  obtain ⟨_, h2, h3, c, fc, fr, g1, g2, g3, g4, g5, g6, g7, g8, g9, g10⟩ := h
  refine ⟨s, fun i hi => ?_, fun i hi => ?_, c, fc, fr, g1, by rw [e5]; exact g2, by rw [k 5 (by omega)]; exact g3, by rw [e9]; exact g4, g5, by rw [k21]; exact g6, by rw [e10]; exact g7, g8, by rw [k22]; exact g9, fun p hp => ?_⟩
  · rw [e 37 (by omega) (by omega), k (21 + i) (by omega)]
    exact h2 i hi
  · rw [e 38 (by omega) (by omega), k (85 + i) (by omega)]
    exact h3 i hi
  · rw [e 39 (by omega) (by omega), e 40 (by omega) (by omega), k (6 + p) (by omega), k (11 + p) (by omega), k (16 + p) (by omega)]
    exact g10 p hp
theorem dr0 {J K : I_T} (h : LD J K) : DRel 0 J K := ⟨fun _ => h, fun z => by omega, fun z => by omega, fun z => by omega⟩
theorem ln_size (hr : ∀ (a j b : Nat), rlL.elem (a, j, b) = true → R a j = some b) (hz : ∀ (k n : Nat), zlL.elem (k, n) = true → Z k = n) {J : I_T} {F : Nat × Nat} {b i : Nat} (tp : TPc Z R J n T) (rt : RT Z J) (ct : CTok J T n b) (cf : CF J F) (hb : b < n) (hc : F.1 = 0 → CDr 0 J) : LRes Z R T n 0 b i F J L (nI 0) (cst 0) := by
  have r19 := hr 68 19 78 rfl
  have r20 := hr 68 20 79 rfl
  have z78 := hz 78 149 rfl
  have z79 := hz 79 4 rfl
  refine line_gen (w := 0) (s := 0) (q0 := 0) (pre := fun K => K) (k := kSize Z R) (Pk := DRel 0) (by omega) (by omega) (by omega) (by decide) (hr 35 0 36 rfl) (hr 35 1 41 rfl) (hr 35 4 43 rfl) (hz 43 3 rfl) r19 z78 r20 z79 ?_ ?_ ?_ tp rt ct cf hb hc
  · intro b F J J3 N K LK hb f3 hN
    exact mrun (by omega) (by omega) (by decide) r19 z78 r20 z79 (fun _ _ _ => rfl) hb (fun K L K1 K2 L2 r K3 L3 h1 h2 ht h hbr => disp_size (by rw [h2 rfl] at ht; exact ht) (size_mch.trans h) hbr) f3 hN
  · intro J3 v hv cd _
    have v0 : 2 ≤ v 0 ∧ v 0 ≤ 8 := of_decide_eq_true (hv 0 (by decide)).1
    have v1 : 2 ≤ v 1 ∧ v 1 ≤ 8 := of_decide_eq_true (hv 1 (by decide)).1
    have j0 := (hv 0 (by decide)).2
    have j1 := (hv 1 (by decide)).2
    refine ⟨up2 (up2 J3 36 0 (nI (v 0))) 36 1 (nI (v 1)), take_l (hr 35 4 43 rfl) (hz 43 3 rfl) ?_, ⟨fun a ha => by rw [up2_ne (by omega), up2_ne (by omega)], fun j _ _ => by rw [up2_ne (by omega), up2_ne (by omega)]⟩, cd.fr (by rw [up2_j (by omega), up2_j (by omega)]) (by rw [up2_ne (by omega), up2_ne (by omega)]), fun K2 L2 h79 _ _ dr => ⟨_, kSize_ok r19 z78 r20 z79 K2 L2, ⟨fun a a1 a2 a3 => by rw [up2_ne a2, up2_ne a2], fun j _ _ => by rw [up2_ne (by omega), up2_ne (by omega)]⟩, dr0 ?_⟩⟩
    · rw [D_X5_takeLand, bs_, if_pos (show nI 0 = 0 from rfl), hr 35 0 36 rfl, bs_, bs_, bs_, j0, j1]
    · have ld := dr.1 rfl
      obtain ⟨w, h, l, h', af, a1, a2, a3, a4, a5, a6, a7, a8, ⟨b1, b2, b3, b4, b5⟩, c1, c2, c3, c4, c5⟩ := id ld.1
      have q0 := h79 0 (by decide)
      have q1 := h79 1 (by decide)
      rw [Nat.zero_add] at q0 q1
      rw [q0, q1]
      refine ld.scal ⟨v 0, v 1, l, h', af, v0.1, v0.2, v1.1, v1.2, a5, a6, a7, a8, ⟨by rw [up2_j (by omega), up2_s], up2_s _ _ _ _, by rw [up2_j (by omega), up2_j (by omega)]; exact b3, by rw [up2_j (by omega), up2_j (by omega)]; exact b4, by rw [up2_j (by omega), up2_j (by omega)]; exact b5⟩, by rw [up2_j (by omega), up2_s], up2_s _ _ _ _, by rw [up2_j (by omega), up2_j (by omega)]; exact c3, by rw [up2_j (by omega), up2_j (by omega)]; exact c4, by rw [up2_j (by omega), up2_j (by omega)]; exact c5⟩ (by rw [up2_j (by omega), up2_j (by omega)]) (fun a _ _ => by rw [up2_ne (by omega), up2_ne (by omega)]) (by rw [up2_ne (by omega), up2_ne (by omega)]) (by rw [up2_ne (by omega), up2_ne (by omega)]) (fun j _ => by rw [up2_j (by omega), up2_j (by omega)]) (by rw [up2_ne (by omega), up2_ne (by omega)]) (by rw [up2_ne (by omega), up2_ne (by omega)])
  · intro K2 L2 v hv safe
    refine ⟨_, kSize_ok r19 z78 r20 z79 K2 L2, ⟨fun a a1 a2 a3 => by rw [up2_ne a2, up2_ne a2], fun j _ _ => by rw [up2_ne (by omega), up2_ne (by omega)]⟩, ?_⟩
    obtain ⟨c, c1, c2⟩ := safe
    exact ⟨c, c1, by rw [up2_j (show cix 0 ≠ 1 by decide), up2_j (show cix 0 ≠ 0 by decide)]; exact c2⟩
/-- level, hour, afloat -/
theorem ln_plain {w : Nat} (hw : 2 ≤ w) (hw4 : w ≤ 4) (hr : ∀ (a j b : Nat), rlL.elem (a, j, b) = true → R a j = some b) (hz : ∀ (k n : Nat), zlL.elem (k, n) = true → Z k = n) {J : I_T} {F : Nat × Nat} {b i : Nat} (tp : TPc Z R J n T) (rt : RT Z J) (ct : CTok J T n b) (cf : CF J F) (hb : b < n) (hc : F.1 = 0 → CDr 0 J) : LRes Z R T n 0 b i F J L (nI w) (cst w) := by
  have r19 := hr 68 19 78 rfl
  have r20 := hr 68 20 79 rfl
  have z78 := hz 78 149 rfl
  have z79 := hz 79 4 rfl
  have w3 : w = 2 ∨ w = 3 ∨ w = 4 := by omega
  have nm : nm_ w = 1 := by rcases w3 with rfl | rfl | rfl <;> rfl
  have fw : fu w = false := decide_eq_false (by omega)
  refine line_gen (w := w) (s := 0) (q0 := 0) (pre := fun K => K) (k := kPlain Z R (nI w)) (Pk := DRel 0) (by omega) (by omega) (by omega) (by omega) (hr 35 0 36 rfl) (hr 35 1 41 rfl) (hr 35 4 43 rfl) (hz 43 3 rfl) r19 z78 r20 z79 ?_ ?_ ?_ tp rt ct cf hb hc
  · intro b F J J3 N K LK hb f3 hN
    exact mrun (by omega) (by omega) (by omega) r19 z78 r20 z79 (fun _ _ _ => rfl) hb (fun K L K1 K2 L2 r K3 L3 h1 h2 ht h hbr => by
      rw [h2 fw] at ht
      rw [nm] at h
      rcases w3 with rfl | rfl | rfl
      · exact disp_level ht (plain_mch2.trans h) hbr
      · exact disp_hour ht (plain_mch3.trans h) hbr
      · exact disp_afloat ht (plain_mch4.trans h) hbr) f3 hN
  · intro J3 v hv cd _
    have o0 := (hv 0 (by omega)).1
    have j0 := (hv 0 (by omega)).2
    refine ⟨up2 J3 36 w (nI (v 0)), take_l (hr 35 4 43 rfl) (hz 43 3 rfl) ?_, ⟨fun a ha => by rw [up2_ne (by omega)], fun j _ _ => by rw [up2_ne (by omega)]⟩, cd.fr (by rw [up2_j (by omega)]) (by rw [up2_ne (by omega)]), fun K2 L2 h79 _ _ dr => ⟨_, kPlain_ok r19 z78 r20 z79 (by omega) K2 L2, ⟨fun a a1 a2 a3 => by rw [up2_ne a2], fun j _ _ => by rw [up2_ne (by omega)]⟩, dr0 ?_⟩⟩
    · rw [D_X5_takeLand, bs_, j0]
      rcases w3 with rfl | rfl | rfl
      · rw [if_neg (show ¬ nI 2 = 0 by decide), if_neg (show ¬ nI 2 = 1 by decide), if_pos (show nI 2 = 2 from rfl), hr 35 0 36 rfl, bs_, bs_]
      · rw [if_neg (show ¬ nI 3 = 0 by decide), if_neg (show ¬ nI 3 = 1 by decide), if_neg (show ¬ nI 3 = 2 by decide), if_pos (show nI 3 = 3 from rfl), hr 35 0 36 rfl, bs_, bs_]
      · rw [if_neg (show ¬ nI 4 = 0 by decide), if_neg (show ¬ nI 4 = 1 by decide), if_neg (show ¬ nI 4 = 2 by decide), if_neg (show ¬ nI 4 = 3 by decide), if_pos (show nI 4 = 4 from rfl), hr 35 0 36 rfl, bs_, bs_]
    · have ld := dr.1 rfl
      obtain ⟨w', h, l, h', af, a1, a2, a3, a4, a5, a6, a7, a8, ⟨b1, b2, b3, b4, b5⟩, c1, c2, c3, c4, c5⟩ := id ld.1
      have q0 := h79 0 (by omega)
      rw [Nat.zero_add] at q0
      rw [q0]
      refine ld.scal ?_ (by rw [up2_j (by omega)]) (fun a _ _ => by rw [up2_ne (by omega)]) (by rw [up2_ne (by omega)]) (by rw [up2_ne (by omega)]) (fun j _ => by rw [up2_j (by omega)]) (by rw [up2_ne (by omega)]) (by rw [up2_ne (by omega)])
      rcases w3 with rfl | rfl | rfl
      · have v0 : 0 ≤ v 0 ∧ v 0 ≤ 9 := of_decide_eq_true o0
        exact ⟨w', h, v 0, h', af, a1, a2, a3, a4, v0.2, a6, a7, a8, ⟨by rw [up2_j (by omega)]; exact b1, by rw [up2_j (by omega)]; exact b2, up2_s _ _ _ _, by rw [up2_j (by omega)]; exact b4, by rw [up2_j (by omega)]; exact b5⟩, by rw [up2_j (by omega)]; exact c1, by rw [up2_j (by omega)]; exact c2, up2_s _ _ _ _, by rw [up2_j (by omega)]; exact c4, by rw [up2_j (by omega)]; exact c5⟩
      · have v0 : 1 ≤ v 0 ∧ v 0 ≤ 60 := of_decide_eq_true o0
        exact ⟨w', h, l, v 0, af, a1, a2, a3, a4, a5, v0.1, v0.2, a8, ⟨by rw [up2_j (by omega)]; exact b1, by rw [up2_j (by omega)]; exact b2, by rw [up2_j (by omega)]; exact b3, up2_s _ _ _ _, by rw [up2_j (by omega)]; exact b5⟩, by rw [up2_j (by omega)]; exact c1, by rw [up2_j (by omega)]; exact c2, by rw [up2_j (by omega)]; exact c3, up2_s _ _ _ _, by rw [up2_j (by omega)]; exact c5⟩
      · have v0 : 0 ≤ v 0 ∧ v 0 ≤ 20 := of_decide_eq_true o0
        exact ⟨w', h, l, h', v 0, a1, a2, a3, a4, a5, a6, a7, v0.2, ⟨by rw [up2_j (by omega)]; exact b1, by rw [up2_j (by omega)]; exact b2, by rw [up2_j (by omega)]; exact b3, by rw [up2_j (by omega)]; exact b4, up2_s _ _ _ _⟩, by rw [up2_j (by omega)]; exact c1, by rw [up2_j (by omega)]; exact c2, by rw [up2_j (by omega)]; exact c3, by rw [up2_j (by omega)]; exact c4, up2_s _ _ _ _⟩
  · intro K2 L2 v hv safe
    refine ⟨_, kPlain_ok r19 z78 r20 z79 (by omega) K2 L2, ⟨fun a a1 a2 a3 => by rw [up2_ne a2], fun j _ _ => by rw [up2_ne (by omega)]⟩, ?_⟩
    obtain ⟨c, c1, c2⟩ := safe
    exact ⟨c, c1, by rw [up2_j (show cix 0 ≠ w from fun u => by have u' : 5 = w := u; omega)]; exact c2⟩
end
