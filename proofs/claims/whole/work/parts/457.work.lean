/-! texts: the lines of work, both sides -/
theorem nums_add {T : Nat → Nat} {n w : Nat} (d : Nat) : ∀ c i b F, nums T n w (c + d) i b F = if (nums T n w c i b F).1 = true then nums T n w d (i + c) (nums T n w c i b F).2.1 (nums T n w c i b F).2.2 else nums T n w c i b F := by
  intro c
  induction c with
  | zero =>
    intro i b F
    rw [show nums T n w 0 i b F = (true, b, F) from rfl, if_pos rfl, Nat.zero_add, Nat.add_zero]
  | succ c ih =>
    intro i b F
    rw [show c + 1 + d = (c + d) + 1 by omega]
    by_cases hk : tkK T n b = 2
    · rw [show nums T n w (c + d + 1) i b F = nums T n w (c + d) (i + 1) (nbt T n b) (fN (okv (lo_ w i) (hi_ w i) (tkV T n b)) 2 b F) from if_pos hk, show nums T n w (c + 1) i b F = nums T n w c (i + 1) (nbt T n b) (fN (okv (lo_ w i) (hi_ w i) (tkV T n b)) 2 b F) from if_pos hk, ih, show i + 1 + c = i + (c + 1) by omega]
    · rw [show nums T n w (c + d + 1) i b F = (false, b, F) from if_neg hk, show nums T n w (c + 1) i b F = (false, b, F) from if_neg hk, if_neg (fun z => Bool.noConfusion z)]
theorem nums_b {T : Nat → Nat} {n w : Nat} : ∀ c i b F, (nums T n w c i b F).1 = true → (nums T n w c i b F).2.1 = itb T n c b := by
  intro c
  induction c with
  | zero => intro i b F _; rfl
  | succ c ih =>
    intro i b F h
    by_cases hk : tkK T n b = 2
    · rw [show nums T n w (c + 1) i b F = nums T n w c (i + 1) (nbt T n b) (fN (okv (lo_ w i) (hi_ w i) (tkV T n b)) 2 b F) from if_pos hk] at h ⊢
      exact ih _ _ _ h
    · rw [show nums T n w (c + 1) i b F = (false, b, F) from if_neg hk] at h
      exact Bool.noConfusion h
theorem nums_le {T : Nat → Nat} {n w : Nat} : ∀ c i b F, b ≤ n → (nums T n w c i b F).2.1 ≤ n := by
  intro c
  induction c with
  | zero => intro i b F h; exact h
  | succ c ih =>
    intro i b F h
    by_cases hk : tkK T n b = 2
    · rw [show nums T n w (c + 1) i b F = nums T n w c (i + 1) (nbt T n b) (fN (okv (lo_ w i) (hi_ w i) (tkV T n b)) 2 b F) from if_pos hk]
      exact ih _ _ _ (nbt_le h)
    · rw [show nums T n w (c + 1) i b F = (false, b, F) from if_neg hk]
      exact h
section
variable {Z : Nat → Nat} {L : L_T} {R : R_T} {n : Nat} {T : Nat → Nat}
noncomputable def kWork1 (Z : Nat → Nat) (R : R_T) (I : I_T) (L : L_T) : Option (Int32 × I_T × L_T) := if (I 68 23) = 0 then (some (((1 : Int32), I, L))) else ((R 68 19).bind fun q6 => (R 68 20).bind fun q7 => if inb (1 : Int32) (Z q7) = true then if inb (0 : Int32) (Z q7) = true then if inb (2 : Int32) (Z q7) = true then if inb (((85 : Int32) + ((8 : Int32) * (I q7 (1 : Int32).toNatClampNeg))) + (I q7 (0 : Int32).toNatClampNeg)) (Z q6) = true then (some (up2 I q6 ((((85 : Int32) + ((8 : Int32) * (I q7 (1 : Int32).toNatClampNeg))) + (I q7 (0 : Int32).toNatClampNeg)).toNatClampNeg) (I q7 (2 : Int32).toNatClampNeg))).bind fun I12 => some (((1 : Int32), I12, L)) else none else none else none else none)
noncomputable def gWork (Z : Nat → Nat) (R : R_T) (q1 : Int32 × I_T × L_T) : Option (Int32 × I_T × L_T) := if (q1.1) = 0 then (some (((0 : Int32), q1.2.1, q1.2.2))) else mch Z R 5 0 (kWork1 Z R) 1 2 q1.2.1 q1.2.2
theorem work_g {K : I_T} {L : L_T} : D_X11_workLine Z K L R 68 = (D_X11_takeCell Z K L R 68 0).bind (gWork Z R) := rfl
theorem work_mch {K : I_T} {L : L_T} (r20 : R 68 20 = some 79) (z79 : Z 79 = 4) : D_X11_workLine Z K L R 68 = mch Z R 5 0 (fun K L => mch Z R 5 0 (kWork1 Z R) 1 2 (cellK K) L) 2 0 K L := by
  rw [work_g, cell_mch5, mch_bind (fun K L => if_pos rfl) 2 0 K L]
  refine congrArg (fun k => mch Z R 5 0 k 2 0 K L) ?_
  funext K L
  rw [kCell_ok r20 z79, bs_]
  exact if_neg (show ¬ (1 : Int32) = 0 by decide)
theorem kWork1_no {K : I_T} {L : L_T} (h : K 68 23 = 0) : kWork1 Z R K L = some (1, K, L) := if_pos h
theorem kWork1_ok (r19 : R 68 19 = some 78) (z78 : Z 78 = 149) (r20 : R 68 20 = some 79) (z79 : Z 79 = 4) {K : I_T} {L : L_T} (h : ¬ K 68 23 = 0) {x y : Nat} (hx : x ≤ 7) (hy : y ≤ 7) (k0 : K 79 0 = nI x) (k1 : K 79 1 = nI y) : kWork1 Z R K L = some (1, up2 K 78 (85 + (8 * y + x)) (K 79 2), L) := by
  unfold kWork1
  have ix : (85 : Int32) + 8 * nI y + nI x = nI (85 + (8 * y + x)) := by rw [show (85 : Int32) = nI 85 from rfl, show (8 : Int32) = nI 8 from rfl, nI_mul, nI_add, nI_add, Nat.add_assoc]
  rw [if_neg h, r19, bs_, r20, bs_, z79, if_pos (show inb 1 4 = true from rfl), if_pos (show inb 0 4 = true from rfl), if_pos (show inb 2 4 = true from rfl), show (0 : Int32).toNatClampNeg = 0 from rfl, show (1 : Int32).toNatClampNeg = 1 from rfl, show (2 : Int32).toNatClampNeg = 2 from rfl, k0, k1, ix, z78, if_pos (inb_nI (by omega) (by omega)), bs_, cl_nI (by omega)]
/-- what class and model hold before a line of work is kept: the model has looked at its cell already -/
def PkW (J3 K2 : I_T) : Prop := ∃ K0 : I_T, DRel 0 J3 K0 ∧ K2 78 = K0 78 ∧ K2 68 21 = grt (K0 68 21) (K2 79 0) ∧ K2 68 22 = grt (K0 68 22) (K2 79 1)
theorem work_run (r19 : R 68 19 = some 78) (z78 : Z 78 = 149) (r20 : R 68 20 = some 79) (z79 : Z 79 = 4) {b : Nat} {F : Nat × Nat} {J J3 : I_T} {N : Bool × Nat × (Nat × Nat)} {K : I_T} {LK : L_T} (hb : b < n) (f3 : CFr2 J J3) (hN : nums T n 5 (nm_ 5) 0 (nbt T n b) (F0_ J 0 5 b F) = N) (tp : TPm Z R K n T) (mt : MTok K LK T n b) (mf : MF K F) (wf : F.1 ≠ 0 → F.2 < b) (h23 : K 68 23 = 1) (safe : Safe 0 K) (dr : F.1 = 0 → DRel 0 J K) : MRun Z R T n 0 5 0 (kWork1 Z R) (cst 5) (fun K => K) PkW b F J3 N K LK := by
  have n600 := tp.2.1
  have bn := nbt_gt (T := T) hb
  have te := tkE_ge (T := T) (show b ≤ n by omega)
  have eF : F0_ J 0 5 b F = F := by unfold F0_; rw [show fu 5 = false from rfl, Bool.false_and]; exact fN_t
  rw [eF, show nm_ 5 = 2 + 1 from rfl, nums_add] at hN
  obtain ⟨Ka, La, t1, t2, t3⟩ := token_ok (L := LK) tp te.2 mt.1
  have t2' : MTok Ka La T n (nbt T n b) := t2
  have wf0 : F.1 ≠ 0 → F.2 < nbt T n b := fun z => Nat.lt_trans (wf z) bn
  obtain ⟨K2, L2, m1, m2, m3, m4, m5, m6, m7, m8, m9, m10, m11⟩ := mchain (T := T) (n := n) (w := 5) (q0 := 0) (by omega) r20 z79 (fun K L => mch Z R 5 0 (kWork1 Z R) 1 2 (cellK K) L) 2 0 (nbt T n b) F Ka La (by decide) (by omega) (nbt_le (by omega)) (tp.fr (t3.2.1 11 (by omega) (by omega) (by omega) (by omega)) (t3.1 69 (by omega))) t2' (mf.fr (t3.2.1 17 (by omega) (by omega) (by omega) (by omega)) (t3.2.1 18 (by omega) (by omega) (by omega) (by omega))) wf0
  have n2 := nums_le (T := T) (n := n) (w := 5) 2 0 (nbt T n b) F (nbt_le (by omega))
  have n2k := nums_b (T := T) (n := n) (w := 5) 2 0 (nbt T n b) F
  generalize hM : nums T n 5 2 0 (nbt T n b) F = M at hN m1 m2 m3 m4 m5 m8 m10 m11 n2 n2k
  have o2 : ∀ a, a ≠ 68 → a ≠ 79 → K2 a = K a := fun a a1 a2 => by rw [m6.1 a a1 a2, t3.1 a a1]
  have q2 : ∀ j, j < 10 ∨ j = 11 ∨ (18 < j ∧ j ≠ 23) → K2 68 j = K 68 j := fun j hj => by rw [m6.2.1 j (by omega), t3.2.1 j (by omega) (by omega) (by omega) (by omega)]
  have g0 : Ka 68 23 = 1 := by rw [t3.2.1 23 (by omega) (by omega) (by omega) (by omega), h23]
  have line : ∀ r K3 L3, (if M.1 = true then mch Z R 5 0 (kWork1 Z R) 1 2 (cellK K2) L2 else some (0, K2, L2)) = some (r, K3, L3) → isb r = true → D_X11_lineOf Z K LK R 68 (nI 0) (cst 5) (nI b) = some (r, K3, L3) := fun r K3 L3 h hbr => disp_work t1 ((work_mch r20 z79).trans (m1.trans h)) hbr
  by_cases hok : M.1 = true
  · rw [if_pos hok] at hN
    have c68 : ∀ j, j ≠ 21 → j ≠ 22 → cellK K2 68 j = K2 68 j := fun j h1 h2 => cellK_j K2 h1 h2
    obtain ⟨K', L', p1, p2, p3, p4, p5, p6, p7, p8, p9, p10, p11⟩ := mchain (T := T) (n := n) (w := 5) (q0 := 0) (by omega) r20 z79 (kWork1 Z R) 1 2 M.2.1 M.2.2 (cellK K2) L2 (by decide) (by omega) n2 (tp.fr (by rw [c68 11 (by omega) (by omega), q2 11 (by omega)]) (by rw [cellK_o K2 (by omega), o2 69 (by omega) (by omega)])) (m3.fr (fun j hj => c68 j (by omega) (by omega))) (m4.fr (c68 17 (by omega) (by omega)) (c68 18 (by omega) (by omega))) m5
    rw [show 0 + 2 = 2 from rfl] at hN
    rw [hN] at p1 p2 p3 p4 p5 p8 p10 p11
    have k78 : K' 78 = K 78 := by rw [p6.1 78 (by omega) (by omega), cellK_o K2 (by omega), o2 78 (by omega) (by omega)]
    have v79 : ∀ q, q < 2 → K' 79 q = K2 79 q := fun q hq => by rw [p7 q (by omega), cellK_o K2 (by omega)]
    refine ⟨K', L', fun r K3 L3 h hbr => line r K3 L3 (by rw [if_pos hok]; exact p1.trans h) hbr, p2, p3, p4, p5, ⟨fun a a1 _ a3 => by rw [p6.1 a a1 a3, cellK_o K2 a1, o2 a a1 a3], fun j hj => by rw [p6.2.1 j (by omega), c68 j (by omega) (by omega), q2 j (by omega)], fun a ha => by rw [p6.2.2.1 a ha, m6.2.2.1 a ha, t3.2.2.1 a ha]⟩, ?_, fun z _ => ⟨K, (dr z).fr (fun a a1 a2 => f3.1 a (by omega) (by omega)) (f3.2 9 (by omega)) (f3.2 10 (by omega)) rfl rfl rfl, k78, ?_, ?_⟩, ⟨Ka, fun q hq => ?_⟩, fun z j hj => ?_, fun z z2 j hj => ?_, fun z => ?_⟩
    · unfold Safe at safe ⊢
      rw [k78]
      exact safe
    · rw [p6.2.1 21 (by omega), v79 0 (by omega)]
      unfold cellK
      rw [up2_j (by omega), up2_s, q2 21 (by omega)]
    · rw [p6.2.1 22 (by omega), v79 1 (by omega)]
      unfold cellK
      rw [up2_s, q2 22 (by omega)]
    · have q3 : 3 ≤ q := by
        have : nm_ 5 = 3 := rfl
        omega
      rw [p7 q (by omega), cellK_o K2 (by omega), m7 q (by omega)]
    · have j3 : j < 3 := hj
      by_cases y : j < 2
      · rw [Nat.zero_add, v79 j y]
        have := m8 hok j y
        rwa [Nat.add_zero, Nat.zero_add] at this
      · have j2 : j = 2 := by omega
        subst j2
        have := p8 z 0 (by omega)
        rw [show 0 + 2 + 0 = 0 + 2 from rfl] at this
        rw [this]
        show nI (tkV T n M.2.1) = _
        rw [n2k hok]
    · have j3 : j < 3 := hj
      by_cases y : j < 2
      · have k23 : K2 68 23 ≠ 0 := by
          rcases p9 with u | u
          · rw [u, c68 23 (by omega) (by omega)] at z2
            exact z2
          · exact (z2 u).elim
        have := m10 k23 hok j y
        rwa [Nat.zero_add] at this
      · have j2 : j = 2 := by omega
        subst j2
        have := p10 z2 z 0 (by omega)
        rw [show 2 + 0 = 2 from rfl] at this
        have e : itb T n 0 M.2.1 = itb T n 2 (nbt T n b) := by rw [n2k hok]; rfl
        rw [e] at this
        exact this
    · obtain ⟨y1, y2, _⟩ := p11 z
      rw [y2, c68 23 (by omega) (by omega), (m11 y1).2.1, g0]
  · rw [if_neg hok] at hN
    subst hN
    refine ⟨K2, L2, fun r K3 L3 h hbr => line r K3 L3 (by rw [if_neg hok] at h ⊢; exact h) hbr, m2, m3, m4, m5, ⟨fun a a1 _ a3 => o2 a a1 a3, fun j hj => q2 j (by omega), fun a ha => by rw [m6.2.2.1 a ha, t3.2.2.1 a ha]⟩, ?_, fun _ z => (hok z).elim, ⟨Ka, fun q hq => m7 q (by have : nm_ 5 = 3 := rfl; omega)⟩, fun z => (hok z).elim, fun z => (hok z).elim, fun z => by rw [(m11 z).2.1, g0]⟩
    unfold Safe at safe ⊢
    rw [o2 78 (by omega) (by omega)]
    exact safe
theorem ln_work (hr : ∀ (a j b : Nat), rlL.elem (a, j, b) = true → R a j = some b) (hz : ∀ (k n : Nat), zlL.elem (k, n) = true → Z k = n) {J : I_T} {F : Nat × Nat} {b i : Nat} (tp : TPc Z R J n T) (rt : RT Z J) (ct : CTok J T n b) (cf : CF J F) (hb : b < n) (hc : F.1 = 0 → CDr 0 J) : LRes Z R T n 0 b i F J L (nI 5) (cst 5) := by
  have r19 := hr 68 19 78 rfl
  have r20 := hr 68 20 79 rfl
  have z78 := hz 78 149 rfl
  have z79 := hz 79 4 rfl
  refine line_gen (w := 5) (s := 0) (q0 := 0) (pre := fun K => K) (k := kWork1 Z R) (Pk := PkW) (by omega) (by omega) (by omega) (by decide) (hr 35 0 36 rfl) (hr 35 1 41 rfl) (hr 35 4 43 rfl) (hz 43 3 rfl) r19 z78 r20 z79 ?_ ?_ ?_ tp rt ct cf hb hc
  · intro b F J J3 N K LK hb f3 hN tp mt mf wf h23 safe dr
    exact work_run r19 z78 r20 z79 hb f3 hN tp mt mf wf h23 safe dr
  · intro J3 v hv cd _
    have o0 : 0 ≤ v 0 ∧ v 0 ≤ 7 := of_decide_eq_true (hv 0 (by decide)).1
    have o1 : 0 ≤ v 1 ∧ v 1 ≤ 7 := of_decide_eq_true (hv 1 (by decide)).1
    have o2 : 0 ≤ v 2 ∧ v 2 ≤ 20 := of_decide_eq_true (hv 2 (by decide)).1
    have j0 := (hv 0 (by decide)).2
    have j1 := (hv 1 (by decide)).2
    have j2 := (hv 2 (by decide)).2
    generalize hJa : up2 J3 38 (8 * v 1 + v 0) (nI (v 2)) = Ja
    have ao : ∀ a, a ≠ 38 → Ja a = J3 a := fun a h => by rw [← hJa, up2_ne h]
    have a38 : Ja 38 (8 * v 1 + v 0) = nI (v 2) := by rw [← hJa, up2_s]
    have a38' : ∀ i, i ≠ 8 * v 1 + v 0 → Ja 38 i = J3 38 i := fun i h => by rw [← hJa, up2_j h]
    refine ⟨up2 (up2 Ja 35 9 (imax (J3 35 9) (nI (v 0)))) 35 10 (imax (J3 35 10) (nI (v 1))), take_l (hr 35 4 43 rfl) (hz 43 3 rfl) ?_, ⟨fun a ha => by rw [up2_ne (by omega), up2_ne (by omega), ao a (by omega)], fun j g1 g2 => by rw [up2_j g2, up2_j g1, ao 35 (by omega)]⟩, cd.fr (by rw [up2_ne (by omega), up2_ne (by omega), ao 36 (by omega)]) (by rw [up2_ne (by omega), up2_ne (by omega), ao 41 (by omega)]), fun K2 L2 h79 _ g23 pk => ?_⟩
    · rw [D_X5_takeLand, bs_, j0, j1, j2, if_neg (show ¬ nI 5 = 0 by decide), if_neg (show ¬ nI 5 = 1 by decide), if_neg (show ¬ nI 5 = 2 by decide), if_neg (show ¬ nI 5 = 3 by decide), if_neg (show ¬ nI 5 = 4 by decide), if_pos (show nI 5 = 5 from rfl), hr 35 0 36 rfl, bs_, hr 36 7 38 rfl, bs_, show (8 : Int32) = nI 8 from rfl, nI_mul, nI_add, show v 1 * 8 + v 0 = 8 * v 1 + v 0 by omega, put_ok (by rw [hz 38 64 rfl]; omega) (by rw [hz 38 64 rfl]; omega), bs_, hJa, tellOf_ok, bs_, ao 35 (by omega)]
    · obtain ⟨K0, dr, e78, e21, e22⟩ := pk
      have q0 := h79 0 (by decide)
      have q1 := h79 1 (by decide)
      have q2 := h79 2 (by decide)
      rw [Nat.zero_add] at q0 q1 q2
      rw [q0] at e21
      rw [q1] at e22
      have n23 : ¬ K2 68 23 = 0 := by rw [g23]; decide
      refine ⟨_, kWork1_ok r19 z78 r20 z79 n23 o0.2 o1.2 q0 q1, ⟨fun a a1 a2 a3 => up2_ne a2, fun j _ _ => by rw [up2_ne (by omega)]⟩, dr0 ?_⟩
      rw [q2]
      obtain ⟨⟨w', h, l, h', af, a1, a2, a3, a4, a5, a6, a7, a8, ⟨b1, b2, b3, b4, b5⟩, c1, c2, c3, c4, c5⟩, hh, hwk, cc, fc, fr, g1, g2, g3, g4, g5, g6, g7, g8, g9, g10⟩ := dr.1 rfl
      have jn : ∀ a, 36 ≤ a → up2 (up2 Ja 35 9 (imax (J3 35 9) (nI (v 0)))) 35 10 (imax (J3 35 10) (nI (v 1))) a = Ja a := fun a ha => by rw [up2_ne (by omega), up2_ne (by omega)]
      have kn : ∀ j, j ≠ 85 + (8 * v 1 + v 0) → up2 K2 78 (85 + (8 * v 1 + v 0)) (nI (v 2)) 78 j = K0 78 j := fun j hj => by rw [up2_j hj, e78]
      refine ⟨⟨w', h, l, h', af, a1, a2, a3, a4, a5, a6, a7, a8, ⟨?_, ?_, ?_, ?_, ?_⟩, ?_, ?_, ?_, ?_, ?_⟩, fun i hi => ?_, fun i hi => ?_, cc, max fc (v 0), max fr (v 1), g1, ?_, ?_, ?_, by omega, ?_, ?_, by omega, ?_, fun p hp => ?_⟩
      · rw [jn 36 (by omega), ao 36 (by omega)]; exact b1
      · rw [jn 36 (by omega), ao 36 (by omega)]; exact b2
      · rw [jn 36 (by omega), ao 36 (by omega)]; exact b3
      · rw [jn 36 (by omega), ao 36 (by omega)]; exact b4
      · rw [jn 36 (by omega), ao 36 (by omega)]; exact b5
      · rw [kn 0 (by omega)]; exact c1
      · rw [kn 1 (by omega)]; exact c2
      · rw [kn 2 (by omega)]; exact c3
      · rw [kn 3 (by omega)]; exact c4
      · rw [kn 4 (by omega)]; exact c5
      · rw [jn 37 (by omega), ao 37 (by omega), kn _ (by omega)]
        exact hh i hi
      · by_cases y : i = 8 * v 1 + v 0
        · rw [jn 38 (by omega), y, a38, up2_s]
          exact ⟨rfl, v 2, o2.2, rfl⟩
        · rw [jn 38 (by omega), a38' i y, kn _ (by omega)]
          exact hwk i hi
      · rw [jn 36 (by omega), ao 36 (by omega)]; exact g2
      · rw [kn 5 (by omega)]; exact g3
      · rw [up2_j (by omega), up2_s, g4]
        exact imax_nI (by omega) (by omega)
      · rw [up2_ne (by omega), e21]
        exact FEq_grt g6 (by omega) (by omega)
      · rw [up2_s, g7]
        exact imax_nI (by omega) (by omega)
      · rw [up2_ne (by omega), e22]
        exact FEq_grt g9 (by omega) (by omega)
      · obtain ⟨kd, x, y, e1, e2, e3, e4, e5, e6, e7, e8, e9, e10⟩ := g10 p hp
        exact ⟨kd, x, y, e1, e2, e3, by omega, by omega, by rw [jn 39 (by omega), ao 39 (by omega)]; exact e6, by rw [jn 40 (by omega), ao 40 (by omega)]; exact e7, by rw [kn _ (by omega)]; exact e8, by rw [kn _ (by omega)]; exact e9, by rw [kn _ (by omega)]; exact e10⟩
  · intro K2 L2 v hv safe
    obtain ⟨c, c1, c2⟩ := safe
    have c1' : c ≤ 5 := c1
    by_cases z : K2 68 23 = 0
    · exact ⟨K2, kWork1_no z, ⟨fun _ _ _ _ => rfl, fun _ _ _ => rfl⟩, c, c1, c2⟩
    · have o0 : 0 ≤ v 0 ∧ v 0 ≤ 7 := of_decide_eq_true ((hv 0 (by decide)).2.2 z)
      have o1 : 0 ≤ v 1 ∧ v 1 ≤ 7 := of_decide_eq_true ((hv 1 (by decide)).2.2 z)
      have q0 := (hv 0 (by decide)).1
      have q1 := (hv 1 (by decide)).1
      rw [Nat.zero_add] at q0 q1
      exact ⟨_, kWork1_ok r19 z78 r20 z79 z o0.2 o1.2 q0 q1, ⟨fun a a1 a2 a3 => up2_ne a2, fun j _ _ => by rw [up2_ne (by omega)]⟩, c, c1, by rw [up2_j (show cix 0 ≠ 85 + (8 * v 1 + v 0) from fun u => by have u' : 5 = 85 + (8 * v 1 + v 0) := u; omega)]; exact c2⟩
end
