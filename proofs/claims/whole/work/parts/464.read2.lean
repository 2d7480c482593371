/-! texts: a text read, both sides (2) -/
section
variable {Z : Nat → Nat} {L : L_T} {R : R_T} {n : Nat} {T : Nat → Nat}
/-- the frame of a text read by the model -/
def RFm (K : I_T) (L : L_T) (K' : I_T) (L' : L_T) : Prop := (∀ j, j ≠ 0 → K' 71 j = K 71 j ∧ K' 72 j = K 72 j) ∧ (∀ a, a ≠ 68 → a ≠ 71 → a ≠ 72 → a ≠ 78 → a ≠ 79 → K' a = K a) ∧ ∀ a, a ≠ 68 → L' a = L a
theorem read_two {s : Nat} (hs : s < 4) (hr : ∀ (a j b : Nat), rlL.elem (a, j, b) = true → R a j = some b) (hz : ∀ (k n : Nat), zlL.elem (k, n) = true → Z k = n) {J : I_T} (tp : TPc Z R J n T) (rt : RT Z J) (hK : ∃ K0 : I_T, TPm Z R K0 n T) : ∃ f pv J' L', D_X5_read Z J L R 35 7 (nI s) = some (J', L') ∧ f < 100 ∧ J' 35 2 = nI f ∧ J' 35 3 = pv ∧ LFc J J' ∧ (∀ a, a ≠ 36 → L' a = L a) ∧ ∀ K LK, TPm Z R K n T → ∃ K' L'', D_X11_readText Z K LK R 68 (nI s) = some (if f = 0 then 1 else 0, K', L'') ∧ K' 71 0 = nI f ∧ K' 72 0 = pv ∧ RFm K LK K' L'' ∧ (f = 0 → (s = 0 → ∃ d, VD d ∧ CL J' L' 36 d ∧ MLt K' d) ∧ (s ≠ 0 → DRel s J' K')) := by
  have n600 := tp.2.1
  have r19 := hr 68 19 78 rfl
  have z78 := hz 78 149 rfl
  have r3 := hr 68 3 71 rfl
  have r4 := hr 68 4 72 rfl
  have z71 := hz 71 4 rfl
  have z72 := hz 72 4 rfl
  obtain ⟨J9, c1, c2, ⟨c3, c4, c5, c6, c7⟩, c8, c9, c10⟩ := cinit (L := L) hr hz J (nI s)
  have tp9 : TPc Z R J9 n T := tp.fr (c2 7 (by omega)) (c2 8 (by omega))
  obtain ⟨J10, d1, d2, d3⟩ := advance_ok (L := L) (p := 0) tp9 (Nat.zero_le _) c5
  have o10 : LFc J J10 := fun a ha => by rw [d3.1 a (by omega), c2 a ha]
  have cf10 : CF J10 (0, 0) := ⟨by rw [d3.2 2 (by omega)]; exact c3, by rw [d3.2 3 (by omega), if_pos rfl]; exact c4, by omega⟩
  have ini : ∀ K5 : I_T, K5 68 21 = -1 → K5 68 22 = -1 → (∀ j, j < 149 → K5 78 j = tini s j) → DRel s J10 K5 := fun K5 k1 k2 k3 => dr_ini hs ⟨by rw [d3.2 9 (by omega)]; exact c6, by rw [d3.2 10 (by omega)]; exact c7⟩ (by rw [d3.1 36 (by omega)]; exact c8) (fun i hi => by rw [d3.1 37 (by omega), d3.1 38 (by omega)]; exact c9 i hi) (by rw [d3.1 41 (by omega)]; exact c10) k1 k2 k3
  obtain ⟨K0, tpK0⟩ := hK
  have cd10 : CDr s J10 := by
    obtain ⟨K5, L5, m1, m2, m3, m4, m5, m6, m7, m8, m9⟩ := minit (LK := L) r19 z78 hs tpK0
    exact ((ini K5 m6 m7 m8).cnt hs).1
  obtain ⟨fine, bF, FF, J1, l1, l2, l3, l4, l5, l6⟩ := lines_two (L := L) hs hr hz J10 n (sk blk T n 0) 0 (0, 0) J10 (by omega) (sk_le (Nat.zero_le _)) (Nat.zero_le _) (tp.fr (o10 7 (by omega)) (o10 8 (by omega))) (rt.keep (fun _ _ _ => rfl) (fun a a1 a4 => o10 a (by omega))) d2 cf10 (fun _ => cd10)
  have o1 : LFc J J1 := fun a ha => by rw [l3 a ha, o10 a ha]
  have rl : D_X5_readLines Z J9 L R 35 7 (nI s) = some J1 := by
    rw [D_X5_readLines, d1, bs_, D_X5_readLines_7, show (0 : Int32) = nI 0 from rfl]
    exact l2
  rw [rl, bs_] at c1
  -- the model's run
  have run : ∀ K LK, TPm Z R K n T → ∃ K' L', (∀ y, rdM Z R (nI s) (bI fine, K', L') = some y → D_X11_readText Z K LK R 68 (nI s) = some y) ∧ (∀ a, a ≠ 68 → a ≠ 78 → a ≠ 79 → K' a = K a) ∧ (∀ a, a ≠ 68 → L' a = LK a) ∧ (fine = true → MF K' FF ∧ K' 68 12 = nI n ∧ (FF.1 = 0 → DRel s J1 K')) ∧ (fine = false → K' 68 16 = nI bF) := fun K LK tpm => by
    obtain ⟨K5, L5, m1, m2, m3, m4, m5, m6, m7, m8, m9⟩ := minit (LK := LK) r19 z78 hs tpm
    have dr := ini K5 m6 m7 m8
    obtain ⟨K', L', q1, q2, q3, q4⟩ := l6 K5 L5 K5 L5 m3 m1 m2 (fun z => (z rfl).elim) (dr.safe hs) (fun _ => dr)
    refine ⟨K', L', fun y hy => m9 y ?_, fun a a1 a2 a3 => by rw [q2.1 a a1 a2 a3, m4 a a1 a2], fun a ha => by rw [q2.2.2 a ha, m5 a ha], q3, q4⟩
    rw [D_X11_lines, D_X11_lines_2, q1, bs_]
    exact hy
  have rf : ∀ (K : I_T) (LK : L_T) (K' : I_T) (L' : L_T) (x y : Int32), (∀ a, a ≠ 68 → a ≠ 78 → a ≠ 79 → K' a = K a) → (∀ a, a ≠ 68 → L' a = LK a) → RFm K LK (up2 (up2 K' 71 0 x) 72 0 y) L' := fun K LK K' L' x y h1 h2 => ⟨fun j hj => ⟨by rw [up2_ne (by omega), up2_j hj, h1 71 (by omega) (by omega) (by omega)], by rw [up2_j hj, up2_ne (by omega), h1 72 (by omega) (by omega) (by omega)]⟩, fun a a1 a2 a3 a4 a5 => by rw [up2_ne a3, up2_ne a2, h1 a a1 a4 a5], h2⟩
  cases hf : fine with
  | false =>
    obtain ⟨g1, g2⟩ := l5 hf
    refine ⟨1, nI bF, J1, L, ?_, by omega, g1, g2, o1, fun _ _ => rfl, fun K LK tpm => ?_⟩
    · rw [c1]
      unfold rdT
      rw [if_neg (show ¬ J1 35 2 = 0 by rw [g1]; decide)]
    · obtain ⟨K', L', q1, q2, q3, q4, q5⟩ := run K LK tpm
      refine ⟨_, L', q1 _ ?_, by rw [up2_ne (by omega), up2_s]; rfl, by rw [up2_s]; exact q5 hf, rf K LK K' L' 1 (K' 68 16) q2 q3, fun z => by omega⟩
      unfold rdM
      dsimp only
      rw [hf, if_pos (show bI false = 0 from rfl)]
      exact t137_0 r3 r4 z71 z72 K' L'
  | true =>
    obtain ⟨g1, g2⟩ := l4 hf
    have f100 := g1.2.2
    by_cases z : FF.1 = 0
    · by_cases zs : s = 0
      · subst zs
        -- a land
        have j20 : J1 35 2 = 0 := by rw [g1.1, z]; rfl
        have j3 : J1 35 3 = -1 := by rw [g1.2.1, if_pos z]
        obtain ⟨K1, ld1⟩ : ∃ K1, LD J1 K1 := by
          obtain ⟨K', L', q1, q2, q3, q4, q5⟩ := run K0 L tpK0
          exact ⟨K', ((q4 hf).2.2 z).1 rfl⟩
        obtain ⟨⟨w, h, l, hr', af, a1, a2, a3, a4, a5, a6, a7, a8, ⟨b1, b2, b3, b4, b5⟩, _⟩, _, _, c, fc, fr, e1, e2, _, e4, e5, _, e7, e8, _, _⟩ := id ld1
        have cw : J1 35 9 < J1 36 0 ↔ fc < w := by rw [e4, b1]; exact nI_ltI (by omega) (by omega)
        have ch : J1 35 10 < J1 36 1 ↔ fr < h := by rw [e7, b2]; exact nI_ltI (by omega) (by omega)
        -- the model's end
        have fin : ∀ K LK, TPm Z R K n T → ∃ K' L', LD J1 K' ∧ MF K' FF ∧ K' 68 12 = nI n ∧ (∀ a, a ≠ 68 → a ≠ 78 → a ≠ 79 → K' a = K a) ∧ (∀ a, a ≠ 68 → L' a = LK a) ∧ (fc < w → fr < h → ∀ y, D_X11_readText_137 Z K' L' R 68 1 = some y → D_X11_readText Z K LK R 68 (nI 0) = some y) ∧ (¬ (fc < w ∧ fr < h) → ∀ y, D_X11_readText_128 Z K' L' R 68 1 = some y → D_X11_readText Z K LK R 68 (nI 0) = some y) := fun K LK tpm => by
          obtain ⟨K', L', q1, q2, q3, q4, q5⟩ := run K LK tpm
          obtain ⟨q6, q7, q8⟩ := q4 hf
          have ld : LD J1 K' := (q8 z).1 rfl
          obtain ⟨⟨w2, h2, l2, hr2, af2, _, x2, _, x4, x5, _, x7, x8, ⟨y1, y2, y3, y4, y5⟩, k1, k2, _⟩, _, _, c2, fc2, fr2, p1, p2, p3, p4, p5, p6, p7, p8, p9, _⟩ := id ld
          have u1 : w2 = w := (nI_eq (by omega) (by omega)).mp (y1.symm.trans b1)
          have u2 : h2 = h := (nI_eq (by omega) (by omega)).mp (y2.symm.trans b2)
          have u3 : fc2 = fc := (nI_eq (by omega) (by omega)).mp (p4.symm.trans e4)
          have u4 : fr2 = fr := (nI_eq (by omega) (by omega)).mp (p7.symm.trans e7)
          subst u1
          subst u2
          subst u3
          subst u4
          have mw : K' 68 21 < K' 78 0 ↔ fc2 < w2 := by rw [k1]; exact FEq_lt p6 (by omega) a1 (by omega)
          have mh : K' 68 22 < K' 78 1 ↔ fr2 < h2 := by rw [k2]; exact FEq_lt p9 (by omega) a3 (by omega)
          have k17 : K' 68 17 = 0 := by rw [q6.1, z]; rfl
          refine ⟨K', L', ld, q6, q7, q2, q3, fun v1 v2 y hy => q1 y ?_, fun nv y hy => q1 y ?_⟩
          · unfold rdM
            dsimp only
            rw [hf, if_neg (show ¬ bI true = 0 by decide), if_pos (show nI 0 = 0 from rfl), if_pos k17, r19, bs_, z78, if_pos (show inb 0 149 = true from rfl), show (0 : Int32).toNatClampNeg = 0 from rfl, show (1 : Int32).toNatClampNeg = 1 from rfl, if_pos (mw.mpr v1), if_pos (show inb 1 149 = true from rfl), if_pos (mh.mpr v2)]
            exact hy
          · unfold rdM
            dsimp only
            rw [hf, if_neg (show ¬ bI true = 0 by decide), if_pos (show nI 0 = 0 from rfl), if_pos k17, r19, bs_, z78, if_pos (show inb 0 149 = true from rfl), show (0 : Int32).toNatClampNeg = 0 from rfl, show (1 : Int32).toNatClampNeg = 1 from rfl]
            by_cases v1 : fc2 < w2
            · rw [if_pos (mw.mpr v1), if_pos (show inb 1 149 = true from rfl), if_neg (fun u => nv ⟨v1, mh.mp u⟩)]
              exact hy
            · rw [if_neg (fun u => v1 (mw.mp u))]
              exact hy
        by_cases v : fc < w ∧ fr < h
        · obtain ⟨d, J', L', s1, s2, s3, s4, s5, s6⟩ := land_d (L := L) (R := R) (Z := Z) ⟨hr 36 6 37 rfl, hr 36 7 38 rfl, hr 36 8 39 rfl, hr 36 9 40 rfl, hz 37 64 rfl, hz 38 64 rfl, hz 39 5 rfl, hz 40 5 rfl⟩ ld1 b1 b2 a2 a4 e4 e7 e5 e8 v.1 v.2
          refine ⟨0, -1, J', L', ?_, by omega, by rw [s4 35 (by omega) (by omega) (by omega)]; exact j20, by rw [s4 35 (by omega) (by omega) (by omega)]; exact j3, fun a ha => by rw [s4 a (by omega) (by omega) (by omega), o1 a ha], s5, fun K LK tpm => ?_⟩
          · rw [c1]
            unfold rdT
            rw [if_pos j20, if_pos (show nI 0 = 0 from rfl), if_pos (cw.mpr v.1), if_pos (ch.mpr v.2), s1, bs_]
          · obtain ⟨K', L'', ld, mf, k12, q2, q3, y1, y2⟩ := fin K LK tpm
            refine ⟨_, L'', y1 v.1 v.2 _ ?_, ?_, ?_, rf K LK K' L'' (nI FF.1) (-1) q2 q3, fun _ => ⟨fun _ => ⟨d, s2, s3, ?_⟩, fun u => (u rfl).elim⟩⟩
            · have := t137_1 r3 r4 z71 z72 mf L''
              rw [if_pos z, if_pos z] at this
              exact this
            · rw [up2_ne (by omega), up2_s, z]
            · rw [up2_s]
            · have ml := s6 K' ld
              unfold MLt at ml ⊢
              rw [up2_ne (by omega), up2_ne (by omega)]
              exact ml
        · -- a cell told of that is not there
          have e85 : D_X5_read_85 Z J1 L R 35 7 = some (up2 (up2 J1 35 2 4) 35 3 (nI n), L) := by
            rw [D_X5_read_85, D_X5_note, if_pos j20, bs_, bs_, (show J1 7 1 = nI n from (tp.fr (o1 7 (by omega)) (o1 8 (by omega))).1), bs_]
          refine ⟨4, nI n, up2 (up2 J1 35 2 4) 35 3 (nI n), L, ?_, by omega, by rw [up2_j (by omega), up2_s]; rfl, up2_s _ _ _ _, fun a ha => by rw [up2_ne (by omega), up2_ne (by omega), o1 a ha], fun _ _ => rfl, fun K LK tpm => ?_⟩
          · rw [c1]
            unfold rdT
            rw [if_pos j20, if_pos (show nI 0 = 0 from rfl), e85]
            by_cases v1 : fc < w
            · rw [if_pos (cw.mpr v1), if_neg (fun u => v ⟨v1, ch.mp u⟩)]
            · rw [if_neg (fun u => v1 (cw.mp u))]
          · obtain ⟨K', L'', ld, mf, k12, q2, q3, y1, y2⟩ := fin K LK tpm
            obtain ⟨Kl, w1, w2, w3, w4⟩ := later_ok (Z := Z) (L := L'') (R := R) (w := 4) (b := n) mf (by omega) n600
            have e : lF 4 n FF = (4, n) := if_pos (Or.inl z)
            rw [e] at w2
            refine ⟨_, L'', y2 v _ ?_, ?_, ?_, rf K LK Kl L'' (nI 4) (nI n) (fun a h1 h2 h3 => by rw [w3 a h1, q2 a h1 h2 h3]) q3, fun u => by omega⟩
            · have := t137_1 r3 r4 z71 z72 w2 L''
              rw [if_neg (show ¬ ((4 : Nat), n).1 = 0 from fun u => by have u' : (4 : Nat) = 0 := u; omega), if_neg (show ¬ ((4 : Nat), n).1 = 0 from fun u => by have u' : (4 : Nat) = 0 := u; omega)] at this
              rw [D_X11_readText_128, k12, show (4 : Int32) = nI 4 from rfl, w1, bs_, if_neg (show ¬ (4 : Nat) = 0 by omega)]
              exact this
            · rw [up2_ne (by omega), up2_s]
            · rw [up2_s]
      · -- another text without fault
        refine ⟨0, -1, J1, L, ?_, by omega, by rw [g1.1, z], by rw [g1.2.1, if_pos z], o1, fun _ _ => rfl, fun K LK tpm => ?_⟩
        · rw [c1]
          unfold rdT
          rw [if_pos (show J1 35 2 = 0 by rw [g1.1, z]; rfl), if_neg (fun u => zs ((nl_eq (k := 0) (j := 0) rfl (by omega) (by omega)).mp u))]
        · obtain ⟨K', L', q1, q2, q3, q4, q5⟩ := run K LK tpm
          obtain ⟨q6, q7, q8⟩ := q4 hf
          have t := t137_1 r3 r4 z71 z72 q6 L'
          rw [if_pos z, if_pos z] at t
          refine ⟨_, L', q1 _ ?_, by rw [up2_ne (by omega), up2_s, z], by rw [up2_s], rf K LK K' L' (nI FF.1) (-1) q2 q3, fun _ => ⟨fun u => (zs u).elim, fun _ => (q8 z).fr (fun _ _ _ => rfl) rfl rfl (by rw [up2_ne (by omega), up2_ne (by omega)]) (by rw [up2_ne (by omega), up2_ne (by omega)]) (by rw [up2_ne (by omega), up2_ne (by omega)])⟩⟩
          unfold rdM
          dsimp only
          rw [hf, if_neg (show ¬ bI true = 0 by decide), if_neg (fun u => zs ((nl_eq (k := 0) (j := 0) rfl (by omega) (by omega)).mp u))]
          exact t
    · -- a fault noted
      refine ⟨FF.1, nI FF.2, J1, L, ?_, f100, g1.1, by rw [g1.2.1, if_neg z], o1, fun _ _ => rfl, fun K LK tpm => ?_⟩
      · rw [c1]
        unfold rdT
        rw [if_neg (show ¬ J1 35 2 = 0 by rw [g1.1]; exact fun u => z ((nl_eq (k := 0) (j := 0) rfl (by omega) (by omega)).mp u))]
      · obtain ⟨K', L', q1, q2, q3, q4, q5⟩ := run K LK tpm
        obtain ⟨q6, q7, q8⟩ := q4 hf
        have t := t137_1 r3 r4 z71 z72 q6 L'
        rw [if_neg z, if_neg z] at t
        have k17 : ¬ K' 68 17 = 0 := by rw [q6.1]; exact fun u => z ((nl_eq (k := 0) (j := 0) rfl (by omega) (by omega)).mp u)
        refine ⟨_, L', q1 _ ?_, by rw [up2_ne (by omega), up2_s], by rw [up2_s], rf K LK K' L' (nI FF.1) (nI FF.2) q2 q3, fun u => (z u).elim⟩
        unfold rdM
        dsimp only
        rw [hf, if_neg (show ¬ bI true = 0 by decide), if_neg z]
        by_cases zs : s = 0
        · rw [if_pos (show nI s = 0 by rw [zs]; rfl), if_neg k17]
          exact t
        · rw [if_neg (fun u => zs ((nl_eq (k := 0) (j := 0) rfl (by omega) (by omega)).mp u))]
          exact t
end
