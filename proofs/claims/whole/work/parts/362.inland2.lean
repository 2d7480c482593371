/-! inland, both sides -/
theorem bks_0 {d : ld_T} {W : Nat → Bool} {f : Nat → Nat} (h : BkS d W f) {c : Nat} (hc : c < cs_ d) : W c = true ↔ f c = 0 := by
  have ff : far_ = 1000000 := rfl
  rcases h with ⟨no, fr⟩ | ⟨_, fr⟩
  · rw [no c hc, fr c hc]
    simp [far_]
  · obtain ⟨a, b, e⟩ := fr c hc
    constructor
    · intro w
      have := e 0 ⟨hc, w⟩
      omega
    · intro z
      rw [z] at b
      exact b.2
theorem farC_ok {Z : Nat → Nat} {I : I_T} {L : L_T} {R : R_T} {a : Nat} {d : ld_T} (hd : VD d) (hl : CL I L a d) (lz : LZ Z R a) {f : Nat → Nat} (hf : BkS d (Wt d (lv d)) f) : ∃ r, D_X2_farthest Z I L R a = some r ∧ (((∃ o, o < cs_ d ∧ f o < far_) ∧ FarR d f r) ∨ ((∀ c, c < cs_ d → f c = far_) ∧ r = -1)) := by
  have h64 := cs_le hd
  have l9 : lv d ≤ 9 := hd.2.2.2.2.1
  have ff : far_ = 1000000 := rfl
  have e2 : I a 2 = nI (lv d) := hl.1 2 (by omega)
  obtain ⟨x, hx, xs⟩ := water_ok (Z := Z) (R := R) hd hl lz l9
  have x0 := re_0 xs
  rw [D_X2_farthest, e2, hx, bs_]
  rcases hf with ⟨no, fr⟩ | ⟨⟨o, ho, wo⟩, fr⟩
  · have z : x = 0 := tb_zero.mpr (fun i hi => by
      cases u : tb x i with
      | false => rfl
      | true =>
        obtain ⟨h1, h2⟩ := (x0 i hi).mp u
        rw [no i h1] at h2
        cases h2)
    exact ⟨-1, if_pos z, Or.inr ⟨fr, rfl⟩⟩
  · have xo : tb x o = true := (x0 o (by omega)).mpr ⟨ho, wo⟩
    have z : ¬ x = 0 := fun z => by rw [z, tb_0] at xo; cases xo
    have cp : 0 < cnt x := fb_ct_pos.mpr ⟨o, by omega, xo⟩
    obtain ⟨r, A, B⟩ := farC_loop (Z := Z) (R := R) hd hl fr 64 0 x (-1) (by omega) x0 cp (Or.inl ⟨rfl, rfl⟩)
    exact ⟨r, by rw [if_neg z]; exact A, Or.inl ⟨⟨o, ho, by have := (fr o ho).1; omega⟩, B⟩⟩
theorem minland_ok {Z : Nat → Nat} {J : I_T} {L : L_T} {R : R_T} {d : ld_T} {s : Nat → Bool} (hd : VD d) (r44 : R 68 44 = some 90) (z90 : Z 90 = 64) (e26 : J 68 26 = nI (cs_ d)) (hs : SoilA Z J L R d s) {f : Nat → Nat} (hJ : ∀ c, c < cs_ d → J 90 c = nI (f c)) (hf : BkS d (fun c => !s c) f) : ∃ r, D_X11_inland_23 Z J L R 68 (-1, 0) = some (r, J) ∧ (((∃ o, o < cs_ d ∧ f o < far_) ∧ FarR d f r) ∨ ((∀ c, c < cs_ d → f c = far_) ∧ r = -1)) := by
  have h64 := cs_le hd
  have ff : far_ = 1000000 := rfl
  have fle : ∀ c, c < cs_ d → f c ≤ far_ := fun c hc => by
    rcases hf with ⟨no, fr⟩ | ⟨_, fr⟩
    · rw [fr c hc]
      exact Nat.le_refl _
    · have := (fr c hc).1
      omega
  have sz : ∀ c, c < cs_ d → (s c = false ↔ f c = 0) := fun c hc => by
    have : (!s c) = true ↔ f c = 0 := bks_0 hf hc
    rw [← this]
    cases s c <;> simp
  have key : ∀ k c, c + k = cs_ d → ∀ b, ((b = -1 ∧ ∀ i, i < c → f i = 0 ∨ f i = far_) ∨ ∃ m, m < c ∧ b = nI m ∧ 0 < f m ∧ f m < far_ ∧ (∀ i, i < c → f i = far_ ∨ f i ≤ f m) ∧ ∀ i, i < m → f i = far_ ∨ f i < f m) → ∃ r, itC (B_X11_inland_23 Z J L R 68) (b, nI c) = some (r, J) ∧ ((r = -1 ∧ ∀ i, i < cs_ d → f i = 0 ∨ f i = far_) ∨ ∃ m, m < cs_ d ∧ r = nI m ∧ 0 < f m ∧ f m < far_ ∧ (∀ i, i < cs_ d → f i = far_ ∨ f i ≤ f m) ∧ ∀ i, i < m → f i = far_ ∨ f i < f m) := by
    intro k
    induction k with
    | zero =>
      intro c hc b hb
      have : c = cs_ d := by omega
      subst this
      refine ⟨b, itC_inr ?_, hb⟩
      unfold B_X11_inland_23
      simp only [e26]
      exact if_neg Int32.lt_irrefl
    | succ k ih =>
      intro c hc b hb
      have cl : c < cs_ d := by omega
      have lt : nI c < nI (cs_ d) := (nI_ltI (by omega) (by omega)).mpr cl
      have sc := hs c cl
      have ic : inb (nI c) (Z 90) = true := inb_nI (by omega) (by omega)
      have fc := fle c cl
      have keep : B_X11_inland_23 Z J L R 68 (b, nI c) = some (.inl (b, nI (c + 1))) → (f c = 0 ∨ f c = far_ ∨ ∃ m, b = nI m ∧ m < c ∧ f c ≤ f m) → ∃ r, itC (B_X11_inland_23 Z J L R 68) (b, nI c) = some (r, J) ∧ ((r = -1 ∧ ∀ i, i < cs_ d → f i = 0 ∨ f i = far_) ∨ ∃ m, m < cs_ d ∧ r = nI m ∧ 0 < f m ∧ f m < far_ ∧ (∀ i, i < cs_ d → f i = far_ ∨ f i ≤ f m) ∧ ∀ i, i < m → f i = far_ ∨ f i < f m) := fun e q => by
        obtain ⟨r, A, B⟩ := ih (c + 1) (by omega) b (by
          rcases hb with ⟨u, v⟩ | ⟨m, m1, m2, m3, m4, m5, m6⟩
          · refine Or.inl ⟨u, fun i hi => ?_⟩
            by_cases z : i = c
            · subst z
              rcases q with q | q | ⟨m, q1, q2, q3⟩
              · exact Or.inl q
              · exact Or.inr q
              · rw [q1] at u
                exact (nI_neg1 (by omega) u).elim
            · exact v i (by omega)
          · refine Or.inr ⟨m, by omega, m2, m3, m4, fun i hi => ?_, m6⟩
            by_cases z : i = c
            · subst z
              rcases q with q | q | ⟨n, q1, q2, q3⟩
              · exact Or.inr (by omega)
              · exact Or.inl q
              · have := (nI_eq (by omega) (by omega)).mp (m2.symm.trans q1)
                rw [this]
                exact Or.inr q3
            · exact m5 i (by omega))
        exact ⟨r, (itC_inl e).trans A, B⟩
      have take : B_X11_inland_23 Z J L R 68 (b, nI c) = some (.inl (nI c, nI (c + 1))) → 0 < f c → f c < far_ → (∀ m, b = nI m → m < c → f m < f c) → ∃ r, itC (B_X11_inland_23 Z J L R 68) (b, nI c) = some (r, J) ∧ ((r = -1 ∧ ∀ i, i < cs_ d → f i = 0 ∨ f i = far_) ∨ ∃ m, m < cs_ d ∧ r = nI m ∧ 0 < f m ∧ f m < far_ ∧ (∀ i, i < cs_ d → f i = far_ ∨ f i ≤ f m) ∧ ∀ i, i < m → f i = far_ ∨ f i < f m) := fun e q1 q2 q3 => by
        have bel : ∀ i, i < c → f i = far_ ∨ f i < f c := fun i hi => by
          rcases hb with ⟨u, v⟩ | ⟨m, m1, m2, m3, m4, m5, m6⟩
          · rcases v i hi with v | v
            · exact Or.inr (by omega)
            · exact Or.inl v
          · have := q3 m m2 m1
            rcases m5 i hi with v | v
            · exact Or.inl v
            · exact Or.inr (by omega)
        obtain ⟨r, A, B⟩ := ih (c + 1) (by omega) (nI c) (Or.inr ⟨c, by omega, rfl, q1, q2, fun i hi => by
          by_cases z : i = c
          · subst z
            exact Or.inr (Nat.le_refl _)
          · rcases bel i (by omega) with v | v
            · exact Or.inl v
            · exact Or.inr (by omega), bel⟩)
        exact ⟨r, (itC_inl e).trans A, B⟩
      cases e : s c with
      | false =>
        refine keep ?_ (Or.inl ((sz c cl).mp e))
        unfold B_X11_inland_23
        simp only [e26, lt, if_true, sc, bs_, e]
        rw [if_pos (show bI false = 0 from rfl), D_X11_inland_75, D_X11_inland_76, if_pos rfl, nI_1]
      | true =>
        have pos : 0 < f c := by
          rcases Nat.eq_zero_or_pos (f c) with z | z
          · rw [(sz c cl).mpr z] at e
            cases e
          · exact z
        have st : B_X11_inland_23 Z J L R 68 (b, nI c) = (if nI (f c) < 1000000 then (if b = -1 then D_X11_inland_71 Z J L R 68 b (nI c) else (if inb b (Z 90) = true then if J 90 b.toNatClampNeg < nI (f c) then D_X11_inland_71 Z J L R 68 b (nI c) else D_X11_inland_75 Z J L R 68 b (nI c) else none)) else D_X11_inland_75 Z J L R 68 b (nI c)) := by
          unfold B_X11_inland_23
          simp only [e26, lt, if_true, sc, bs_, e, r44, ic, cl_nI (show c < 2 ^ 31 by omega), hJ c cl]
          rw [if_neg (show ¬ bI true = 0 by decide)]
        have t71 : D_X11_inland_71 Z J L R 68 b (nI c) = some (.inl (nI c, nI (c + 1))) := by rw [D_X11_inland_71, D_X11_inland_76, if_neg (by decide), nI_1]
        have t75 : D_X11_inland_75 Z J L R 68 b (nI c) = some (.inl (b, nI (c + 1))) := by rw [D_X11_inland_75, D_X11_inland_76, if_pos rfl, nI_1]
        rw [t71, t75] at st
        by_cases q : f c < far_
        · have lf : nI (f c) < 1000000 := (nI_ltI (b := 1000000) (by omega) (by omega)).mpr q
          rw [if_pos lf] at st
          rcases hb with ⟨u, v⟩ | ⟨m, m1, m2, m3, m4, m5, m6⟩
          · rw [if_pos u] at st
            exact take st pos q (fun m z hm => by rw [u] at z; exact (nI_neg1 (by omega) z.symm).elim)
          · have im : inb (nI m) (Z 90) = true := inb_nI (by omega) (by omega)
            rw [m2, if_neg (nI_neg1 (by omega)), if_pos im, cl_nI (by omega), hJ m (by omega)] at st
            by_cases z : f m < f c
            · rw [if_pos ((nI_ltI (by omega) (by omega)).mpr z), ← m2] at st
              exact take st pos q (fun n e1 e2 => by
                have := (nI_eq (by omega) (by omega)).mp (m2.symm.trans e1)
                rw [← this]
                exact z)
            · rw [if_neg (fun w => z ((nI_ltI (by omega) (by omega)).mp w)), ← m2] at st
              exact keep st (Or.inr (Or.inr ⟨m, m2, m1, by omega⟩))
        · have lf : ¬ nI (f c) < 1000000 := fun z => q ((nI_ltI (b := 1000000) (by omega) (by omega)).mp z)
          rw [if_neg lf] at st
          exact keep st (Or.inr (Or.inl (by omega)))
  obtain ⟨r, A, B⟩ := key (cs_ d) 0 (by omega) (-1) (Or.inl ⟨rfl, fun i hi => by omega⟩)
  refine ⟨r, A, ?_⟩
  have c0 : 0 < cs_ d := Nat.mul_pos (by have := hd.1; omega) (by have := hd.2.2.1; omega)
  rcases hf with ⟨no, fr⟩ | ⟨⟨o, ho, wo⟩, fr⟩
  · refine Or.inr ⟨fr, ?_⟩
    rcases B with ⟨u, v⟩ | ⟨m, m1, m2, m3, m4, m5, m6⟩
    · exact u
    · have := fr m m1
      omega
  · refine Or.inl ⟨⟨o, ho, by have := (fr o ho).1; omega⟩, ?_⟩
    rcases B with ⟨u, v⟩ | ⟨m, m1, m2, m3, m4, m5, m6⟩
    · exact Or.inl ⟨u, fun c hc => by
        have := (fr c hc).1
        rcases v c hc with v | v
        · exact v
        · omega⟩
    · exact Or.inr ⟨m, m1, m2, m3, fun c hc => by
        have := (fr c hc).1
        rcases m5 c hc with v | v
        · omega
        · exact v, fun c hc => by
        have := (fr c (by omega)).1
        rcases m6 c hc with v | v
        · omega
        · exact v⟩
theorem q_inland {sh : sh_T} {I : I_T} {L : L_T} {R : R_T} (h : Inv sh I L R) (v : Int32) : ∃ r I2, D_X10_inland sh.2.2 I L R 6 v = some r ∧ D_X11_inland sh.2.2 I L R 68 v = some (r, I2) ∧ Inv sh I2 L R := by
  rcases land_or h v with ⟨a, b⟩ | ⟨k, d, hk, hv, a, vd, cl, ml, lz, b⟩
  · refine ⟨-1, _, ?_, ?_, h.code 0 0⟩
    · rw [D_X10_inland, h.r 6 0 7 rfl, bs_, a]
      rfl
    · rw [D_X11_inland, bs_, b _ L (up2_ne (by omega)), bs_, if_pos (show (0 : Int32) = 0 from rfl)]
  · obtain ⟨J, e, hd, fr⟩ := b (up2 I 68 0 0) L (up2_ne (by omega)) (up2_ne (by omega))
    have l9 : lv d ≤ 9 := vd.2.2.2.2.1
    have gs : ∀ J' : I_T, (∀ y, y ≠ 90 → J' y = J y) → SoilA sh.2.2 J' L R d (slv d (lv d)) := fun J' f i hi => soil_ok h vd l9 hi (by rw [f 68 (by omega)]; exact hd.2.2.2.1) (by rw [f 68 (by omega)]; exact hd.2.2.2.2.2.2.2.1) (by rw [f 80 (by omega)]; exact (hd.2.2.2.2.2.2.2.2 i hi).1)
    obtain ⟨J2, bk, a1, a2, a3, a4⟩ := findBanks_ok (Z := sh.2.2) (L := L) (R := R) vd (h.r 68 44 90 rfl) (h.z 90 64 rfl) hd.2.1 hd.2.2.1 gs
    obtain ⟨r, A, B⟩ := farC_ok (Z := sh.2.2) (R := R) vd cl lz (f := bk) a4
    obtain ⟨r', A', B'⟩ := minland_ok (Z := sh.2.2) (L := L) (R := R) vd (h.r 68 44 90 rfl) (h.z 90 64 rfl) (by rw [a2 68 (by omega)]; exact hd.2.2.1) (gs J2 a2) a3 a4
    have e1 : r = r' := by
      rcases B with ⟨⟨o, o1, o2⟩, B⟩ | ⟨B, B2⟩ <;> rcases B' with ⟨⟨p, p1, p2⟩, B'⟩ | ⟨B', B2'⟩
      · exact far_one B B'
      · have := B' o o1
        omega
      · have := B p p1
        omega
      · rw [B2, B2']
    refine ⟨r, J2, ?_, ?_, h.fr (fun y hy => ?_)⟩
    · rw [D_X10_inland, h.r 6 0 7 rfl, bs_, a, bs_, ocase, A, bs_]
    · rw [D_X11_inland, bs_, e, bs_, if_neg (show ¬ (1 : Int32) = 0 by decide)]
      rw [show D_X11_findBanks sh.2.2 ((1 : Int32), J).2 L R 68 = some J2 from a1, bs_, A', e1]
    · have p := pers_68 hy
      have p90 : y ≠ 90 := by unfold pers at hy; omega
      rw [a2 y p90, fr.at p.1 p.2.1 p.2.2]
