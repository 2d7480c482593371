/-! sights: whether a question about walks is to be answered -/
theorem is_go {Z : Nat → Nat} {I I' : I_T} {L L' : L_T} {R R' : R_T} (r : R 68 5 = some 73) (r' : R' 68 5 = some 73) (e : I' 73 = I 73) (s v : Int32) : D_X11_is Z I' L' R' 68 s v = D_X11_is Z I L R 68 s v := by
  rw [D_X11_is, D_X11_is, r, r', bs_, bs_, e]
  rfl
theorem hand_is {Z : Nat → Nat} {I J : I_T} {L : L_T} {R : R_T} {v : Int32} (h : D_X11_hand Z I L R 68 v = some (1, J)) (b : ∃ t : Bool, D_X11_is Z I L R 68 0 v = some (bI t)) : D_X11_is Z I L R 68 0 v = some 1 := by
  obtain ⟨t, e⟩ := b
  cases t with
  | true => exact e
  | false =>
    rw [D_X11_hand, e, bs_, if_pos (show bI false = 0 from rfl)] at h
    have := Option.some.inj h
    injection this with h1 _
    exact absurd h1 (by decide)
theorem is_0 {sh : sh_T} {I : I_T} {L : L_T} {R : R_T} (h : Inv sh I L R) (v : Int32) : ∃ t : Bool, D_X11_is sh.2.2 I L R 68 0 v = some (bI t) := by
  obtain ⟨t1, t2, t3, cn, t4, t5, t6⟩ := id h.t
  obtain ⟨c2, ca, cb⟩ := t4 0 (by omega)
  have cb' : I 73 0 = nI (cn 0) := by rw [Nat.mul_zero, Nat.zero_add] at cb; exact cb
  exact ⟨_, is_ok h (s := 0) (by omega) cb' c2 v⟩
theorem in12 {Z : Nat → Nat} {I : I_T} {L : L_T} {R : R_T} (w : Int32) : D_X11_in Z I L R w 0 12 = some (bI (decide (((0 : Nat) : Int) ≤ w.toInt ∧ w.toInt ≤ (12 : Nat)))) := in_rng w (a := 0) (b := 12) (by omega) (by omega)
theorem lay_out {Z : Nat → Nat} {J : I_T} {L : L_T} {R : R_T} {v p w : Int32} (hw : ¬ (((0 : Nat) : Int) ≤ w.toInt ∧ w.toInt ≤ (12 : Nat))) : D_X11_laySight Z J L R 68 v p w = some (0, J) := by
  rw [D_X11_laySight, in12, bs_, decide_eq_false hw, if_pos (show bI false = 0 from rfl)]
theorem laySight_no {sh : sh_T} {I J : I_T} {L' : L_T} {R : R_T} {v p w : Int32} {t : Bool} (hs : ∀ (I' : I_T) (L' : L_T), I' 73 = I 73 → D_X11_is sh.2.2 I' L' R 68 3 p = some (bI t)) (hh : t = true → ∀ (I' : I_T) (L' : L_T), I' 73 = I 73 → D_X11_hand sh.2.2 I' L' R 68 v = some (0, I')) (e73 : J 73 = I 73) : ∃ J', D_X11_laySight sh.2.2 J L' R 68 v p w = some (0, J') ∧ ∀ a, a ≠ 68 → a ≠ 80 → a ≠ 81 → J' a = J a := by
  by_cases hw : ((0 : Nat) : Int) ≤ w.toInt ∧ w.toInt ≤ (12 : Nat)
  · have hr : D_X11_hasSight sh.2.2 J L' R 68 p = some (bI t, up2 J 68 55 p) := hasS_eq (hs _ L' (by rw [up2_ne (by omega)]; exact e73))
    refine ⟨up2 J 68 55 p, ?_, fun a h1 _ _ => up2_ne h1⟩
    rw [D_X11_laySight, in12, bs_, decide_eq_true hw, if_neg (show ¬ bI true = 0 by decide), hr, bs_]
    cases t with
    | false => rw [if_pos (show bI false = 0 from rfl)]
    | true =>
      rw [if_neg (show ¬ bI true = 0 by decide)]
      have := hh rfl (up2 J 68 55 p) L' (by rw [up2_ne (by omega)]; exact e73)
      rw [show D_X11_hand sh.2.2 (bI true, up2 J 68 55 p).2 L' R 68 v = _ from this, bs_, if_pos rfl]
  · exact ⟨J, lay_out hw, fun _ _ _ _ => rfl⟩
/-- a question about walks: not to be answered, or with what lies there -/
theorem sights_or {sh : sh_T} {I : I_T} {L : L_T} {R : R_T} (h : Inv sh I L R) (v p w : Int32) :
    ((∀ (J : I_T) (L' : L_T), J 73 = I 73 → J 74 = I 74 → J 77 = I 77 → ∃ J', D_X11_laySight sh.2.2 J L' R 68 v p w = some (0, J') ∧ ∀ a, a ≠ 68 → a ≠ 80 → a ≠ 81 → J' a = J a) ∧
      ∀ {α : Type} (X : α) (F : Nat → Nat → Option α), ((D_X8_landOf sh.2.2 I L R 7 v).bind fun q2 => (D_X8_script sh.2.2 I L R 7 3 p).bind fun q3 => ocase q2 (some X) fun b4 => ocase q3 (some X) fun b6 => (D_X2_hasAll sh.2.2 I L R b4 b6).bind fun q8 => if q8 = 0 then some X else (if w < 0 then some X else (if 12 < w then some X else F b4 b6))) = some X) ∨
    ∃ k j n n0 x y d e, (k < 2 ∧ j < 2 ∧ n ≤ 12) ∧ (v = nI k ∧ p = nI j ∧ w = nI n) ∧ VD d ∧ CL I L (12 + 5 * k) d ∧ ML I k d ∧ LZ sh.2.2 R (12 + 5 * k) ∧ VSight n0 x y e ∧ CS I (30 + 2 * j) n0 x y e ∧ (I 77 (43 * j) = nI x ∧ I 77 (43 * j + 1) = nI y ∧ I 77 (43 * j + 2) = nI n0 ∧ ∀ i q, i < n0 → q < 4 → I 77 (43 * j + (3 + 4 * i + q)) = e i q) ∧ R (30 + 2 * j) 0 = some (30 + 2 * j + 1) ∧ sh.2.2 (30 + 2 * j + 1) = 40 ∧ allIn d n0 x y e ∧ (D_X11_is sh.2.2 I L R 68 0 v = some 1 ∧ D_X11_is sh.2.2 I L R 68 3 p = some 1) ∧
      ∀ {α : Type} (X : α) (F : Nat → Nat → Option α), ((D_X8_landOf sh.2.2 I L R 7 v).bind fun q2 => (D_X8_script sh.2.2 I L R 7 3 p).bind fun q3 => ocase q2 (some X) fun b4 => ocase q3 (some X) fun b6 => (D_X2_hasAll sh.2.2 I L R b4 b6).bind fun q8 => if q8 = 0 then some X else (if w < 0 then some X else (if 12 < w then some X else F b4 b6))) = F (12 + 5 * k) (30 + 2 * j) := by
  have so := script_or h 3 (by omega) (by omega) p
  rcases land_or h v with ⟨a, b⟩ | ⟨k, d, hk, rfl, a, vd, cl, ml, lz, b⟩
  · refine Or.inl ⟨fun J L' e73 e74 e77 => ?_, fun X F => ?_⟩
    · rcases so with ⟨_, sb⟩ | ⟨j, _, _, _, _, _, _, _, _, sb⟩
      · exact laySight_no (t := false) sb (fun u => by cases u) e73
      · exact laySight_no (t := true) sb (fun _ => b) e73
    · rcases so with ⟨sa, _⟩ | ⟨j, _, _, sa, _⟩
      · rw [a, bs_, show D_X8_script sh.2.2 I L R 7 3 p = _ from sa]
        rfl
      · rw [a, bs_, show D_X8_script sh.2.2 I L R 7 3 p = _ from sa]
        rfl
  · rcases so with ⟨sa, sb⟩ | ⟨j, hj, rfl, sa, _, _, rr, rb, zb, sb⟩
    · refine Or.inl ⟨fun J L' e73 e74 e77 => laySight_no (t := false) sb (fun u => by cases u) e73, fun X F => ?_⟩
      rw [a, bs_, show D_X8_script sh.2.2 I L R 7 3 p = _ from sa]
      rfl
    · obtain ⟨n0, x, y, e, vs', hs, m0, m1, m2, m3⟩ := rr rfl
      have rb' : R (30 + 2 * j) 0 = some (30 + 2 * j + 1) := rb
      have zb' : sh.2.2 (30 + 2 * j + 1) = 40 := zb
      have cs' : CS I (30 + 2 * j) n0 x y e := hs
      have sa' : D_X8_script sh.2.2 I L R 7 3 (nI j) = some (some (30 + 2 * j)) := sa
      obtain ⟨q, q1, q2⟩ := hasAll_ok (Z := sh.2.2) (L := L) (R := R) vd (cl.1 0 (by omega)) (cl.1 1 (by omega)) vs' cs' rb' zb'
      have q1' : D_X2_hasAll sh.2.2 I L R (12 + 5 * k) (30 + 2 * j) = some (bI q) := q1
      have one : D_X11_is sh.2.2 I L R 68 3 (nI j) = some 1 := sb I L rfl
      by_cases hw : ((0 : Nat) : Int) ≤ w.toInt ∧ w.toInt ≤ (12 : Nat)
      · obtain ⟨n, hn, rfl⟩ := clamp_lt (v := w) (c := 13) ⟨by omega, by omega⟩ (by omega)
        by_cases z : allIn d n0 x y e
        · have : q = true := q2.mpr z
          subst this
          obtain ⟨J', j1, _⟩ := b I L rfl rfl
          refine Or.inr ⟨k, j, n, n0, x, y, d, e, ⟨hk, hj, by omega⟩, ⟨rfl, rfl, rfl⟩, vd, cl, ml, lz, vs', cs', ⟨m0, m1, m2, m3⟩, rb', zb', z, ⟨hand_is j1 (is_0 h _), one⟩, fun X F => ?_⟩
          rw [a, bs_, sa', bs_, ocase, ocase, q1', bs_, if_neg (show ¬ bI true = 0 by decide), rng_yes (a := 0) (b := 12) (by decide) (by decide) hw]
        · have : q = false := Bool.not_eq_true _ |>.mp fun u => z (q2.mp u)
          subst this
          refine Or.inl ⟨fun J L' e73 e74 e77 => ?_, fun X F => ?_⟩
          · obtain ⟨t, J', p1, p2, _, _, fr⟩ := laySight_ok (L' := L') h hk hj vd ml b sb vs' m0 m1 m2 m3 e73 e74 e77 (show n ≤ 12 by omega)
            have : t = false := Bool.not_eq_true _ |>.mp fun u => z (p2.mp u)
            subst this
            exact ⟨J', p1, fun a h1 h2 h3 => fr.at h1 h2 h3⟩
          · rw [a, bs_, sa', bs_, ocase, ocase, q1', bs_, if_pos (show bI false = 0 from rfl)]
      · refine Or.inl ⟨fun J L' e73 e74 e77 => ⟨J, lay_out hw, fun _ _ _ _ => rfl⟩, fun X F => ?_⟩
        rw [a, bs_, sa', bs_, ocase, ocase, q1', bs_, rng_no (a := 0) (b := 12) (by decide) (by decide) hw, ite_self]
/-- the model's hand, when a question is to be answered -/
theorem sights_lay {sh : sh_T} {I I1 : I_T} {L L1 : L_T} {R R1 : R_T} (h : Inv sh I L R) (h1 : Inv sh I1 L1 R1) (f : ∀ a, pers a → I1 a = I a) {k j n n0 x y : Nat} {d : ld_T} {e : Nat → Nat → Int32} (hk : k < 2) (hj : j < 2) (hn : n ≤ 12) (hd : VD d) (ml : ML I k d) (v : VSight n0 x y e) (m0 : I 77 (43 * j) = nI x) (m1 : I 77 (43 * j + 1) = nI y) (m2 : I 77 (43 * j + 2) = nI n0) (m3 : ∀ i q, i < n0 → q < 4 → I 77 (43 * j + (3 + 4 * i + q)) = e i q) (al : allIn d n0 x y e) (i0 : D_X11_is sh.2.2 I L R 68 0 (nI k) = some 1) (i3 : D_X11_is sh.2.2 I L R 68 3 (nI j) = some 1) {ok : Nat → Nat → Bool} (hok : ∀ t c, ok t c = true ↔ okF d n0 e t c) : ∃ J', D_X11_laySight sh.2.2 (up2 I1 68 0 0) L1 R1 68 (nI k) (nI j) (nI n) = some (1, J') ∧ MSt sh I1 J' R1 L1 j d (slv d (lv d)) n0 x y e ok ∧ (∀ a, pers a → J' a = I a) := by
  have p73 : pers 73 := by unfold pers; omega
  have p74 : pers 74 := by unfold pers; omega
  have p77 : pers 77 := by unfold pers; omega
  have l9 : lv d ≤ 9 := hd.2.2.2.2.1
  have ml1 : ML I1 k d := ml.keep (f 74 p74)
  have is1 : ∀ (s w : Int32), D_X11_is sh.2.2 I L R 68 s w = some 1 → ∀ (I' : I_T) (L' : L_T), I' 73 = I1 73 → D_X11_is sh.2.2 I' L' R1 68 s w = some 1 := fun s w hi I' L' e' => by
    rw [is_go (I := I) (L := L) (R := R) (h.r 68 5 73 rfl) (h1.r 68 5 73 rfl) (e'.trans (f 73 p73)), hi]
  obtain ⟨q, J', a1, a2, a3, a4, a5⟩ := laySight_ok (L' := L1) (J := up2 I1 68 0 0) h1 hk hj hd ml1 (fun I' L' e1 e2 => hand_ok h1 hk hd ml1 (is1 0 _ i0 I' L' e1) e2) (is1 3 _ i3) v (by rw [f 77 p77]; exact m0) (by rw [f 77 p77]; exact m1) (by rw [f 77 p77]; exact m2) (fun i q hi hq => by rw [f 77 p77]; exact m3 i q hi hq) (up2_ne (by omega)) (up2_ne (by omega)) (up2_ne (by omega)) hn
  have : q = true := a2.mpr al
  subst this
  have fj : ∀ a, a ≠ 68 → a ≠ 80 → a ≠ 81 → J' a = I1 a := fun a h1 h2 h3 => by rw [a5.at h1 h2 h3, up2_ne h1]
  refine ⟨J', a1, ⟨h1, hj, hd, v, by rw [f 77 p77]; exact m0, by rw [f 77 p77]; exact m1, by rw [f 77 p77]; exact m2, fun i q hi hq => by rw [f 77 p77]; exact m3 i q hi hq, a3.2.1, a3.2.2.1, a3.2.2.2.2.1, a4, fj 77 (by omega) (by omega) (by omega), fun L' i hi => soil_ok h1 hd l9 hi a3.2.2.2.1 a3.2.2.2.2.2.2.2.1 (a3.2.2.2.2.2.2.2.2 i hi).1, al.1, hok⟩, fun a ha => ?_⟩
  have := pers_68 ha
  rw [fj a this.1 this.2.1 this.2.2, f a ha]
