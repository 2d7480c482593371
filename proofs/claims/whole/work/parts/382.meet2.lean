/-! meet: the model's side -/
theorem mostAt_ok {Z : Nat → Nat} {J : I_T} {L : L_T} {R : R_T} {d : ld_T} (hd : VD d) (r54 : R 68 54 = some 97) (z97 : Z 97 = 2000) (e26 : J 68 26 = nI (cs_ d)) {p q : Nat → Nat} (hp : ∀ t, t < 1000 → J 97 t = nI (p t) ∧ p t < cs_ d) (hq : ∀ t, t < 1000 → J 97 (1000 + t) = nI (q t) ∧ q t < cs_ d) {m : Nat} (hm : m < 1000) : D_X11_mostAt Z J L R 68 (nI m) = some (bst (fun c => fb_ct (fun u => mt_ p q u && decide (p u = c)) m) 64).1 := by
  have h64 := cs_le hd
  have inn : ∀ c, c < cs_ d → ∀ (bb : Int32) (mo : Nat), mo ≤ 1000 → D_X11_mostAt_22 Z J L R 68 (nI m) bb (nI mo) (nI c) (0, 0) = some (.inl ((if mo < fb_ct (fun u => mt_ p q u && decide (p u = c)) m then nI c else bb), nI (max mo (fb_ct (fun u => mt_ p q u && decide (p u = c)) m)), nI (c + 1))) := fun c hc bb mo hmo => by
    have tl : fb_ct (fun u => mt_ p q u && decide (p u = c)) m ≤ m := fb_ct_le _ m
    refine itC_count (f := B_X11_mostAt_22 Z J L R 68 (nI m) bb (nI mo) (nI c)) (fun t => (nI (fb_ct (fun u => mt_ p q u && decide (p u = c)) t), nI t)) (n := m) (fun t ht => ?_) ?_
    · obtain ⟨p1, p2⟩ := hp t (by omega)
      obtain ⟨q1, q2⟩ := hq t (by omega)
      have lt : nI t < nI m := (nI_ltI (by omega) (by omega)).mpr ht
      have ek : (1000 : Int32) + nI t = nI (1000 + t) := by rw [show (1000 : Int32) = nI 1000 from rfl, nI_add]
      unfold B_X11_mostAt_22
      simp only [lt, if_true, r54, bs_, ek, cl_nI (show t < 2 ^ 31 by omega), cl_nI (show 1000 + t < 2 ^ 31 by omega), p1, q1]
      rw [if_pos (inb_nI (by omega) (by omega)), if_pos (inb_nI (by omega) (by omega)), fb_ct_succ, nI_1]
      unfold mt_
      by_cases z1 : p t = c
      · rw [if_pos (by rw [z1])]
        by_cases z2 : q t = c
        · rw [if_pos (by rw [z2]), z1, z2, decide_eq_true rfl, nI_1]
          rfl
        · rw [if_neg (fun u => z2 ((nI_eq (by omega) (by omega)).mp u)), decide_eq_false (show ¬ p t = q t by omega)]
          show some (Sum.inl (nI _ + nI 0, nI t + nI 1)) = _
          rw [nI_add, nI_add]
          rfl
      · rw [if_neg (fun u => z1 ((nI_eq (by omega) (by omega)).mp u)), decide_eq_false z1]
        show some (Sum.inl (nI _ + nI 0, nI t + nI 1)) = _
        rw [nI_add, nI_add, Bool.and_false]
        rfl
    · unfold B_X11_mostAt_22
      rw [if_neg Int32.lt_irrefl]
      have gm : ∀ a b : Nat, a < 2 ^ 31 → b < 2 ^ 31 → (if nI a < nI b then nI b else nI a) = nI (max a b) := fun a b ha hb => by
        by_cases z : a < b
        · rw [if_pos ((nI_ltI ha hb).mpr z), Nat.max_eq_right (by omega)]
        · rw [if_neg (fun u => z ((nI_ltI ha hb).mp u)), Nat.max_eq_left (by omega)]
      by_cases z : mo < fb_ct (fun u => mt_ p q u && decide (p u = c)) m
      · rw [if_pos ((nI_ltI (by omega) (by omega)).mpr z), D_X11_mostAt_84, greater_ok, bs_, bs_, gm _ _ (by omega) (by omega), if_pos z, nI_1]
      · rw [if_neg (fun u => z ((nI_ltI (by omega) (by omega)).mp u)), D_X11_mostAt_84, greater_ok, bs_, bs_, gm _ _ (by omega) (by omega), if_neg z, nI_1]
  rw [bst_gap (b := cs_ d) h64 (fun c u v => fb_ct_zero.mpr (fun t ht => by rw [decide_eq_false (by have := (hp t (by omega)).2; omega), Bool.and_false]))]
  refine itC_count (f := B_X11_mostAt_7 Z J L R 68 (nI m)) (fun c => ((bst (fun c => fb_ct (fun u => mt_ p q u && decide (p u = c)) m) c).1, nI (bst (fun c => fb_ct (fun u => mt_ p q u && decide (p u = c)) m) c).2, nI c)) (n := cs_ d) (fun c hc => ?_) ?_
  · have bl := bst_le (T := fun c => fb_ct (fun u => mt_ p q u && decide (p u = c)) m) (k := m) (fun c => fb_ct_le _ m) c
    unfold B_X11_mostAt_7
    simp only [e26]
    rw [if_pos ((nI_ltI (by omega) (by omega)).mpr hc), inn c hc _ _ (by omega)]
    show some (Sum.inl _) = some (Sum.inl ((if (bst (fun c => fb_ct (fun u => mt_ p q u && decide (p u = c)) m) c).2 < fb_ct (fun u => mt_ p q u && decide (p u = c)) m then (nI c, fb_ct (fun u => mt_ p q u && decide (p u = c)) m) else bst (fun c => fb_ct (fun u => mt_ p q u && decide (p u = c)) m) c).1, nI (if (bst (fun c => fb_ct (fun u => mt_ p q u && decide (p u = c)) m) c).2 < fb_ct (fun u => mt_ p q u && decide (p u = c)) m then (nI c, fb_ct (fun u => mt_ p q u && decide (p u = c)) m) else bst (fun c => fb_ct (fun u => mt_ p q u && decide (p u = c)) m) c).2, nI (c + 1)))
    by_cases z : (bst (fun c => fb_ct (fun u => mt_ p q u && decide (p u = c)) m) c).2 < fb_ct (fun u => mt_ p q u && decide (p u = c)) m
    · rw [if_pos z, if_pos z, Nat.max_eq_right (by omega)]
    · rw [if_neg z, if_neg z, Nat.max_eq_left (by omega)]
  · unfold B_X11_mostAt_7
    simp only [e26]
    rw [if_neg Int32.lt_irrefl]
theorem mmeet_ok {Z : Nat → Nat} {J : I_T} {L : L_T} {R : R_T} {d : ld_T} (hd : VD d) (r54 : R 68 54 = some 97) (z97 : Z 97 = 2000) (e26 : J 68 26 = nI (cs_ d)) {p q : Nat → Nat} (hp : ∀ t, t < 1000 → J 97 t = nI (p t) ∧ p t < cs_ d) (hq : ∀ t, t < 1000 → J 97 (1000 + t) = nI (q t) ∧ q t < cs_ d) {m : Nat} (hm : m < 1000) (w : Int32) : D_X11_meet_71 Z J L R 68 (nI m) w (0, 0, -1, -1, 0) = some (if w = 0 then nI (fb_ct (mt_ p q) m) else if w = 1 then nI (fb_ct (pss p q) m) else if w = 2 then fi_ (mt_ p q) m else if w = 3 then fi_ (pss p q) m else (bst (fun c => fb_ct (fun u => mt_ p q u && decide (p u = c)) m) 64).1, J) := by
  have h64 := cs_le hd
  refine itC_count (f := B_X11_meet_71 Z J L R 68 (nI m) w) (fun t => (nI (fb_ct (mt_ p q) t), nI (fb_ct (pss p q) t), fi_ (mt_ p q) t, fi_ (pss p q) t, nI t)) (n := m) (fun t ht => ?_) ?_
  · obtain ⟨p1, p2⟩ := hp t (by omega)
    obtain ⟨q1, q2⟩ := hq t (by omega)
    have lt : nI t < nI m := (nI_ltI (by omega) (by omega)).mpr ht
    have ek : (1000 : Int32) + nI t = nI (1000 + t) := by rw [show (1000 : Int32) = nI 1000 from rfl, nI_add]
    have fin : D_X11_meet_165 Z J L R 68 (nI m) w (nI (fb_ct (mt_ p q) t)) (nI (fb_ct (pss p q) t)) (fi_ (mt_ p q) t) (fi_ (pss p q) t) (nI t) (bI (mt_ p q t)) (bI (pss p q t)) = some (.inl (nI (fb_ct (mt_ p q) (t + 1)), nI (fb_ct (pss p q) (t + 1)), fi_ (mt_ p q) (t + 1), fi_ (pss p q) (t + 1), nI (t + 1))) := by
      have g1 : ∀ a : Nat, nI a + 0 = nI a := fun a => by show nI a + nI 0 = _; rw [nI_add]; rfl
      rw [fb_ct_succ, fb_ct_succ]
      show _ = some (Sum.inl (_, _, (if mt_ p q t = true ∧ fi_ (mt_ p q) t = -1 then nI t else fi_ (mt_ p q) t), (if pss p q t = true ∧ fi_ (pss p q) t = -1 then nI t else fi_ (pss p q) t), _))
      have e215 : ∀ (a b : Int32) (f : Int32) (s : Bool), D_X11_meet_215 Z J L R 68 (nI m) w a b (fi_ (pss p q) t) (nI t) (bI s) f = some (.inl (a, b, f, (if s = true ∧ fi_ (pss p q) t = -1 then nI t else fi_ (pss p q) t), nI (t + 1))) := fun a b f s => by
        rw [D_X11_meet_215, nI_1]
        cases s with
        | false => rw [if_pos (show bI false = 0 from rfl), if_neg (fun u => by cases u.1)]
        | true =>
          rw [if_neg (show ¬ bI true = 0 by decide)]
          by_cases z : fi_ (pss p q) t = -1
          · rw [if_pos z, if_pos ⟨rfl, z⟩]
          · rw [if_neg z, if_neg (fun u => z u.2)]
      have e194 : ∀ (a : Int32) (s1 s : Bool) (t0 t1 : Int32), D_X11_meet_194 Z J L R 68 (nI m) w a (fi_ (mt_ p q) t) (fi_ (pss p q) t) (nI t) (bI s1) (bI s) t0 t1 = some (.inl (a, t1 + t0, (if s1 = true ∧ fi_ (mt_ p q) t = -1 then nI t else fi_ (mt_ p q) t), (if s = true ∧ fi_ (pss p q) t = -1 then nI t else fi_ (pss p q) t), nI (t + 1))) := fun a s1 s t0 t1 => by
        rw [D_X11_meet_194, D_X11_meet_213, e215, e215]
        cases s1 with
        | false => rw [if_pos (show bI false = 0 from rfl), if_neg (show ¬ (false = true ∧ _) from fun u => by cases u.1)]
        | true =>
          rw [if_neg (show ¬ bI true = 0 by decide)]
          by_cases z : fi_ (mt_ p q) t = -1
          · rw [if_pos z, if_pos (show true = true ∧ fi_ (mt_ p q) t = -1 from ⟨rfl, z⟩)]
          · rw [if_neg z, if_neg (show ¬ (true = true ∧ fi_ (mt_ p q) t = -1) from fun u => z u.2)]
      rw [D_X11_meet_165, D_X11_meet_179, D_X11_meet_179, e194, e194, e194, e194]
      cases mt_ p q t <;> cases pss p q t <;> simp [bI, g1, nI_1]
    have f164 : pss p q t = false → ∀ s, s = bI (mt_ p q t) → D_X11_meet_164 Z J L R 68 (nI m) w (nI (fb_ct (mt_ p q) t)) (nI (fb_ct (pss p q) t)) (fi_ (mt_ p q) t) (fi_ (pss p q) t) (nI t) s = some (.inl (nI (fb_ct (mt_ p q) (t + 1)), nI (fb_ct (pss p q) (t + 1)), fi_ (mt_ p q) (t + 1), fi_ (pss p q) (t + 1), nI (t + 1))) := fun u s hs => by
      rw [D_X11_meet_164, hs]
      rw [u] at fin
      exact fin
    have f104 : D_X11_meet_104 Z J L R 68 (nI m) w (nI (fb_ct (mt_ p q) t)) (nI (fb_ct (pss p q) t)) (fi_ (mt_ p q) t) (fi_ (pss p q) t) (nI t) (bI (mt_ p q t)) = some (.inl (nI (fb_ct (mt_ p q) (t + 1)), nI (fb_ct (pss p q) (t + 1)), fi_ (mt_ p q) (t + 1), fi_ (pss p q) (t + 1), nI (t + 1))) := by
      rw [D_X11_meet_104]
      by_cases t0 : 0 < t
      · rw [if_pos ((ln_lt (k := 0) (j := 0) rfl (by omega) (by omega)).mpr t0)]
        cases um : mt_ p q t with
        | true =>
          have pf : pss p q t = false := decide_eq_false (fun u => u.2.1 (of_decide_eq_true um))
          rw [if_neg (show ¬ bI true = 0 by decide), f164 pf _ (by rw [um])]
        | false =>
          have ne : p t ≠ q t := of_decide_eq_false um
          obtain ⟨p3, p4⟩ := hp (t - 1) (by omega)
          obtain ⟨q3, q4⟩ := hq (t - 1) (by omega)
          have e999 : (999 : Int32) + nI t = nI (1000 + (t - 1)) := by rw [show (999 : Int32) = nI 999 from rfl, nI_add]; congr 1; omega
          have em1 : nI t - 1 = nI (t - 1) := by rw [show (1 : Int32) = nI 1 from rfl, nI_sub (by omega)]
          rw [if_pos (show bI false = 0 from rfl), r54, bs_, if_pos (inb_nI (by omega) (by omega)), e999, if_pos (inb_nI (by omega) (by omega)), cl_nI (by omega), cl_nI (by omega), p1, q3, ek, em1]
          by_cases z1 : p t = q (t - 1)
          · rw [if_pos (by rw [z1]), if_pos (inb_nI (by omega) (by omega)), if_pos (inb_nI (by omega) (by omega)), cl_nI (by omega), cl_nI (by omega), q1, p3]
            by_cases z2 : q t = p (t - 1)
            · have pt : pss p q t = true := decide_eq_true ⟨t0, ne, z1, z2⟩
              rw [if_pos (by rw [z2])]
              rw [um, pt] at fin
              exact fin
            · rw [if_neg (fun u => z2 ((nI_eq (by omega) (by omega)).mp u))]
              exact f164 (decide_eq_false (fun u => z2 u.2.2.2)) _ (by rw [um])
          · rw [if_neg (fun u => z1 ((nI_eq (by omega) (by omega)).mp u))]
            exact f164 (decide_eq_false (fun u => z1 u.2.2.1)) _ (by rw [um])
      · rw [if_neg (fun u => t0 ((ln_lt (k := 0) (j := 0) rfl (by omega) (by omega)).mp u))]
        exact f164 (decide_eq_false (fun u => t0 u.1)) _ rfl
    unfold B_X11_meet_71
    simp only [lt, if_true, r54, bs_, ek, cl_nI (show t < 2 ^ 31 by omega), cl_nI (show 1000 + t < 2 ^ 31 by omega), p1, q1]
    rw [if_pos (inb_nI (by omega) (by omega)), if_pos (inb_nI (by omega) (by omega))]
    by_cases z : p t = q t
    · rw [if_pos (by rw [z])]
      rw [show mt_ p q t = true from decide_eq_true z] at f104
      exact f104
    · rw [if_neg (fun u => z ((nI_eq (by omega) (by omega)).mp u))]
      rw [show mt_ p q t = false from decide_eq_false z] at f104
      exact f104
  · unfold B_X11_meet_71
    rw [if_neg Int32.lt_irrefl, bs_, mostAt_ok hd r54 z97 e26 hp hq hm, bs_]
    by_cases w0 : w = 0
    · rw [if_pos w0, if_pos w0]
    · rw [if_neg w0, if_neg w0]
      by_cases w1 : w = 1
      · rw [if_pos w1, if_pos w1]
      · rw [if_neg w1, if_neg w1]
        by_cases w2 : w = 2
        · rw [if_pos w2, if_pos w2]
        · rw [if_neg w2, if_neg w2]
          by_cases w3 : w = 3
          · rw [if_pos w3, if_pos w3]
          · rw [if_neg w3, if_neg w3]
