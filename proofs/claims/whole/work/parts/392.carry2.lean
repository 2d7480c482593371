/-! portage: the model's rounds, the class's -/
def LbP (d : ld_T) (o : Nat) (J0 J : I_T) (f : Nat → Nat) : Prop := (∀ a, a ≠ o → J a = J0 a) ∧ ∀ c, c < cs_ d → J o c = nI (f c)
theorem LbP.set {d : ld_T} {o : Nat} {J0 J : I_T} {f : Nat → Nat} (h : LbP d o J0 J f) {t v : Nat} : LbP d o J0 (up2 J o t (nI v)) (fun i => if i = t then v else f i) := by
  refine ⟨fun a ha => by rw [up2_ne ha]; exact h.1 a ha, fun c hc => ?_⟩
  by_cases z : c = t
  · subst z
    rw [up2_s]
    show _ = nI (if c = c then v else f c)
    rw [if_pos rfl]
  · rw [up2_j z, h.2 c hc]
    show _ = nI (if c = t then v else f c)
    rw [if_neg z]
theorem rx_none {d : ld_T} {s : Nat → Bool} {c r : Nat} {f : Nat → Nat} (e : nx d c r = none) : rxV d s c r f = f ∧ rxF d s c r f = false := by
  unfold rxV rxF
  rw [e]
  exact ⟨rfl, rfl⟩
theorem rx_yes {d : ld_T} {s : Nat → Bool} {c r t : Nat} {f : Nat → Nat} (e : nx d c r = some t) (q : f c + wS s t < f t) : rxV d s c r f = (fun i => if i = t then f c + wS s t else f i) ∧ rxF d s c r f = true := by
  unfold rxV rxF
  rw [e]
  exact ⟨if_pos q, decide_eq_true q⟩
theorem rx_not {d : ld_T} {s : Nat → Bool} {c r t : Nat} {f : Nat → Nat} (e : nx d c r = some t) (q : ¬ f c + wS s t < f t) : rxV d s c r f = f ∧ rxF d s c r f = false := by
  unfold rxV rxF
  rw [e]
  exact ⟨if_neg q, decide_eq_false q⟩
theorem port_in {Z : Nat → Nat} {J0 I : I_T} {L : L_T} {R : R_T} {d : ld_T} {s : Nat → Bool} (hd : VD d) (r59 : R 68 59 = some 100) (z100 : Z 100 = 64) (e25 : J0 68 25 = nI (lw d)) (e26 : J0 68 26 = nI (cs_ d)) (hs : ∀ J' : I_T, (∀ a, a ≠ 100 → J' a = J0 a) → SoilA Z J' L R d s) {a : Nat} {f : Nat → Nat} (g : PG d s a f) {c : Nat} (hc : c < cs_ d) {m0 : Bool} {v3 v4 : Int32} : ∀ k r, r + k = 4 → ∀ m J, LbP d 100 J0 J (rwV d s c f r) → m = (m0 || rwF d s c f r) → ∃ J', itC (B_X11_portage_95 Z I L R 68 v3 v4 (nI c)) (bI m, nI r, J) = some (.inl (bI (m0 || rwF d s c f 4), nI (c + 1), J')) ∧ LbP d 100 J0 J' (rwV d s c f 4) := by
  have h64 := cs_le hd
  have ff : far_ = 1000000 := rfl
  intro k
  induction k with
  | zero =>
    intro r hr m J lb hm
    have : r = 4 := by omega
    subst this
    refine ⟨J, itC_inr ?_, lb⟩
    unfold B_X11_portage_95
    rw [if_neg (show ¬ nI 4 < 4 by decide), hm, nI_1]
  | succ k ih =>
    intro r hr m J lb hm
    have f68 : J 68 = J0 68 := lb.1 68 (by omega)
    have nk := next_ok (Z := Z) (L := L) (R := R) (J := J) hd (by rw [f68]; exact e25) (by rw [f68]; exact e26) hc (show r ≤ 4 by omega)
    have lt : nI r < 4 := (nl_lt (k := 4) (j := 4) rfl (by omega) (by omega)).mpr (by omega)
    have pg := (rw_ok hd hc g r (by omega)).1
    have ic : inb (nI c) (Z 100) = true := inb_nI (by omega) (by omega)
    cases e : nx d c r with
    | none =>
      obtain ⟨x1, x2⟩ := rx_none (s := s) (f := rwV d s c f r) e
      obtain ⟨J', A, B⟩ := ih (r + 1) (by omega) m J (by show LbP d 100 J0 J (rxV d s c r (rwV d s c f r)); rw [x1]; exact lb) (by show m = (m0 || (rwF d s c f r || rxF d s c r (rwV d s c f r))); rw [x2, Bool.or_false]; exact hm)
      refine ⟨J', (itC_inl ?_).trans A, B⟩
      unfold B_X11_portage_95
      simp only [lt, if_true]
      rw [nk, bs_, e, if_pos (show oI none = -1 from rfl), D_X11_portage_147, if_pos (show oI none = -1 from rfl), nI_1]
    | some t =>
      have tl := nx_lt hd hc e
      have it : inb (nI t) (Z 100) = true := inb_nI (by omega) (by omega)
      have wp := wS_pos s t
      have fc := (pg.2 c hc).1
      have ft := (pg.2 t tl).1
      have st : B_X11_portage_95 Z I L R 68 v3 v4 (nI c) (bI m, nI r, J) = (if nI (rwV d s c f r c + wS s t) < nI (rwV d s c f r t) then some (.inl (1, nI (r + 1), up2 J 100 t (nI (rwV d s c f r c + wS s t)))) else some (.inl (bI m, nI (r + 1), J))) := by
        have f147 : ∀ w : Nat, D_X11_portage_146 Z J L R 68 v3 v4 (bI m) (nI c) (nI r) (nI t) (nI w) (nI (rwV d s c f r c)) = (if nI (rwV d s c f r c + w) < nI (rwV d s c f r t) then some (.inl (1, nI (r + 1), up2 J 100 t (nI (rwV d s c f r c + w)))) else some (.inl (bI m, nI (r + 1), J))) := fun w => by
          rw [D_X11_portage_146, D_X11_portage_147, if_neg (nI_neg1 (by omega)), r59, bs_, if_pos it, if_pos it, cl_nI (by omega), lb.2 t tl, bs_, nI_add, nI_1]
        unfold B_X11_portage_95
        simp only [lt, if_true]
        rw [nk, bs_, e, if_neg (show ¬ oI (some t) = -1 from nI_neg1 (by omega)), r59, bs_, if_pos ic, cl_nI (by omega), lb.2 c hc]
        rw [show D_X11_isSoil Z J L R 68 (oI (some t)) = _ from hs J lb.1 t tl, bs_]
        unfold wS
        cases s t with
        | false =>
          rw [if_pos (show bI false = 0 from rfl), if_neg (show ¬ false = true by decide)]
          exact f147 1
        | true =>
          rw [if_neg (show ¬ bI true = 0 by decide), if_pos rfl]
          exact f147 1001
      by_cases q : rwV d s c f r c + wS s t < rwV d s c f r t
      · rw [if_pos ((nI_ltI (by omega) (by omega)).mpr q)] at st
        obtain ⟨x1, x2⟩ := rx_yes (s := s) (f := rwV d s c f r) e q
        obtain ⟨J', A, B⟩ := ih (r + 1) (by omega) true (up2 J 100 t (nI (rwV d s c f r c + wS s t))) (by show LbP d 100 J0 _ (rxV d s c r (rwV d s c f r)); rw [x1]; exact lb.set) (by show true = (m0 || (rwF d s c f r || rxF d s c r (rwV d s c f r))); rw [x2, Bool.or_true, Bool.or_true])
        exact ⟨J', (itC_inl st).trans A, B⟩
      · rw [if_neg (fun u => q ((nI_ltI (by omega) (by omega)).mp u))] at st
        obtain ⟨x1, x2⟩ := rx_not (s := s) (f := rwV d s c f r) e q
        obtain ⟨J', A, B⟩ := ih (r + 1) (by omega) m J (by show LbP d 100 J0 J (rxV d s c r (rwV d s c f r)); rw [x1]; exact lb) (by show m = (m0 || (rwF d s c f r || rxF d s c r (rwV d s c f r))); rw [x2, Bool.or_false]; exact hm)
        exact ⟨J', (itC_inl st).trans A, B⟩
theorem port_pass {Z : Nat → Nat} {J0 I : I_T} {L : L_T} {R : R_T} {d : ld_T} {s : Nat → Bool} (hd : VD d) (r59 : R 68 59 = some 100) (z100 : Z 100 = 64) (e25 : J0 68 25 = nI (lw d)) (e26 : J0 68 26 = nI (cs_ d)) (hs : ∀ J' : I_T, (∀ a, a ≠ 100 → J' a = J0 a) → SoilA Z J' L R d s) {a : Nat} {f : Nat → Nat} (g : PG d s a f) {v3 v4 : Int32} : ∀ k c, c + k = cs_ d → ∀ J, LbP d 100 J0 J (psV d s f c) → ∃ J', itC (B_X11_portage_83 Z I L R 68 v3 v4) (bI (psF d s f c), nI c, J) = some (.inl (bI (psF d s f (cs_ d)), J')) ∧ LbP d 100 J0 J' (psV d s f (cs_ d)) := by
  have h64 := cs_le hd
  intro k
  induction k with
  | zero =>
    intro c hc J lb
    have : c = cs_ d := by omega
    subst this
    have f26 : J 68 26 = nI (cs_ d) := by rw [lb.1 68 (by omega)]; exact e26
    refine ⟨J, itC_inr ?_, lb⟩
    unfold B_X11_portage_83
    simp only [f26]
    rw [if_neg Int32.lt_irrefl]
  | succ k ih =>
    intro c hc J lb
    have f26 : J 68 26 = nI (cs_ d) := by rw [lb.1 68 (by omega)]; exact e26
    have pg := (ps_ok hd g c (by omega)).1
    obtain ⟨J1, A, B⟩ := port_in (I := J) (v3 := v3) (v4 := v4) hd r59 z100 e25 e26 hs pg (show c < cs_ d by omega) (m0 := psF d s f c) 4 0 (by omega) (psF d s f c) J lb (by show _ = (psF d s f c || false); rw [Bool.or_false])
    obtain ⟨J', C, D⟩ := ih (c + 1) (by omega) J1 B
    refine ⟨J', (itC_inl ?_).trans C, D⟩
    unfold B_X11_portage_83
    simp only [f26]
    rw [if_pos ((nI_ltI (by omega) (by omega)).mpr (by omega))]
    exact A
theorem port_out {Z : Nat → Nat} {J0 I : I_T} {L : L_T} {R : R_T} {d : ld_T} {s : Nat → Bool} (hd : VD d) (r59 : R 68 59 = some 100) (z100 : Z 100 = 64) (e25 : J0 68 25 = nI (lw d)) (e26 : J0 68 26 = nI (cs_ d)) (hs : ∀ J' : I_T, (∀ a, a ≠ 100 → J' a = J0 a) → SoilA Z J' L R d s) {a : Nat} {f : Nat → Nat} (g : PG d s a f) {t : Nat} (ht : t < cs_ d) {v4 : Int32} {N : Nat} (h0 : psF d s (itV d s f N) (cs_ d) = false) (h1 : ∀ j, j < N → psF d s (itV d s f j) (cs_ d) = true) : ∀ k j, j + k = N → ∀ J, LbP d 100 J0 J (itV d s f j) → ∃ J', itC (B_X11_portage_72 Z I L R 68 (nI t) v4) (1, J) = some (if v4 = 0 then nI (itV d s f N t) / 1000 else nI (itV d s f N t) - nI (itV d s f N t) / 1000 * 1000, J') ∧ ∀ a, a ≠ 100 → J' a = J0 a := by
  have h64 := cs_le hd
  intro k
  induction k with
  | zero =>
    intro j hj J lb
    have : j = N := by omega
    subst this
    obtain ⟨J1, A, B⟩ := port_pass (I := J) (v3 := nI t) (v4 := v4) hd r59 z100 e25 e26 hs (it_ok hd g j) (cs_ d) 0 (by omega) J lb
    rw [h0] at A
    have B' : LbP d 100 J0 J1 (itV d s f j) := by
      rw [(ps_ok hd (it_ok hd g j) (cs_ d) (Nat.le_refl _)).2.2.1 h0] at B
      exact B
    refine ⟨J1, (itC_inl (s' := (0, J1)) ?_).trans (itC_inr ?_), B.1⟩
    · unfold B_X11_portage_72
      rw [if_neg (show ¬ (1 : Int32) = 0 by decide)]
      exact A
    · unfold B_X11_portage_72
      simp only [r59, bs_, cl_nI (show t < 2 ^ 31 by omega), B'.2 t ht]
      rw [if_pos trivial, if_pos (inb_nI (by omega) (by omega)), if_pos (inb_nI (by omega) (by omega))]
      by_cases z : v4 = 0
      · rw [if_pos z, if_pos z]
      · rw [if_neg z, if_neg z]
  | succ k ih =>
    intro j hj J lb
    obtain ⟨J1, A, B⟩ := port_pass (I := J) (v3 := nI t) (v4 := v4) hd r59 z100 e25 e26 hs (it_ok hd g j) (cs_ d) 0 (by omega) J lb
    rw [h1 j (by omega)] at A
    obtain ⟨J', C, D⟩ := ih (j + 1) (by omega) J1 B
    refine ⟨J', (itC_inl ?_).trans C, D⟩
    unfold B_X11_portage_72
    rw [if_neg (show ¬ (1 : Int32) = 0 by decide)]
    exact A
theorem rw_far {d : ld_T} (hd : VD d) {s : Nat → Bool} {a c : Nat} (hc : c < cs_ d) {f : Nat → Nat} (g : PG d s a f) (e : f c = far_) : rwV d s c f 4 = f ∧ rwF d s c f 4 = false := by
  have key : ∀ r, r ≤ 4 → rwV d s c f r = f ∧ rwF d s c f r = false := by
    intro r
    induction r with
    | zero => exact fun _ => ⟨rfl, rfl⟩
    | succ r ih =>
      intro hr
      obtain ⟨a1, a2⟩ := ih (by omega)
      have : rxV d s c r f = f ∧ rxF d s c r f = false := by
        cases q : nx d c r with
        | none => exact rx_none q
        | some t =>
          refine rx_not q ?_
          have := (g.2 t (nx_lt hd hc q)).1
          omega
      refine ⟨?_, ?_⟩
      · show rxV d s c r (rwV d s c f r) = f
        rw [a1]
        exact this.1
      · show (rwF d s c f r || rxF d s c r (rwV d s c f r)) = false
        rw [a1, a2, this.2]
        rfl
  exact key 4 (Nat.le_refl _)
theorem from_in {Z : Nat → Nat} {I0 Ib : I_T} {L : L_T} {R : R_T} {b : Nat} (hb : b < 50) {d : ld_T} {s : Nat → Bool} (hd : VD d) (cl : CL I0 L b d) (r4 : R 63 4 = some 67) (z67 : Z 67 = 64) {x : Int64} (xk : isS x (Kd d s false)) {a : Nat} {f : Nat → Nat} (g : PG d s a f) {c : Nat} (hc : c < cs_ d) (nf : f c ≠ far_) : ∀ k r, r + k = 4 → ∀ K, LbP d 67 I0 K (rwV d s c f r) → ∃ K', itC (B_X3_carryFrom_17 Z Ib L R 63 b x (nI c) (nI (f c))) (bI (rwF d s c f r), nI r, K) = some (bI (rwF d s c f 4), K') ∧ LbP d 67 I0 K' (rwV d s c f 4) ∧ ∀ i, cs_ d ≤ i → K' 67 i = K 67 i := by
  have h64 := cs_le hd
  have ff : far_ = 1000000 := rfl
  have fcl := (g.2 c hc).1
  intro k
  induction k with
  | zero =>
    intro r hr K lb
    have : r = 4 := by omega
    subst this
    refine ⟨K, itC_inr ?_, lb, fun _ _ => rfl⟩
    unfold B_X3_carryFrom_17
    rw [if_neg (show ¬ nI 4 < 4 by decide), if_pos (bI_isb _)]
  | succ k ih =>
    intro r hr K lb
    have clK : CL K L b d := cl.keep (fun k hk => ⟨lb.1 _ (by omega), rfl⟩)
    have nk := nextC_ok (Z := Z) (R := R) hd clK hc (show r ≤ 4 by omega)
    have lt : nI r < 4 := (nl_lt (k := 4) (j := 4) rfl (by omega) (by omega)).mpr (by omega)
    obtain ⟨pg, _, _, _, cc, _⟩ := rw_ok hd hc g r (by omega)
    have n1 : ¬ nI (f c) = 1000000 := fun u => nf ((nl_eq (k := 1000000) (j := 1000000) rfl (by omega) (by omega)).mp u)
    cases e : nx d c r with
    | none =>
      obtain ⟨x1, x2⟩ := rx_none (s := s) (f := rwV d s c f r) e
      have hn : D_X10_has Z K L R x (-1) = some 0 := has_no (Or.inl (by decide))
      obtain ⟨K', A, B, C⟩ := ih (r + 1) (by omega) K (by show LbP d 67 I0 K (rxV d s c r (rwV d s c f r)); rw [x1]; exact lb)
      have fe : rwF d s c f (r + 1) = rwF d s c f r := by show (rwF d s c f r || rxF d s c r (rwV d s c f r)) = _; rw [x2, Bool.or_false]
      rw [fe] at A
      refine ⟨K', (itC_inl ?_).trans A, B, C⟩
      unfold B_X3_carryFrom_17
      simp only [lt, if_true]
      rw [if_neg n1, nk, bs_, e, show D_X10_has Z K L R x (oI none) = some 0 from hn, bs_, if_pos (show (0 : Int32) = 0 from rfl), D_X3_carryFrom_58, if_pos (show oI none = -1 from rfl), nI_1]
    | some t =>
      have tl := nx_lt hd hc e
      have wp := wS_pos s t
      have ft := (pg.2 t tl).1
      have gt : D_X10_get Z K L R 67 (nI t) = some (nI (rwV d s c f r t)) := by rw [get_ok (by rw [z67]; omega) (by rw [z67]; decide), lb.2 t tl]
      have st : B_X3_carryFrom_17 Z Ib L R 63 b x (nI c) (nI (f c)) (bI (rwF d s c f r), nI r, K) = (if nI (f c + wS s t) < nI (rwV d s c f r t) then some (.inl (1, nI (r + 1), up2 K 67 t (nI (f c + wS s t)))) else some (.inl (bI (rwF d s c f r), nI (r + 1), K))) := by
        have f58 : ∀ w : Nat, D_X3_carryFrom_58 Z K L R 63 b x (nI c) (nI (f c)) (bI (rwF d s c f r)) (nI r) (nI t) (nI w) (nI (f c)) = (if nI (f c + w) < nI (rwV d s c f r t) then some (.inl (1, nI (r + 1), up2 K 67 t (nI (f c + w)))) else some (.inl (bI (rwF d s c f r), nI (r + 1), K))) := fun w => by
          rw [D_X3_carryFrom_58, if_neg (nI_neg1 (by omega)), r4, bs_, gt, bs_, nI_add, put_ok (by rw [z67]; omega) (by rw [z67]; decide), bs_, nI_1]
        unfold B_X3_carryFrom_17
        simp only [lt, if_true]
        rw [if_neg n1, nk, bs_, e, show D_X10_has Z K L R x (oI (some t)) = _ from has_ok (c := t) (by omega), bs_, xk t (by omega), Kd_lt tl]
        unfold wS
        cases s t with
        | false =>
          rw [if_neg (show ¬ bI (false == false) = 0 by decide), if_neg (show ¬ false = true by decide)]
          exact f58 1
        | true =>
          rw [if_pos (show bI (true == false) = 0 from rfl), if_pos rfl]
          exact f58 1001
      by_cases q : rwV d s c f r c + wS s t < rwV d s c f r t
      · have q' := q
        rw [cc] at q'
        rw [if_pos ((nI_ltI (by omega) (by omega)).mpr q')] at st
        obtain ⟨x1, x2⟩ := rx_yes (s := s) (f := rwV d s c f r) e q
        rw [cc] at x1
        obtain ⟨K', A, B, C⟩ := ih (r + 1) (by omega) (up2 K 67 t (nI (f c + wS s t))) (by show LbP d 67 I0 _ (rxV d s c r (rwV d s c f r)); rw [x1]; exact lb.set)
        have fe : rwF d s c f (r + 1) = true := by show (rwF d s c f r || rxF d s c r (rwV d s c f r)) = _; rw [x2, Bool.or_true]
        rw [fe] at A
        exact ⟨K', (itC_inl st).trans A, B, fun i hi => by rw [C i hi, up2_j (by omega)]⟩
      · have q' := q
        rw [cc] at q'
        rw [if_neg (fun u => q' ((nI_ltI (by omega) (by omega)).mp u))] at st
        obtain ⟨x1, x2⟩ := rx_not (s := s) (f := rwV d s c f r) e q
        obtain ⟨K', A, B, C⟩ := ih (r + 1) (by omega) K (by show LbP d 67 I0 K (rxV d s c r (rwV d s c f r)); rw [x1]; exact lb)
        have fe : rwF d s c f (r + 1) = rwF d s c f r := by show (rwF d s c f r || rxF d s c r (rwV d s c f r)) = _; rw [x2, Bool.or_false]
        rw [fe] at A
        exact ⟨K', (itC_inl st).trans A, B, C⟩
