/-! drawn -/
def sh16 (x : Int32) : Int32 := (x.toUInt32 >>> ((16 : Int32).toUInt32 &&& Int32.toUInt32 31)).toInt32
theorem sh16_ok (x : Int32) : ∃ k, k < 65536 ∧ sh16 x = nI k := by
  refine ⟨x.toUInt32.toNat / 65536, ?_, ?_⟩
  · have := x.toUInt32.toNat_lt
    omega
  · have h := x.toUInt32.toNat_lt
    apply Int32.toInt_inj.mp
    rw [nI_toInt (by omega)]
    unfold sh16
    have e : (x.toUInt32 >>> ((16 : Int32).toUInt32 &&& Int32.toUInt32 31)).toNat = x.toUInt32.toNat / 65536 := by
      rw [UInt32.toNat_shiftRight]
      rw [show (((16 : Int32).toUInt32 &&& Int32.toUInt32 31) : UInt32).toNat % 32 = 16 by decide, Nat.shiftRight_eq_div_pow]
    have e2 : ((x.toUInt32 >>> ((16 : Int32).toUInt32 &&& Int32.toUInt32 31)).toInt32).toInt = (((x.toUInt32 >>> ((16 : Int32).toUInt32 &&& Int32.toUInt32 31)).toNat : Int)).bmod (2 ^ 32) := BitVec.toInt_eq_toNat_bmod _
    rw [e2, e]
    exact Int.bmod_eq_of_le (by omega) (by omega)
def dr_ (x : Int32) (b : Nat) : Nat := (sh16 x).toInt.toNat % b
theorem dr_ok (x : Int32) {b : Nat} (h0 : 0 < b) (h8 : b ≤ 8) : sh16 x - sh16 x / nI b * nI b = nI (dr_ x b) ∧ dr_ x b < b := by
  obtain ⟨k, hk, e⟩ := sh16_ok x
  unfold dr_
  rw [e, nI_toInt (by omega), nI_rem (by omega) (by omega) (by omega)]
  exact ⟨rfl, Nat.mod_lt _ h0⟩
theorem drawC {g_ : Int32 → Int32} (hg : ∀ x : Int32, x * 1103515245 + 12345 = g_ x) {Z : Nat → Nat} {I : I_T} {L : L_T} {R : R_T} {b : Nat} (h0 : 0 < b) (h8 : b ≤ 8) {x : Int32} (e : I 44 8 = x) : D_X0_draw Z I L R 44 (nI b) = some (nI (dr_ (g_ x) b), up2 I 44 8 (g_ x)) := by
  rw [D_X0_draw, bs_, e, hg, up2_s, if_pos ((ln_lt (k := 0) (j := 0) rfl (by omega) (by omega)).mpr h0), if_pos (fun u => by have := (nl_eq (k := 0) (j := 0) rfl (by omega) (by omega)).mp u; omega)]
  exact congrArg (fun q => some (q, up2 I 44 8 (g_ x))) (dr_ok (g_ x) h0 h8).1
theorem drawM {g_ : Int32 → Int32} (hg : ∀ x : Int32, x * 1103515245 + 12345 = g_ x) {Z : Nat → Nat} {J : I_T} {L : L_T} {R : R_T} {b : Nat} (h0 : 0 < b) (h8 : b ≤ 8) {x : Int32} (e : J 68 58 = x) : D_X11_draw Z J L R 68 (nI b) = some (nI (dr_ (g_ x) b), up2 J 68 58 (g_ x)) := by
  rw [D_X11_draw, bs_, e, hg, up2_s, if_pos (fun u => by have := (nl_eq (k := 0) (j := 0) rfl (by omega) (by omega)).mp u; omega)]
  exact congrArg (fun q => some (q, up2 J 68 58 (g_ x))) (dr_ok (g_ x) h0 h8).1
/-- a drawn deed's kind -/
def dk_ (w : Nat) : Nat := if w < 4 then 0 else if w < 6 then 1 else if w = 6 then 2 else 3
def drS (d : ld_T) (g_ : Int32 → Int32) : Nat → Int32 → cr_T → cr_T
  | 0, _, s => s
  | n + 1, x, s => drS d g_ n (g_ (g_ x)) (perfS d (dk_ (dr_ (g_ (g_ x)) 8)) (dr_ (g_ x) (lpp d)) (dr_ (g_ (g_ x)) 8) s).2
theorem drS_v {g_ : Int32 → Int32} {d : ld_T} (hd : VD d) : ∀ (n : Nat) (x : Int32) (s : cr_T), VC d s → VC d (drS d g_ n x s) := by
  intro n
  induction n with
  | zero => exact fun _ _ v => v
  | succ n ih => exact fun x s v => ih _ _ (perfS_v hd v (fun u => by
      unfold dk_ at u
      split at u
      · omega
      · split at u
        · omega
        · split at u <;> omega))
theorem CC.keep8 {I : I_T} {L : L_T} {d : ld_T} {s : cr_T} (h : CC I L d s) (x : Int32) : CC (up2 I 44 8 x) L d s := ⟨by rw [up2_j (by omega)]; exact h.1, h.2.1, fun c hc => by rw [up2_a (by omega)]; exact h.2.2.1 c hc, fun q p h1 h5 hp => by rw [up2_a (by omega)]; exact h.2.2.2 q p h1 h5 hp⟩
theorem CM.keep58 {J : I_T} {d : ld_T} {s : cr_T} (h : CM J d s) (x : Int32) : CM (up2 J 68 58 x) d s := ⟨by rw [up2_j (by omega)]; exact h.1, fun c hc => by rw [up2_a (by omega)]; exact h.2.1 c hc, fun q p h1 h5 hp => by rw [up2_a (by omega)]; exact h.2.2 q p h1 h5 hp⟩
theorem drift_loop {g_ : Int32 → Int32} (hg : ∀ x : Int32, x * 1103515245 + 12345 = g_ x) {sh : sh_T} {I0 I Ib : I_T} {L0 L Lb : L_T} {R : R_T} (h : Inv sh I0 L0 R) {a : Nat} (ha : a < 39) {d : ld_T} (hd : VD d) (cl : CL I L a d) (lz : LZ sh.2.2 R a) (p0 : 0 < lpp d) {m : Nat} (hm : m ≤ 60) : ∀ k t, t + k = m → ∀ K M s x, CC K M d s → VC d s → K 44 8 = x → (∀ i, i < 44 ∨ 50 < i → K i = I i) → (∀ i, i ≠ 44 → M i = L i) → ∃ I' L', itC (B_X0_drift_13 sh.2.2 Ib Lb R 44 a (nI m)) (nI t, K, M) = some (I', L') ∧ CC I' L' d (drS d g_ k x s) ∧ (∀ i, i < 44 ∨ 50 < i → I' i = I i) ∧ ∀ i, i ≠ 44 → L' i = L i := by
  have p5 : lpp d ≤ 5 := hd.2.2.2.2.2.2.2.2.1
  intro k
  induction k with
  | zero =>
    intro t ht K M s x cc vc e8 f g
    have : t = m := by omega
    subst this
    refine ⟨K, M, itC_inr ?_, cc, f, g⟩
    unfold B_X0_drift_13
    rw [if_neg Int32.lt_irrefl]
  | succ k ih =>
    intro t ht K M s x cc vc e8 f g
    have e5 : K a 5 = nI (lpp d) := by rw [f a (by omega)]; exact cl.1 5 (by omega)
    have q1 := drawC hg (Z := sh.2.2) (I := K) (L := M) (R := R) p0 (by omega) e8
    have q2 := drawC hg (Z := sh.2.2) (I := up2 K 44 8 (g_ x)) (L := M) (R := R) (b := 8) (by omega) (by omega) (up2_s _ _ _ _)
    have pl := (dr_ok (g_ x) p0 (by omega)).2
    have w8 := (dr_ok (g_ (g_ x)) (b := 8) (by omega) (by omega)).2
    have c2 := (cc.keep8 (g_ x)).keep8 (g_ (g_ x))
    have v2 : up2 (up2 K 44 8 (g_ x)) 44 8 (g_ (g_ x)) 44 8 = g_ (g_ x) := up2_s _ _ _ _
    have f2 : ∀ i, i < 44 ∨ 50 < i → up2 (up2 K 44 8 (g_ x)) 44 8 (g_ (g_ x)) i = I i := fun i hi => by rw [up2_ne (by omega), up2_ne (by omega)]; exact f i hi
    have st : B_X0_drift_13 sh.2.2 Ib Lb R 44 a (nI m) (nI t, K, M) = (D_X0_perform sh.2.2 (up2 (up2 K 44 8 (g_ x)) 44 8 (g_ (g_ x))) M R 44 a (nI (dk_ (dr_ (g_ (g_ x)) 8))) (nI (dr_ (g_ x) (lpp d))) (if dr_ (g_ (g_ x)) 8 < 4 then nI (dr_ (g_ (g_ x)) 8) else -1)).bind fun q7 => some (.inl (nI (t + 1), q7.2.1, q7.2.2)) := by
      unfold B_X0_drift_13
      simp only [e5]
      rw [if_pos ((nI_ltI (by omega) (by omega)).mpr (by omega)), q1, bs_, show D_X0_draw sh.2.2 (nI (dr_ (g_ x) (lpp d)), up2 K 44 8 (g_ x)).2 M R 44 8 = _ from q2, bs_, nI_1]
      unfold dk_
      generalize dr_ (g_ (g_ x)) 8 = w at *
      by_cases w4 : w < 4
      · rw [if_pos ((nl_lt (k := 4) (j := 4) rfl (by omega) (by omega)).mpr w4), if_pos w4, if_pos w4]
        rfl
      · rw [if_neg (fun u => w4 ((nl_lt (k := 4) (j := 4) rfl (by omega) (by omega)).mp u)), if_neg w4, if_neg w4]
        by_cases w6 : w < 6
        · rw [if_pos ((nl_lt (k := 6) (j := 6) rfl (by omega) (by omega)).mpr w6), if_pos w6, D_X0_drift_82, nI_1]
          rfl
        · rw [if_neg (fun u => w6 ((nl_lt (k := 6) (j := 6) rfl (by omega) (by omega)).mp u)), if_neg w6]
          by_cases w7 : w = 6
          · rw [if_pos (show nI w = 6 by rw [w7]; rfl), if_pos w7, D_X0_drift_82, nI_1]
            rfl
          · rw [if_neg (fun u => w7 ((nl_eq (k := 6) (j := 6) rfl (by omega) (by omega)).mp u)), if_neg w7, D_X0_drift_82, nI_1]
            rfl
    generalize hK : up2 (up2 K 44 8 (g_ x)) 44 8 (g_ (g_ x)) = K2 at st c2 v2 f2
    have dk4 : dk_ (dr_ (g_ (g_ x)) 8) < 4 := by unfold dk_; split <;> (try split) <;> (try split) <;> omega
    obtain ⟨K', M', r1, r2, r3, r4, r5⟩ := perform_ok (x := if dr_ (g_ (g_ x)) 8 < 4 then nI (dr_ (g_ (g_ x)) 8) else -1) (xn := dr_ (g_ (g_ x)) 8) h ha hd (cl.keep (I' := K2) (L' := M) (fun k hk => ⟨f2 _ (by omega), by rw [g _ (by omega)]⟩)) lz c2 vc (k := dk_ (dr_ (g_ (g_ x)) 8)) (p := dr_ (g_ x) (lpp d)) (by omega) (by omega) (fun u => by omega) (fun u => by
      have w4 : dr_ (g_ (g_ x)) 8 < 4 := by
        unfold dk_ at u
        split at u
        · assumption
        · split at u
          · omega
          · split at u <;> omega
      exact ⟨by rw [if_pos w4], w4⟩)
    rw [r1, bs_] at st
    obtain ⟨I', L', A, B⟩ := ih (t + 1) (by omega) K' M' _ (g_ (g_ x)) r2 (perfS_v hd vc (fun u => by omega)) (by rw [r4 8 (by omega)]; exact v2) (fun i hi => by rw [r3 i hi]; exact f2 i hi) (fun i hi => by rw [r5 i hi]; exact g i hi)
    exact ⟨I', L', (itC_inl st).trans A, B⟩
theorem drawDeed_ok {g_ : Int32 → Int32} (hg : ∀ x : Int32, x * 1103515245 + 12345 = g_ x) {sh : sh_T} {I J : I_T} {L L' : L_T} {R : R_T} (h : Inv sh I L R) {k : Nat} (hk : k < 2) {d : ld_T} (hd : VD d) (ml : ML I k d) (m : MH J I k d) {s : cr_T} (cm : CM J d s) (vc : VC d s) (p0 : 0 < lpp d) {x : Int32} (e58 : J 68 58 = x) : ∃ J', D_X11_drawDeed sh.2.2 J L' R 68 = some J' ∧ CM J' d (perfS d (dk_ (dr_ (g_ (g_ x)) 8)) (dr_ (g_ x) (lpp d)) (dr_ (g_ (g_ x)) 8) s).2 ∧ J' 68 58 = g_ (g_ x) ∧ MH J' I k d ∧ ∀ i, i ≠ 68 → i < 81 ∨ 86 < i → J' i = J i := by
  have p5 : lpp d ≤ 5 := hd.2.2.2.2.2.2.2.2.1
  have q1 := drawM hg (Z := sh.2.2) (J := J) (L := L') (R := R) p0 (by omega) e58
  have q2 := drawM hg (Z := sh.2.2) (J := up2 J 68 58 (g_ x)) (L := L') (R := R) (b := 8) (by omega) (by omega) (up2_s _ _ _ _)
  have pl := (dr_ok (g_ x) p0 (by omega)).2
  have w8 := (dr_ok (g_ (g_ x)) (b := 8) (by omega) (by omega)).2
  have c2 := (cm.keep58 (g_ x)).keep58 (g_ (g_ x))
  have v2 : up2 (up2 J 68 58 (g_ x)) 68 58 (g_ (g_ x)) 68 58 = g_ (g_ x) := up2_s _ _ _ _
  have f2 : ∀ i, i ≠ 68 → up2 (up2 J 68 58 (g_ x)) 68 58 (g_ (g_ x)) i = J i := fun i hi => by rw [up2_ne hi, up2_ne hi]
  have m2 : MH (up2 (up2 J 68 58 (g_ x)) 68 58 (g_ (g_ x))) I k d := m.fr (f2 74 (by omega)) (f2 80 (by omega)) (fun j _ _ _ => by rw [up2_j (by omega), up2_j (by omega)])
  rw [D_X11_drawDeed, m.2.2.2.2.2.1, q1, bs_, show D_X11_draw sh.2.2 (nI (dr_ (g_ x) (lpp d)), up2 J 68 58 (g_ x)).2 L' R 68 8 = _ from q2, bs_]
  generalize up2 (up2 J 68 58 (g_ x)) 68 58 (g_ (g_ x)) = K at *
  generalize dr_ (g_ (g_ x)) 8 = w at *
  generalize dr_ (g_ x) (lpp d) = p at *
  have W : ∀ (D : Option (Int32 × I_T)) (y : Nat), (∃ J', D = some (bI (perfS d y p w s).1, J') ∧ CM J' d (perfS d y p w s).2 ∧ ∀ i, i < 81 ∨ 86 < i → J' i = K i) → ∃ J', (D.bind fun q9 => some q9.2) = some J' ∧ CM J' d (perfS d y p w s).2 ∧ J' 68 58 = g_ (g_ x) ∧ MH J' I k d ∧ ∀ i, i ≠ 68 → i < 81 ∨ 86 < i → J' i = J i := fun D y hD => by
    obtain ⟨J', r1, r2, r3⟩ := hD
    exact ⟨J', by rw [r1, bs_], r2, by rw [r3 68 (by omega)]; exact v2, m2.fr' r3, fun i i1 i2 => by rw [r3 i i2]; exact f2 i i1⟩
  unfold dk_
  by_cases w4 : w < 4
  · rw [if_pos ((nl_lt (k := 4) (j := 4) rfl (by omega) (by omega)).mpr w4), if_pos w4]
    exact W _ 0 (goes_ok h hk hd ml m2 c2 vc pl w4)
  · rw [if_neg (fun u => w4 ((nl_lt (k := 4) (j := 4) rfl (by omega) (by omega)).mp u)), if_neg w4]
    by_cases w6 : w < 6
    · rw [if_pos ((nl_lt (k := 6) (j := 6) rfl (by omega) (by omega)).mpr w6), if_pos w6]
      exact W _ 1 (works_ok h hk hd ml m2 c2 vc w pl)
    · rw [if_neg (fun u => w6 ((nl_lt (k := 6) (j := 6) rfl (by omega) (by omega)).mp u)), if_neg w6]
      by_cases w7 : w = 6
      · rw [if_pos (show nI w = 6 by rw [w7]; rfl), if_pos w7]
        exact W _ 2 (waits_ok h hk hd ml m2 c2 vc w pl)
      · rw [if_neg (fun u => w7 ((nl_eq (k := 6) (j := 6) rfl (by omega) (by omega)).mp u)), if_neg w7]
        exact W _ 3 (moors_ok h hk hd ml m2 c2 vc w pl)
theorem q_drawn {sh : sh_T} {I : I_T} {L : L_T} {R : R_T} (h : Inv sh I L R) (v p w u : Int32) : ∃ r I1 L1 I2, D_X10_drawn sh.2.2 I L R 6 v p w u = some (r, I1, L1) ∧ D_X11_drawn sh.2.2 I1 L1 R 68 v p w u = some (r, I2) ∧ Inv sh I2 L1 R := by
  obtain ⟨g_, hg⟩ : ∃ g_ : Int32 → Int32, ∀ x : Int32, x * 1103515245 + 12345 = g_ x := ⟨_, fun _ => rfl⟩
  have p73 : pers 73 := by unfold pers; omega
  have p74 : pers 74 := by unfold pers; omega
  have inw : ∀ (I' : I_T) (L' : L_T), D_X11_in sh.2.2 I' L' R w 0 60 = some (bI (decide (((0 : Nat) : Int) ≤ w.toInt ∧ w.toInt ≤ (60 : Nat)))) := fun I' L' => in_rng w (a := 0) (b := 60) (by omega) (by omega)
  have mw : ¬ (((0 : Nat) : Int) ≤ w.toInt ∧ w.toInt ≤ (60 : Nat)) → D_X11_drawn sh.2.2 I L R 68 v p w u = some (-2, up2 I 68 0 0) := fun hw => by
    rw [D_X11_drawn, bs_, inw, bs_, decide_eq_false hw, if_pos (show bI false = 0 from rfl)]
  rcases land_or h v with ⟨a, b⟩ | ⟨k, d, hk, hv, a, vd, cl, ml, lz, b⟩
  · refine ⟨-2, I, L, up2 I 68 0 0, ?_, ?_, h.code 0 0⟩
    · rw [D_X10_drawn, h.r 6 0 7 rfl, bs_, a]
      rfl
    · by_cases hw : ((0 : Nat) : Int) ≤ w.toInt ∧ w.toInt ≤ (60 : Nat)
      · rw [D_X11_drawn, bs_, inw, bs_, decide_eq_true hw, if_neg (show ¬ bI true = 0 by decide), b _ L (up2_ne (by omega)), bs_, if_pos (show (0 : Int32) = 0 from rfl)]
      · exact mw hw
  · have p5 : lpp d ≤ 5 := vd.2.2.2.2.2.2.2.2.1
    have C0 : D_X10_drawn sh.2.2 I L R 6 v p w u = (if (0 : Int32) < nI (lpp d) then (if w < 0 then (some (((-2), I, L))) else (if (60) < w then (some (((-2), I, L))) else ((D_X0_drift sh.2.2 I L R 44 (12 + 5 * k) p w).bind fun q9 => (D_X0_asked sh.2.2 (q9.1) (q9.2) R 44 (12 + 5 * k) u).bind fun q10 => some ((q10, q9.1, q9.2))))) else (some (((-2), I, L)))) := by
      rw [D_X10_drawn, h.r 6 0 7 rfl, bs_, a, bs_, ocase, h.r 6 3 44 rfl, bs_, show I (12 + 5 * k) 5 = nI (lpp d) from cl.1 5 (by omega)]
    by_cases hw : ((0 : Nat) : Int) ≤ w.toInt ∧ w.toInt ≤ (60 : Nat)
    · rw [rng_yes (a := 0) (b := 60) (by decide) (by decide) hw] at C0
      have M0 : ∀ (I1 : I_T) (L1 : L_T), (∀ a, pers a → I1 a = I a) → ∃ J, (∀ a, pers a → J a = I a) ∧ HD J k d ∧ D_X11_drawn sh.2.2 I1 L1 R 68 v p w u = (if nI (lpp d) = 0 then some (-2, J) else (D_X11_begin sh.2.2 (up2 J 68 58 p) L1 R 68).bind fun q8 => D_X11_drawn_45 sh.2.2 q8 L1 R 68 w u (0, q8)) := fun I1 L1 f1 => by
        obtain ⟨J, e1, hd, fr⟩ := b (up2 I1 68 0 0) L1 (by rw [up2_ne (by omega)]; exact f1 73 p73) (by rw [up2_ne (by omega)]; exact f1 74 p74)
        refine ⟨J, fun a ha => by rw [fr.at (pers_68 ha).1 (pers_68 ha).2.1 (pers_68 ha).2.2]; exact f1 a ha, hd, ?_⟩
        rw [D_X11_drawn, bs_, inw, bs_, decide_eq_true hw, if_neg (show ¬ bI true = 0 by decide), e1, bs_, if_neg (show ¬ (1 : Int32) = 0 by decide)]
        rw [show ((1 : Int32), J).2 68 30 = nI (lpp d) from hd.2.2.2.2.2.2.1, bs_]
      by_cases p0 : 0 < lpp d
      · obtain ⟨m, hm, rfl⟩ := clamp_lt (v := w) (c := 61) ⟨by omega, by omega⟩ (by omega)
        obtain ⟨K, M, b1, b2, b3, b4, b5⟩ := begin_ok h (a := 12 + 5 * k) (by omega) vd cl lz
        obtain ⟨I1, L1, A, B, C, D⟩ := drift_loop hg (Ib := up2 K 44 8 p) (Lb := M) h (a := 12 + 5 * k) (by omega) vd cl lz p0 (show m ≤ 60 by omega) m 0 (by omega) (up2 K 44 8 p) M (bg d) p (b2.keep8 p) (bg_v vd) (up2_s _ _ _ _) (fun i hi => by rw [up2_ne (by omega)]; exact b3 i hi) b5
        have f1 : ∀ a, pers a → I1 a = I a := fun a ha => C a (by unfold pers at ha; omega)
        obtain ⟨J, f, hd, M1⟩ := M0 I1 L1 f1
        have mh := hd.mh (f 74 p74)
        obtain ⟨J1, s1, s2, s3⟩ := mbegin_ok (L' := L1) h hk vd ml (J := up2 J 68 58 p) (mh.fr (up2_ne (by omega)) (up2_ne (by omega)) (fun j _ _ _ => up2_j (by omega))) (by rw [up2_j (by omega)]; exact hd.2.2.2.1) (fun c hc => by rw [up2_a (by omega)]; exact (hd.2.2.2.2.2.2.2.2 c hc).2)
        have pv := drS_v (g_ := g_) vd m p (bg d) (bg_v vd)
        have loop : ∀ n t, t + n = m → ∀ Q s x, CM Q d s → VC d s → Q 68 58 = x → MH Q I k d → (∀ i, i ≠ 68 → i < 81 ∨ 86 < i → Q i = J i) → ∃ J', itC (B_X11_drawn_45 sh.2.2 J1 L1 R 68 (nI m) u) (nI t, Q) = some (askS d (drS d g_ n x s) u, J') ∧ ∀ i, i ≠ 68 → i < 81 ∨ 86 < i → J' i = J i := by
          intro n
          induction n with
          | zero =>
            intro t ht Q s x cm vc e58 mq fq
            have : t = m := by omega
            subst this
            refine ⟨Q, itC_inr ?_, fq⟩
            unfold B_X11_drawn_45
            rw [if_neg Int32.lt_irrefl, show D_X11_ofState sh.2.2 (nI t, Q).2 L1 R 68 u = _ from askM_ok h vd mq cm vc u, bs_]
            rfl
          | succ n ih =>
            intro t ht Q s x cm vc e58 mq fq
            obtain ⟨Q', r1, r2, r3, r4, r5⟩ := drawDeed_ok hg (L' := L1) h hk vd ml mq cm vc p0 e58
            obtain ⟨J', A', B'⟩ := ih (t + 1) (by omega) Q' _ _ r2 (perfS_v vd vc (fun z => by
              have : dk_ (dr_ (g_ (g_ x)) 8) < 4 := by unfold dk_; split <;> (try split) <;> (try split) <;> omega
              omega)) r3 r4 (fun i i1 i2 => by rw [r5 i i1 i2]; exact fq i i1 i2)
            refine ⟨J', (itC_inl ?_).trans A', B'⟩
            unfold B_X11_drawn_45
            rw [if_pos ((nI_ltI (by omega) (by omega)).mpr (by omega)), r1, bs_, nI_1]
        obtain ⟨J', A', B'⟩ := loop m 0 (by omega) J1 (bg d) p s2 (bg_v vd) (by rw [s3 68 (by omega), up2_s]) ((mh.fr (J' := up2 J 68 58 p) (up2_ne (by omega)) (up2_ne (by omega)) (fun j _ _ _ => up2_j (by omega))).fr' (fun i hi => s3 i (by omega))) (fun i i1 i2 => by rw [s3 i (by omega), up2_ne i1])
        rw [if_pos ((ln_lt (k := 0) (j := 0) rfl (by omega) (by omega)).mpr p0), D_X0_drift, b1, bs_, bs_, show D_X0_drift_13 sh.2.2 (up2 K 44 8 p) M R 44 (12 + 5 * k) (nI m) (0, up2 K 44 8 p, M) = _ from A, bs_] at C0
        rw [show D_X0_asked sh.2.2 (I1, L1).1 (I1, L1).2 R 44 (12 + 5 * k) u = _ from askC_ok h vd (cl.keep (fun i hi => ⟨C _ (by omega), D _ (by omega)⟩)) B pv u, bs_] at C0
        rw [if_neg (fun z => by have := (nl_eq (k := 0) (j := 0) rfl (by omega) (by omega)).mp z; omega), s1, bs_, show D_X11_drawn_45 sh.2.2 J1 L1 R 68 (nI m) u (0, J1) = _ from A'] at M1
        exact ⟨_, I1, L1, J', C0, M1, h.fr2 (fun a ha => by rw [B' a (pers_68 ha).1 (by unfold pers at ha; omega)]; exact f a ha) (fun a ha => D a (by unfold pers at ha; omega))⟩
      · obtain ⟨J, f, hd, M1⟩ := M0 I L (fun _ _ => rfl)
        have z : lpp d = 0 := by omega
        rw [z, if_neg (show ¬ (0 : Int32) < nI 0 by decide)] at C0
        rw [z, if_pos (show nI 0 = 0 from rfl)] at M1
        exact ⟨-2, I, L, J, C0, M1, h.fr f⟩
    · rw [rng_no (a := 0) (b := 60) (by decide) (by decide) hw, ite_self] at C0
      exact ⟨-2, I, L, _, C0, mw hw, h.code 0 0⟩
