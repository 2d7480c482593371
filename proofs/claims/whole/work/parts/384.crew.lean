/-! a day: its state, and what class and model hold of it -/
/-- rows: 0 works of cells, 1 cells of people, 2 clocks, 3 ashore, 4 rest, 5 fines; 6: the level -/
abbrev cr_T : Type := Nat → Nat → Nat
theorem up2_id {α : Type} {f : Nat → Nat → α} {a j : Nat} {v : α} (h : v = f a j) : up2 f a j v = f := by
  funext b i
  by_cases z : b = a
  · subst z
    by_cases w : i = j
    · subst w
      rw [up2_s, h]
    · rw [up2_j w]
  · rw [up2_a z]
theorem up2_comm {α : Type} {f : Nat → Nat → α} {a j b i : Nat} {v w : α} (h : a ≠ b) : up2 (up2 f a j v) b i w = up2 (up2 f b i w) a j v := by
  funext c k
  by_cases z : c = a
  · subst z
    rw [up2_a h]
    by_cases u : k = j
    · subst u
      rw [up2_s, up2_s]
    · rw [up2_j u, up2_j u, up2_a h]
  · rw [up2_a z]
    by_cases u : c = b
    · subst u
      by_cases t : k = i
      · subst t
        rw [up2_s, up2_s]
      · rw [up2_j t, up2_j t, up2_a z]
    · rw [up2_a u, up2_a u, up2_a z]
def VC (d : ld_T) (s : cr_T) : Prop := s 6 0 ≤ 9 ∧ (∀ c, s 0 c ≤ 20) ∧ ∀ p, p < lpp d → s 1 p < cs_ d ∧ s 2 p ≤ 99 ∧ s 3 p ≤ 2 * s 2 p ∧ s 4 p ≤ 2 * s 2 p ∧ s 5 p ≤ 2 * s 2 p
/-- what one is fined for a minute on soil -/
def fn_ (d : ld_T) (s : cr_T) (p : Nat) : Nat := if lim_ d (d 8 p) < s 3 p + 1 then (if d 8 p = 2 then 2 else 1) else 0
/-- a minute of a person -/
def mnS (d : ld_T) (s : cr_T) (p : Nat) : cr_T :=
  if slv d (s 6 0) (s 1 p) = true then up2 (up2 (up2 (up2 s 2 p (s 2 p + 1)) 4 p 0) 3 p (s 3 p + 1)) 5 p (s 5 p + fn_ d s p)
  else up2 (up2 (up2 s 2 p (s 2 p + 1)) 4 p (s 4 p + 1)) 3 p (if s 4 p + 1 < laf d then s 3 p else 0)
theorem fn_le (d : ld_T) (s : cr_T) (p : Nat) : fn_ d s p ≤ 2 := by
  unfold fn_
  split
  · split <;> omega
  · omega
theorem mnS_6 {d : ld_T} {s : cr_T} {p : Nat} : mnS d s p 6 0 = s 6 0 := by
  unfold mnS
  split <;> simp only [up2_a (show (6 : Nat) ≠ 2 by omega), up2_a (show (6 : Nat) ≠ 4 by omega), up2_a (show (6 : Nat) ≠ 3 by omega), up2_a (show (6 : Nat) ≠ 5 by omega)]
theorem mnS_0 {d : ld_T} {s : cr_T} {p c : Nat} : mnS d s p 0 c = s 0 c := by
  unfold mnS
  split <;> simp only [up2_a (show (0 : Nat) ≠ 2 by omega), up2_a (show (0 : Nat) ≠ 4 by omega), up2_a (show (0 : Nat) ≠ 3 by omega), up2_a (show (0 : Nat) ≠ 5 by omega)]
theorem mnS_1 {d : ld_T} {s : cr_T} {p c : Nat} : mnS d s p 1 c = s 1 c := by
  unfold mnS
  split <;> simp only [up2_a (show (1 : Nat) ≠ 2 by omega), up2_a (show (1 : Nat) ≠ 4 by omega), up2_a (show (1 : Nat) ≠ 3 by omega), up2_a (show (1 : Nat) ≠ 5 by omega)]
theorem mnS_2 {d : ld_T} {s : cr_T} {p : Nat} : mnS d s p 2 p = s 2 p + 1 := by
  unfold mnS
  split
  · rw [up2_a (by omega), up2_a (by omega), up2_a (by omega), up2_s]
  · rw [up2_a (by omega), up2_a (by omega), up2_s]
theorem mnS_o {d : ld_T} {s : cr_T} {p q c : Nat} (h : c ≠ p) : mnS d s p q c = s q c := by
  unfold mnS
  split
  · rw [up2_j h, up2_j h, up2_j h, up2_j h]
  · rw [up2_j h, up2_j h, up2_j h]
theorem mnS_v {d : ld_T} {s : cr_T} {p : Nat} (v : VC d s) (h : s 2 p < 99) : VC d (mnS d s p) := by
  obtain ⟨v1, v2, v3⟩ := v
  refine ⟨by rw [mnS_6]; exact v1, fun c => by rw [mnS_0]; exact v2 c, fun c hc => ?_⟩
  obtain ⟨w1, w2, w3, w4, w5⟩ := v3 c hc
  by_cases z : c = p
  · subst z
    refine ⟨by rw [mnS_1]; exact w1, by rw [mnS_2]; omega, ?_, ?_, ?_⟩
    · rw [mnS_2]
      unfold mnS
      split
      · rw [up2_a (by omega), up2_s]
        omega
      · rw [up2_s]
        split <;> omega
    · rw [mnS_2]
      unfold mnS
      split
      · rw [up2_a (by omega), up2_a (by omega), up2_s]
        omega
      · rw [up2_a (by omega), up2_s]
        omega
    · rw [mnS_2]
      unfold mnS
      have := fn_le d s c
      split
      · rw [up2_s]
        omega
      · rw [up2_a (by omega), up2_a (by omega), up2_a (by omega)]
        omega
  · rw [mnS_o z, mnS_o z, mnS_o z, mnS_o z, mnS_o z]
    exact ⟨w1, w2, w3, w4, w5⟩
/-- the class's crew -/
def CC (I : I_T) (L : L_T) (d : ld_T) (s : cr_T) : Prop := I 44 6 = nI (s 6 0) ∧ isS (L 44 7) (Kd d (slv d (s 6 0)) false) ∧ (∀ c, c < cs_ d → I 45 c = nI (s 0 c)) ∧ ∀ q p, 1 ≤ q → q ≤ 5 → p < lpp d → I (45 + q) p = nI (s q p)
/-- the model's day -/
def CM (J : I_T) (d : ld_T) (s : cr_T) : Prop := J 68 27 = nI (s 6 0) ∧ (∀ c, c < cs_ d → J 81 c = nI (s 0 c)) ∧ ∀ q p, 1 ≤ q → q ≤ 5 → p < lpp d → J (81 + q) p = nI (s q p)
theorem up2_vw {I : I_T} {s : cr_T} {b q p v : Nat} {x : Int32} (e : I (b + q) p = nI (s q p)) {q' p' : Nat} (hx : x = nI v) : up2 I (b + q') p' x (b + q) p = nI (up2 s q' p' v q p) := by
  by_cases z : q = q'
  · subst z
    by_cases w : p = p'
    · subst w
      rw [up2_s, up2_s, hx]
    · rw [up2_j w, up2_j w, e]
  · rw [up2_a (by omega), up2_a z, e]
theorem CC.set {I : I_T} {L : L_T} {d : ld_T} {s : cr_T} (h : CC I L d s) {q p v : Nat} (hq : q ≤ 5) {x : Int32} (hx : x = nI v) : CC (up2 I (45 + q) p x) L d (up2 s q p v) := by
  obtain ⟨a, b, c, e⟩ := h
  have s6 : up2 s q p v 6 0 = s 6 0 := up2_a (by omega)
  refine ⟨by rw [up2_a (by omega), s6]; exact a, by rw [s6]; exact b, fun i hi => ?_, fun q' p' h1 h5 hp => up2_vw (e q' p' h1 h5 hp) hx⟩
  exact up2_vw (b := 45) (q := 0) (c i hi) hx
theorem CM.set {J : I_T} {d : ld_T} {s : cr_T} (h : CM J d s) {q p v : Nat} (hq : q ≤ 5) {x : Int32} (hx : x = nI v) : CM (up2 J (81 + q) p x) d (up2 s q p v) := by
  obtain ⟨a, c, e⟩ := h
  refine ⟨?_, fun i hi => ?_, fun q' p' h1 h5 hp => up2_vw (e q' p' h1 h5 hp) hx⟩
  · rw [up2_a (by omega), up2_a (by omega)]
    exact a
  · exact up2_vw (b := 81) (q := 0) (c i hi) hx
theorem CC.wet {I : I_T} {L : L_T} {d : ld_T} {s : cr_T} (h : CC I L d s) {c : Nat} (hd : VD d) (hc : c < cs_ d) {Z : Nat → Nat} {J : I_T} {R : R_T} {L' : L_T} : D_X10_has Z J L' R (L 44 7) (nI c) = some (bI (!slv d (s 6 0) c)) := by
  have h64 := cs_le hd
  rw [has_ok (by omega), h.2.1 c (by omega), Kd_lt hc]
  cases slv d (s 6 0) c <;> rfl
theorem pass_ok {sh : sh_T} {I0 I : I_T} {L0 L : L_T} {R : R_T} (h : Inv sh I0 L0 R) {a : Nat} (ha : a < 40) {d : ld_T} (hd : VD d) (cl : CL I L a d) (lz : LZ sh.2.2 R a) {s : cr_T} (cc : CC I L d s) (vc : VC d s) {p : Nat} (hp : p < lpp d) (hc : s 2 p < 99) : ∃ I', D_X0_pass sh.2.2 I L R 44 a (nI p) = some I' ∧ CC I' L d (mnS d s p) ∧ ∀ i, i < 45 ∨ 50 < i → I' i = I i := by
  have p5 : lpp d ≤ 5 := hd.2.2.2.2.2.2.2.2.1
  have k2 : d 8 p ≤ 2 := (hd.2.2.2.2.2.2.2.2.2.2 p hp).1
  obtain ⟨w1, w2, w3, w4, w5⟩ := vc.2.2 p hp
  have ll := lim_le hd (d 8 p)
  have a20 : laf d ≤ 20 := hd.2.2.2.2.2.2.2.1
  have z : ∀ q, 1 ≤ q → q ≤ 5 → sh.2.2 (45 + q) = 5 := fun q h1 h5 => by
    have : q = 1 ∨ q = 2 ∨ q = 3 ∨ q = 4 ∨ q = 5 := by omega
    rcases this with rfl | rfl | rfl | rfl | rfl
    · exact h.z 46 5 rfl
    · exact h.z 47 5 rfl
    · exact h.z 48 5 rfl
    · exact h.z 49 5 rfl
    · exact h.z 50 5 rfl
  have gt : ∀ (K : I_T) (s' : cr_T), CC K L d s' → ∀ q, 1 ≤ q → q ≤ 5 → D_X10_get sh.2.2 K L R (45 + q) (nI p) = some (nI (s' q p)) := fun K s' c q h1 h5 => by
    rw [get_ok (by rw [z q h1 h5]; omega) (by rw [z q h1 h5]; decide), c.2.2.2 q p h1 h5 hp]
  have pt : ∀ (K : I_T) q (x : Int32), 1 ≤ q → q ≤ 5 → D_X10_put sh.2.2 K L R (45 + q) (nI p) x = some (up2 K (45 + q) p x) := fun K q x h1 h5 => put_ok (by rw [z q h1 h5]; omega) (by rw [z q h1 h5]; decide) x
  have kl : ∀ (K : I_T), (∀ i, i < 45 → K i = I i) → CL K L a d := fun K f => cl.keep (fun k hk => ⟨f _ (by omega), rfl⟩)
  have g47 : D_X10_get sh.2.2 I L R 47 (nI p) = some (nI (s 2 p)) := gt I s cc 2 (by omega) (by omega)
  have t47 : D_X10_put sh.2.2 I L R 47 (nI p) (nI (s 2 p + 1)) = some (up2 I 47 p (nI (s 2 p + 1))) := pt I 2 _ (by omega) (by omega)
  rw [D_X0_pass, h.r 44 2 47 rfl, bs_, g47, bs_, nI_1, t47, bs_, h.r 44 1 46 rfl, bs_]
  have s13 : up2 s 2 p (s 2 p + 1) 3 p = s 3 p := up2_a (by omega)
  have s14 : up2 s 2 p (s 2 p + 1) 4 p = s 4 p := up2_a (by omega)
  have s15 : up2 s 2 p (s 2 p + 1) 5 p = s 5 p := up2_a (by omega)
  have s11 : up2 s 2 p (s 2 p + 1) 1 p = s 1 p := up2_a (by omega)
  have s16 : up2 s 2 p (s 2 p + 1) 6 0 = s 6 0 := up2_a (by omega)
  have c1 : CC (up2 I 47 p (nI (s 2 p + 1))) L d (up2 s 2 p (s 2 p + 1)) := cc.set (q := 2) (by omega) rfl
  have fr1 : ∀ i, i < 45 ∨ 50 < i → up2 I 47 p (nI (s 2 p + 1)) i = I i := fun i hi => up2_ne (by omega)
  generalize up2 I 47 p (nI (s 2 p + 1)) = I1 at c1 fr1
  unfold mnS
  generalize up2 s 2 p (s 2 p + 1) = s1 at *
  have g46 : D_X10_get sh.2.2 I1 L R 46 (nI p) = some (nI (s 1 p)) := by rw [← s11]; exact gt I1 s1 c1 1 (by omega) (by omega)
  have wt := c1.wet hd (c := s 1 p) w1 (Z := sh.2.2) (J := I1) (R := R) (L' := L)
  rw [s16] at wt
  rw [g46, bs_, wt, bs_]
  cases sl : slv d (s 6 0) (s 1 p) with
  | true =>
    have gk : D_X10_get sh.2.2 I1 L R (a + 3) (nI p) = some (nI (d 8 p)) := by rw [get_ok (by rw [lz.2.2.2.2.2.2.1]; omega) (by rw [lz.2.2.2.2.2.2.1]; decide), ((kl I1 (fun i hi => fr1 i (by omega))).2.2.1 p hp).1]
    have g48 : D_X10_get sh.2.2 I1 L R 48 (nI p) = some (nI (s 3 p)) := by rw [← s13]; exact gt I1 s1 c1 3 (by omega) (by omega)
    have t49 : D_X10_put sh.2.2 I1 L R 49 (nI p) 0 = some (up2 I1 49 p 0) := pt I1 4 _ (by omega) (by omega)
    have c2 : CC (up2 I1 49 p 0) L d (up2 s1 4 p 0) := c1.set (q := 4) (by omega) rfl
    have fr2 : ∀ i, i < 45 ∨ 50 < i → up2 I1 49 p 0 i = I i := fun i hi => by rw [up2_ne (by omega)]; exact fr1 i hi
    rw [if_pos (show bI (!true) = 0 from rfl), lz.2.2.1, bs_, gk, bs_, h.r 44 3 48 rfl, bs_, g48, bs_, h.r 44 4 49 rfl, bs_, t49, bs_, nI_1]
    generalize up2 I1 49 p 0 = I2 at c2 fr2
    have t48 : D_X10_put sh.2.2 I2 L R 48 (nI p) (nI (s 3 p + 1)) = some (up2 I2 48 p (nI (s 3 p + 1))) := pt I2 3 _ (by omega) (by omega)
    have c3 : CC (up2 I2 48 p (nI (s 3 p + 1))) L d (up2 (up2 s1 4 p 0) 3 p (s 3 p + 1)) := c2.set (q := 3) (by omega) rfl
    have fr3 : ∀ i, i < 45 ∨ 50 < i → up2 I2 48 p (nI (s 3 p + 1)) i = I i := fun i hi => by rw [up2_ne (by omega)]; exact fr2 i hi
    rw [t48, bs_]
    generalize up2 I2 48 p (nI (s 3 p + 1)) = I3 at c3 fr3
    have s35 : up2 (up2 s1 4 p 0) 3 p (s 3 p + 1) 5 p = s 5 p := by rw [up2_a (by omega), up2_a (by omega), s15]
    rw [if_pos rfl]
    generalize up2 (up2 s1 4 p 0) 3 p (s 3 p + 1) = s3 at *
    rw [limit_ok hd (kl I3 (fun i hi => fr3 i (by omega))) k2, bs_]
    unfold fn_
    by_cases q : lim_ d (d 8 p) < s 3 p + 1
    · have g50 : D_X10_get sh.2.2 I3 L R 50 (nI p) = some (nI (s 5 p)) := by rw [← s35]; exact gt I3 s3 c3 5 (by omega) (by omega)
      rw [if_pos ((nI_ltI (by omega) (by omega)).mpr q), if_pos q, h.r 44 5 50 rfl, bs_, g50, bs_]
      have fin : ∀ n : Nat, ∃ I', D_X0_pass_147 sh.2.2 I3 L R (nI n) (nI (s 5 p)) (nI p) 50 = some I' ∧ CC I' L d (up2 s3 5 p (s 5 p + n)) ∧ ∀ i, i < 45 ∨ 50 < i → I' i = I i := fun n => by
        have t50 : D_X10_put sh.2.2 I3 L R 50 (nI p) (nI (s 5 p + n)) = some (up2 I3 50 p (nI (s 5 p + n))) := pt I3 5 _ (by omega) (by omega)
        rw [D_X0_pass_147, nI_add, t50, bs_]
        exact ⟨_, rfl, c3.set (q := 5) (by omega) rfl, fun i hi => by rw [up2_ne (by omega)]; exact fr3 i hi⟩
      by_cases w : d 8 p = 2
      · rw [if_pos w, if_pos (show nI (d 8 p) = 2 by rw [w]; rfl)]
        exact fin 2
      · rw [if_neg w, if_neg (fun u => w ((nl_eq (k := 2) (j := 2) rfl (by omega) (by omega)).mp u))]
        exact fin 1
    · rw [if_neg (fun u => q ((nI_ltI (by omega) (by omega)).mp u)), if_neg q]
      exact ⟨I3, rfl, by rw [up2_id (show s 5 p + 0 = s3 5 p by rw [s35, Nat.add_zero])]; exact c3, fr3⟩
  | false =>
    have g49 : D_X10_get sh.2.2 I1 L R 49 (nI p) = some (nI (s 4 p)) := by rw [← s14]; exact gt I1 s1 c1 4 (by omega) (by omega)
    have t49 : D_X10_put sh.2.2 I1 L R 49 (nI p) (nI (s 4 p + 1)) = some (up2 I1 49 p (nI (s 4 p + 1))) := pt I1 4 _ (by omega) (by omega)
    have c2 : CC (up2 I1 49 p (nI (s 4 p + 1))) L d (up2 s1 4 p (s 4 p + 1)) := c1.set (q := 4) (by omega) rfl
    have fr2 : ∀ i, i < 45 ∨ 50 < i → up2 I1 49 p (nI (s 4 p + 1)) i = I i := fun i hi => by rw [up2_ne (by omega)]; exact fr1 i hi
    rw [if_neg (show ¬ bI (!false) = 0 by decide), h.r 44 4 49 rfl, bs_, g49, bs_, nI_1, t49, bs_, if_neg (show ¬ false = true by decide)]
    generalize up2 I1 49 p (nI (s 4 p + 1)) = I2 at c2 fr2
    have s23 : up2 s1 4 p (s 4 p + 1) 3 p = s 3 p := by rw [up2_a (by omega), s13]
    generalize up2 s1 4 p (s 4 p + 1) = s2 at *
    have e4 : I2 a 4 = nI (laf d) := by rw [fr2 a (by omega)]; exact cl.1 4 (by omega)
    rw [e4]
    by_cases q : s 4 p + 1 < laf d
    · rw [if_pos ((nI_ltI (by omega) (by omega)).mpr q), if_pos q]
      exact ⟨I2, rfl, by rw [up2_id s23.symm]; exact c2, fr2⟩
    · have t48 : D_X10_put sh.2.2 I2 L R 48 (nI p) 0 = some (up2 I2 48 p 0) := pt I2 3 _ (by omega) (by omega)
      rw [if_neg (fun u => q ((nI_ltI (by omega) (by omega)).mp u)), if_neg q, h.r 44 3 48 rfl, bs_, t48, bs_]
      exact ⟨_, rfl, c2.set (q := 3) (by omega) rfl, fun i hi => by rw [up2_ne (by omega)]; exact fr2 i hi⟩
