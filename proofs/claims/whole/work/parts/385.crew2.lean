/-! a deed: the class's side -/
def itS (d : ld_T) (p : Nat) : Nat → cr_T → cr_T
  | 0, s => s
  | n + 1, s => mnS d (itS d p n s) p
/-- a deed of a kind, a person (a level), a direction: whether it can be; the state behind it -/
def perfS (d : ld_T) (k p x : Nat) (s : cr_T) : Bool × cr_T :=
  if k = 4 then (true, up2 s 6 0 p)
  else if lpp d ≤ p then (false, s)
  else if k = 0 then (match nx d (s 1 p) x with | none => (false, s) | some c => if s 2 p < 99 then (true, mnS d (up2 s 1 p c) p) else (false, s))
  else if k = 1 then (if slv d (s 6 0) (s 1 p) = true ∧ 0 < s 0 (s 1 p) ∧ s 2 p < 99 then (true, mnS d (up2 s 0 (s 1 p) (s 0 (s 1 p) - 1)) p) else (false, s))
  else if k = 2 then (if s 2 p < 99 then (true, mnS d s p) else (false, s))
  else if slv d (s 6 0) (s 1 p) = false ∧ s 2 p + laf d ≤ 99 then (true, itS d p (laf d) s) else (false, s)
theorem itS_c {d : ld_T} {p : Nat} {s : cr_T} : ∀ n, itS d p n s 2 p = s 2 p + n ∧ itS d p n s 1 p = s 1 p ∧ itS d p n s 6 0 = s 6 0
  | 0 => ⟨rfl, rfl, rfl⟩
  | n + 1 => by
    obtain ⟨a, b, c⟩ := itS_c (d := d) (p := p) (s := s) n
    refine ⟨?_, ?_, ?_⟩
    · show mnS d _ p 2 p = _
      rw [mnS_2, a]
      omega
    · show mnS d _ p 1 p = _
      rw [mnS_1, b]
    · show mnS d _ p 6 0 = _
      rw [mnS_6, c]
theorem itS_v {d : ld_T} {p : Nat} {s : cr_T} (v : VC d s) : ∀ n, s 2 p + n ≤ 99 → VC d (itS d p n s)
  | 0, _ => v
  | n + 1, h => mnS_v (itS_v v n (by omega)) (by rw [(itS_c n).1]; omega)
theorem VC.go {d : ld_T} {s : cr_T} (v : VC d s) {p c : Nat} (hc : c < cs_ d) : VC d (up2 s 1 p c) := by
  obtain ⟨v1, v2, v3⟩ := v
  refine ⟨by rw [up2_a (by omega)]; exact v1, fun i => by rw [up2_a (by omega)]; exact v2 i, fun q hq => ?_⟩
  obtain ⟨w1, w2, w3, w4, w5⟩ := v3 q hq
  rw [up2_a (show (2 : Nat) ≠ 1 by omega), up2_a (show (3 : Nat) ≠ 1 by omega), up2_a (show (4 : Nat) ≠ 1 by omega), up2_a (show (5 : Nat) ≠ 1 by omega)]
  refine ⟨?_, w2, w3, w4, w5⟩
  by_cases z : q = p
  · subst z
    rw [up2_s]
    exact hc
  · rw [up2_j z]
    exact w1
theorem VC.work {d : ld_T} {s : cr_T} (v : VC d s) {c w : Nat} (hw : w ≤ 20) : VC d (up2 s 0 c w) := by
  obtain ⟨v1, v2, v3⟩ := v
  refine ⟨by rw [up2_a (by omega)]; exact v1, fun i => ?_, fun q hq => ?_⟩
  · by_cases z : i = c
    · subst z
      rw [up2_s]
      exact hw
    · rw [up2_j z]
      exact v2 i
  · rw [up2_a (show (1 : Nat) ≠ 0 by omega), up2_a (show (2 : Nat) ≠ 0 by omega), up2_a (show (3 : Nat) ≠ 0 by omega), up2_a (show (4 : Nat) ≠ 0 by omega), up2_a (show (5 : Nat) ≠ 0 by omega)]
    exact v3 q hq
theorem VC.lev {d : ld_T} {s : cr_T} (v : VC d s) {l : Nat} (hl : l ≤ 9) : VC d (up2 s 6 0 l) := by
  obtain ⟨v1, v2, v3⟩ := v
  refine ⟨by rw [up2_s]; exact hl, fun i => by rw [up2_a (by omega)]; exact v2 i, fun q hq => ?_⟩
  rw [up2_a (show (1 : Nat) ≠ 6 by omega), up2_a (show (2 : Nat) ≠ 6 by omega), up2_a (show (3 : Nat) ≠ 6 by omega), up2_a (show (4 : Nat) ≠ 6 by omega), up2_a (show (5 : Nat) ≠ 6 by omega)]
  exact v3 q hq
theorem perfS_v {d : ld_T} (hd : VD d) {s : cr_T} (v : VC d s) {k p x : Nat} (h4 : k = 4 → p ≤ 9) : VC d (perfS d k p x s).2 := by
  unfold perfS
  by_cases k4 : k = 4
  · rw [if_pos k4]
    exact v.lev (h4 k4)
  rw [if_neg k4]
  by_cases hp : lpp d ≤ p
  · rw [if_pos hp]
    exact v
  rw [if_neg hp]
  obtain ⟨w1, w2, _⟩ := v.2.2 p (by omega)
  by_cases k0 : k = 0
  · rw [if_pos k0]
    cases e : nx d (s 1 p) x with
    | none => exact v
    | some c =>
      show VC d (if s 2 p < 99 then (true, mnS d (up2 s 1 p c) p) else (false, s)).2
      by_cases q : s 2 p < 99
      · rw [if_pos q]
        exact mnS_v (v.go (nx_lt hd w1 e)) (by rw [up2_a (by omega)]; exact q)
      · rw [if_neg q]
        exact v
  rw [if_neg k0]
  by_cases k1 : k = 1
  · rw [if_pos k1]
    by_cases q : slv d (s 6 0) (s 1 p) = true ∧ 0 < s 0 (s 1 p) ∧ s 2 p < 99
    · rw [if_pos q]
      exact mnS_v (v.work (by have := v.2.1 (s 1 p); omega)) (by rw [up2_a (by omega)]; exact q.2.2)
    · rw [if_neg q]
      exact v
  rw [if_neg k1]
  by_cases k2 : k = 2
  · rw [if_pos k2]
    by_cases q : s 2 p < 99
    · rw [if_pos q]
      exact mnS_v v q
    · rw [if_neg q]
      exact v
  rw [if_neg k2]
  by_cases q : slv d (s 6 0) (s 1 p) = false ∧ s 2 p + laf d ≤ 99
  · rw [if_pos q]
    exact itS_v v _ q.2
  · rw [if_neg q]
    exact v
theorem CC.lev {I : I_T} {L : L_T} {d : ld_T} {s : cr_T} (h : CC I L d s) {l : Nat} {x : Int64} (hx : isS x (Kd d (slv d l) false)) : CC (up2 I 44 6 (nI l)) (up2 L 44 7 x) d (up2 s 6 0 l) := by
  obtain ⟨a, b, c, e⟩ := h
  refine ⟨by rw [up2_s, up2_s], by rw [up2_s, up2_s]; exact hx, fun i hi => by rw [up2_a (by omega), up2_a (by omega)]; exact c i hi, fun q p h1 h5 hp => by rw [up2_a (by omega), up2_a (by omega)]; exact e q p h1 h5 hp⟩
theorem setLevel_ok {sh : sh_T} {I : I_T} {L : L_T} {R : R_T} {a : Nat} (ha : a < 39) {d : ld_T} (hd : VD d) (cl : CL I L a d) (lz : LZ sh.2.2 R a) {l : Nat} (hl : l ≤ 9) : ∃ x, D_X0_setLevel sh.2.2 I L R 44 a (nI l) = some (up2 I 44 6 (nI l), up2 L 44 7 x) ∧ isS x (Kd d (slv d l) false) := by
  have cl' : CL (up2 I 44 6 (nI l)) L a d := cl.keep (fun k hk => ⟨up2_ne (by omega), rfl⟩)
  obtain ⟨x, hx, xs⟩ := water_ok (Z := sh.2.2) (R := R) hd cl' lz hl
  exact ⟨x, by rw [D_X0_setLevel, bs_, hx, bs_, bs_], fun i hi => by rw [xs i hi, wat_kd]⟩
theorem Z44 {sh : sh_T} {I0 : I_T} {L0 : L_T} {R : R_T} (h : Inv sh I0 L0 R) {q : Nat} (h1 : 1 ≤ q) (h5 : q ≤ 5) : sh.2.2 (45 + q) = 5 := by
  have : q = 1 ∨ q = 2 ∨ q = 3 ∨ q = 4 ∨ q = 5 := by omega
  rcases this with rfl | rfl | rfl | rfl | rfl
  · exact h.z 46 5 rfl
  · exact h.z 47 5 rfl
  · exact h.z 48 5 rfl
  · exact h.z 49 5 rfl
  · exact h.z 50 5 rfl
theorem CC.get {sh : sh_T} {I0 I : I_T} {L0 L L' : L_T} {R : R_T} (h : Inv sh I0 L0 R) {d : ld_T} (hd : VD d) {s : cr_T} (c : CC I L d s) {q p : Nat} (h1 : 1 ≤ q) (h5 : q ≤ 5) (hp : p < lpp d) : D_X10_get sh.2.2 I L' R (45 + q) (nI p) = some (nI (s q p)) := by
  have p5 : lpp d ≤ 5 := hd.2.2.2.2.2.2.2.2.1
  rw [get_ok (by rw [Z44 h h1 h5]; omega) (by rw [Z44 h h1 h5]; decide), c.2.2.2 q p h1 h5 hp]
theorem perf40_ok {sh : sh_T} {I0 I : I_T} {L0 L : L_T} {R : R_T} (h : Inv sh I0 L0 R) {a : Nat} {d : ld_T} (hd : VD d) {s : cr_T} (cc : CC I L d s) (vc : VC d s) {p : Nat} (pl : p < lpp d) (x k : Int32) {mi : Nat} (hm : mi < 2 ^ 30) : D_X0_perform_40 sh.2.2 I L R 44 a k (nI p) x (nI mi) = (if 99 < s 2 p + mi then some (0, I, L) else if k = 0 then ((D_X0_go sh.2.2 I L R 44 a (nI p) x).bind fun q5 => if isb (q5.1) = true then some ((q5.1, q5.2, L)) else none) else (if k = (1) then ((D_X0_toil sh.2.2 I L R 44 a (nI p)).bind fun q7 => if isb (q7.1) = true then some ((q7.1, q7.2, L)) else none) else (if k = (2) then ((D_X0_pass sh.2.2 I L R 44 a (nI p)).bind fun q9 => some (((1), q9, L))) else (if k = (3) then ((D_X0_moor sh.2.2 I L R 44 a (nI p)).bind fun q10 => if isb (q10.1) = true then some ((q10.1, q10.2, L)) else none) else (some (((0), I, L))))))) := by
  have g47 : D_X10_get sh.2.2 I L R 47 (nI p) = some (nI (s 2 p)) := cc.get (q := 2) h hd (by omega) (by omega) pl
  obtain ⟨w1, w2, w3, w4, w5⟩ := vc.2.2 p pl
  rw [D_X0_perform_40, h.r 44 2 47 rfl, bs_, g47, bs_, nI_add, bs_]
  by_cases q : 99 < s 2 p + mi
  · rw [if_pos q, if_pos ((ln_lt (k := 99) (j := 99) rfl (by omega) (by omega)).mpr q)]
  · rw [if_neg q, if_neg (fun u => q ((ln_lt (k := 99) (j := 99) rfl (by omega) (by omega)).mp u))]
theorem go_ok {sh : sh_T} {I0 I : I_T} {L0 L : L_T} {R : R_T} (h : Inv sh I0 L0 R) {a : Nat} (ha : a < 39) {d : ld_T} (hd : VD d) (cl : CL I L a d) (lz : LZ sh.2.2 R a) {s : cr_T} (cc : CC I L d s) (vc : VC d s) {p x : Nat} (pl : p < lpp d) (hx : x < 4) (q : s 2 p < 99) : ∃ I', D_X0_go sh.2.2 I L R 44 a (nI p) (nI x) = some (bI (perfS d 0 p x s).1, I') ∧ CC I' L d (perfS d 0 p x s).2 ∧ ∀ i, i < 45 ∨ 50 < i → I' i = I i := by
  have h64 := cs_le hd
  have p5 : lpp d ≤ 5 := hd.2.2.2.2.2.2.2.2.1
  obtain ⟨w1, w2, w3, w4, w5⟩ := vc.2.2 p pl
  have g46 : D_X10_get sh.2.2 I L R 46 (nI p) = some (nI (s 1 p)) := cc.get (q := 1) h hd (by omega) (by omega) pl
  have pf : perfS d 0 p x s = (match nx d (s 1 p) x with | none => (false, s) | some c => (true, mnS d (up2 s 1 p c) p)) := by
    unfold perfS
    rw [if_neg (by omega), if_neg (by omega), if_pos rfl]
    cases nx d (s 1 p) x with
    | none => rfl
    | some c => exact if_pos q
  rw [pf, D_X0_go, h.r 44 1 46 rfl, bs_, g46, bs_, nextC_ok hd cl w1 (by omega), bs_]
  cases e : nx d (s 1 p) x with
  | none =>
    rw [if_pos (show oI none = -1 from rfl)]
    exact ⟨I, rfl, cc, fun _ _ => rfl⟩
  | some c =>
    have cl' := nx_lt hd w1 e
    have t46 : D_X10_put sh.2.2 I L R 46 (nI p) (oI (some c)) = some (up2 I 46 p (nI c)) := put_ok (by rw [h.z 46 5 rfl]; omega) (by rw [h.z 46 5 rfl]; decide) _
    have c1 : CC (up2 I 46 p (nI c)) L d (up2 s 1 p c) := cc.set (q := 1) (by omega) rfl
    obtain ⟨I', r1, r2, r3⟩ := pass_ok h (show a < 40 by omega) hd (cl.keep (I' := up2 I 46 p (nI c)) (fun k hk => ⟨up2_ne (by omega), rfl⟩)) lz c1 (vc.go cl') pl (by rw [up2_a (by omega)]; exact q)
    rw [if_neg (show ¬ oI (some c) = -1 from nI_neg1 (by omega)), t46, bs_, r1, bs_]
    exact ⟨I', rfl, r2, fun i hi => by rw [r3 i hi, up2_ne (by omega)]⟩
theorem toil_ok {sh : sh_T} {I0 I : I_T} {L0 L : L_T} {R : R_T} (h : Inv sh I0 L0 R) {a : Nat} (ha : a < 39) {d : ld_T} (hd : VD d) (cl : CL I L a d) (lz : LZ sh.2.2 R a) {s : cr_T} (cc : CC I L d s) (vc : VC d s) {p : Nat} (x : Nat) (pl : p < lpp d) (q : s 2 p < 99) : ∃ I', D_X0_toil sh.2.2 I L R 44 a (nI p) = some (bI (perfS d 1 p x s).1, I') ∧ CC I' L d (perfS d 1 p x s).2 ∧ ∀ i, i < 45 ∨ 50 < i → I' i = I i := by
  have h64 := cs_le hd
  obtain ⟨w1, w2, w3, w4, w5⟩ := vc.2.2 p pl
  have g46 : D_X10_get sh.2.2 I L R 46 (nI p) = some (nI (s 1 p)) := cc.get (q := 1) h hd (by omega) (by omega) pl
  have wt := cc.wet hd (c := s 1 p) w1 (Z := sh.2.2) (J := I) (R := R) (L' := L)
  have pf : perfS d 1 p x s = (if slv d (s 6 0) (s 1 p) = true ∧ 0 < s 0 (s 1 p) ∧ s 2 p < 99 then (true, mnS d (up2 s 0 (s 1 p) (s 0 (s 1 p) - 1)) p) else (false, s)) := by
    unfold perfS
    rw [if_neg (by omega), if_neg (by omega), if_neg (by omega), if_pos rfl]
  rw [pf, D_X0_toil, h.r 44 1 46 rfl, bs_, g46, bs_, wt, bs_]
  cases sl : slv d (s 6 0) (s 1 p) with
  | false =>
    rw [if_neg (show ¬ bI (!false) = 0 by decide), if_neg (fun u : false = true ∧ _ => by cases u.1)]
    exact ⟨I, rfl, cc, fun _ _ => rfl⟩
  | true =>
    have w20 := vc.2.1 (s 1 p)
    have g45 : D_X10_get sh.2.2 I L R 45 (nI (s 1 p)) = some (nI (s 0 (s 1 p))) := by rw [get_ok (by rw [h.z 45 64 rfl]; omega) (by rw [h.z 45 64 rfl]; decide), cc.2.2.1 _ w1]
    rw [if_pos (show bI (!true) = 0 from rfl), h.r 44 0 45 rfl, bs_, g45, bs_]
    by_cases q0 : 0 < s 0 (s 1 p)
    · have t45 : D_X10_put sh.2.2 I L R 45 (nI (s 1 p)) (nI (s 0 (s 1 p)) - 1) = some (up2 I 45 (s 1 p) (nI (s 0 (s 1 p) - 1))) := by rw [show (1 : Int32) = nI 1 from rfl, nI_sub (by omega)]; exact put_ok (by rw [h.z 45 64 rfl]; omega) (by rw [h.z 45 64 rfl]; decide) _
      have c1 : CC (up2 I 45 (s 1 p) (nI (s 0 (s 1 p) - 1))) L d (up2 s 0 (s 1 p) (s 0 (s 1 p) - 1)) := cc.set (q := 0) (by omega) rfl
      obtain ⟨I', r1, r2, r3⟩ := pass_ok h (show a < 40 by omega) hd (cl.keep (I' := up2 I 45 (s 1 p) (nI (s 0 (s 1 p) - 1))) (fun k hk => ⟨up2_ne (by omega), rfl⟩)) lz c1 (vc.work (by omega)) pl (by rw [up2_a (by omega)]; exact q)
      rw [if_pos ((ln_lt (k := 0) (j := 0) rfl (by omega) (by omega)).mpr q0), bs_, t45, bs_, r1, bs_, if_pos (show true = true ∧ 0 < s 0 (s 1 p) ∧ s 2 p < 99 from ⟨rfl, q0, q⟩)]
      exact ⟨I', rfl, r2, fun i hi => by rw [r3 i hi, up2_ne (by omega)]⟩
    · rw [if_neg (fun u => q0 ((ln_lt (k := 0) (j := 0) rfl (by omega) (by omega)).mp u)), if_neg (show ¬ (true = true ∧ 0 < s 0 (s 1 p) ∧ s 2 p < 99) from fun u => q0 u.2.1)]
      exact ⟨I, rfl, cc, fun _ _ => rfl⟩
theorem moor_ok {sh : sh_T} {I0 I : I_T} {L0 L : L_T} {R : R_T} (h : Inv sh I0 L0 R) {a : Nat} (ha : a < 39) {d : ld_T} (hd : VD d) (cl : CL I L a d) (lz : LZ sh.2.2 R a) {s : cr_T} (cc : CC I L d s) (vc : VC d s) {p : Nat} (x : Nat) (pl : p < lpp d) (q : s 2 p + laf d ≤ 99) : ∃ I', D_X0_moor sh.2.2 I L R 44 a (nI p) = some (bI (perfS d 3 p x s).1, I') ∧ CC I' L d (perfS d 3 p x s).2 ∧ ∀ i, i < 45 ∨ 50 < i → I' i = I i := by
  have h64 := cs_le hd
  have a20 : laf d ≤ 20 := hd.2.2.2.2.2.2.2.1
  have e4 : I a 4 = nI (laf d) := cl.1 4 (by omega)
  obtain ⟨w1, w2, w3, w4, w5⟩ := vc.2.2 p pl
  have g46 : D_X10_get sh.2.2 I L R 46 (nI p) = some (nI (s 1 p)) := cc.get (q := 1) h hd (by omega) (by omega) pl
  have wt := cc.wet hd (c := s 1 p) w1 (Z := sh.2.2) (J := I) (R := R) (L' := L)
  have pf : perfS d 3 p x s = (if slv d (s 6 0) (s 1 p) = false ∧ s 2 p + laf d ≤ 99 then (true, itS d p (laf d) s) else (false, s)) := by
    unfold perfS
    rw [if_neg (by omega), if_neg (by omega), if_neg (by omega), if_neg (by omega), if_neg (by omega)]
  rw [pf, D_X0_moor, h.r 44 1 46 rfl, bs_, g46, bs_, wt, bs_]
  cases sl : slv d (s 6 0) (s 1 p) with
  | true =>
    rw [if_pos (show bI (!true) = 0 from rfl), if_neg (show ¬ (true = false ∧ s 2 p + laf d ≤ 99) from fun u => by cases u.1)]
    exact ⟨I, rfl, cc, fun _ _ => rfl⟩
  | false =>
    rw [if_neg (show ¬ bI (!false) = 0 by decide), if_pos (show false = false ∧ s 2 p + laf d ≤ 99 from ⟨rfl, q⟩)]
    have loop : ∀ m i, i + m = laf d → ∀ K : I_T, CC K L d (itS d p i s) → (∀ j, j < 45 ∨ 50 < j → K j = I j) → ∃ I', itC (B_X0_moor_22 sh.2.2 I L R 44 a (nI p)) (nI i, K) = some (1, I') ∧ CC I' L d (itS d p (laf d) s) ∧ ∀ j, j < 45 ∨ 50 < j → I' j = I j := by
      intro m
      induction m with
      | zero =>
        intro i hi K c1 f1
        have : i = laf d := by omega
        subst this
        refine ⟨K, itC_inr ?_, c1, f1⟩
        unfold B_X0_moor_22
        simp only [f1 a (by omega), e4]
        rw [if_neg Int32.lt_irrefl]
      | succ m ih =>
        intro i hi K c1 f1
        obtain ⟨I', r1, r2, r3⟩ := pass_ok h (show a < 40 by omega) hd (cl.keep (I' := K) (fun k hk => ⟨f1 _ (by omega), rfl⟩)) lz c1 (itS_v vc i (by omega)) pl (by rw [(itS_c i).1]; omega)
        obtain ⟨I'', A, B⟩ := ih (i + 1) (by omega) I' r2 (fun j hj => by rw [r3 j hj]; exact f1 j hj)
        refine ⟨I'', (itC_inl ?_).trans A, B⟩
        unfold B_X0_moor_22
        simp only [f1 a (by omega), e4]
        rw [if_pos ((nI_ltI (by omega) (by omega)).mpr (by omega)), r1, bs_, nI_1]
    exact loop (laf d) 0 (by omega) I cc (fun _ _ => rfl)
theorem perfS_no {d : ld_T} {k p x : Nat} {s : cr_T} (hp : p < lpp d) (hk : k < 4) (h : 99 < s 2 p + (if k = 3 then laf d else 1)) : perfS d k p x s = (false, s) := by
  unfold perfS
  rw [if_neg (by omega), if_neg (by omega)]
  have : k = 0 ∨ k = 1 ∨ k = 2 ∨ k = 3 := by omega
  rcases this with rfl | rfl | rfl | rfl
  · rw [if_pos rfl]
    rw [if_neg (by omega)] at h
    cases nx d (s 1 p) x with
    | none => rfl
    | some c => exact if_neg (by omega)
  · rw [if_neg (by omega)] at h
    rw [if_neg (by omega), if_pos rfl, if_neg (fun u => by have := u.2.2; omega)]
  · rw [if_neg (by omega)] at h
    rw [if_neg (by omega), if_neg (by omega), if_pos rfl, if_neg (by omega)]
  · rw [if_pos rfl] at h
    rw [if_neg (by omega), if_neg (by omega), if_neg (by omega), if_neg (fun u => by have := u.2; omega)]
theorem perform_ok {sh : sh_T} {I0 I : I_T} {L0 L : L_T} {R : R_T} (h : Inv sh I0 L0 R) {a : Nat} (ha : a < 39) {d : ld_T} (hd : VD d) (cl : CL I L a d) (lz : LZ sh.2.2 R a) {s : cr_T} (cc : CC I L d s) (vc : VC d s) {k p xn : Nat} {x : Int32} (hk : k ≤ 4) (hp : p < 2 ^ 31) (h4 : k = 4 → p ≤ 9) (h0 : k = 0 → x = nI xn ∧ xn < 4) : ∃ I' L', D_X0_perform sh.2.2 I L R 44 a (nI k) (nI p) x = some (bI (perfS d k p xn s).1, I', L') ∧ CC I' L' d (perfS d k p xn s).2 ∧ (∀ i, i < 44 ∨ 50 < i → I' i = I i) ∧ (∀ j, j ≠ 6 → I' 44 j = I 44 j) ∧ ∀ i, i ≠ 44 → L' i = L i := by
  have a20 : laf d ≤ 20 := hd.2.2.2.2.2.2.2.1
  have p5 : lpp d ≤ 5 := hd.2.2.2.2.2.2.2.2.1
  have e5 : I a 5 = nI (lpp d) := cl.1 5 (by omega)
  have e4 : I a 4 = nI (laf d) := cl.1 4 (by omega)
  rw [D_X0_perform]
  by_cases k4 : k = 4
  · obtain ⟨y, y1, y2⟩ := setLevel_ok (sh := sh) ha hd cl lz (h4 k4)
    have pf : perfS d k p xn s = (true, up2 s 6 0 p) := by unfold perfS; rw [if_pos k4]
    rw [pf, if_pos (show nI k = 4 by rw [k4]; rfl), y1, bs_]
    exact ⟨up2 I 44 6 (nI p), up2 L 44 7 y, rfl, cc.lev y2, fun i hi => up2_ne (by omega), fun j hj => up2_j hj, fun i hi => up2_ne hi⟩
  rw [if_neg (fun u => k4 ((nl_eq (k := 4) (j := 4) rfl (by omega) (by omega)).mp u)), if_neg (nI_pos hp), e5, e4]
  by_cases hpp : lpp d ≤ p
  · have pf : perfS d k p xn s = (false, s) := by unfold perfS; rw [if_neg k4, if_pos hpp]
    rw [pf, if_neg (fun u => by have := (nI_ltI hp (by omega)).mp u; omega)]
    exact ⟨I, L, rfl, cc, fun _ _ => rfl, fun _ _ => rfl, fun _ _ => rfl⟩
  have pl : p < lpp d := by omega
  have e34 : (if nI k = 3 then D_X0_perform_40 sh.2.2 I L R 44 a (nI k) (nI p) x (nI (laf d)) else D_X0_perform_40 sh.2.2 I L R 44 a (nI k) (nI p) x 1) = D_X0_perform_40 sh.2.2 I L R 44 a (nI k) (nI p) x (nI (if k = 3 then laf d else 1)) := by
    by_cases k3 : k = 3
    · rw [if_pos k3, if_pos (show nI k = 3 by rw [k3]; rfl)]
    · rw [if_neg k3, if_neg (fun u => k3 ((nl_eq (k := 3) (j := 3) rfl (by omega) (by omega)).mp u))]
      rfl
  rw [if_pos ((nI_ltI hp (by omega)).mpr pl), e34, perf40_ok h hd cc vc pl x (nI k) (by split <;> omega)]
  by_cases q : 99 < s 2 p + (if k = 3 then laf d else 1)
  · rw [if_pos q, perfS_no pl (by omega) q]
    exact ⟨I, L, rfl, cc, fun _ _ => rfl, fun _ _ => rfl, fun _ _ => rfl⟩
  rw [if_neg q]
  have kk : k = 0 ∨ k = 1 ∨ k = 2 ∨ k = 3 := by omega
  rcases kk with rfl | rfl | rfl | rfl
  · rw [if_neg (show ¬ (0 : Nat) = 3 by decide)] at q
    obtain ⟨hx, x4⟩ := h0 rfl
    obtain ⟨I', r1, r2, r3⟩ := go_ok h ha hd cl lz cc vc pl x4 (by omega)
    rw [hx, if_pos (show nI 0 = 0 from rfl), r1, bs_, if_pos (bI_isb _)]
    exact ⟨I', L, rfl, r2, fun i hi => r3 i (by omega), fun j _ => by rw [r3 44 (by omega)], fun _ _ => rfl⟩
  · rw [if_neg (show ¬ (1 : Nat) = 3 by decide)] at q
    obtain ⟨I', r1, r2, r3⟩ := toil_ok h ha hd cl lz cc vc xn pl (by omega)
    rw [if_neg (show ¬ nI 1 = 0 by decide), if_pos (show nI 1 = 1 from rfl), r1, bs_, if_pos (bI_isb _)]
    exact ⟨I', L, rfl, r2, fun i hi => r3 i (by omega), fun j _ => by rw [r3 44 (by omega)], fun _ _ => rfl⟩
  · rw [if_neg (show ¬ (2 : Nat) = 3 by decide)] at q
    obtain ⟨I', r1, r2, r3⟩ := pass_ok h (show a < 40 by omega) hd cl lz cc vc pl (by omega)
    have pf : perfS d 2 p xn s = (true, mnS d s p) := by
      unfold perfS
      rw [if_neg (by omega), if_neg (by omega), if_neg (by omega), if_neg (by omega), if_pos rfl, if_pos (by omega)]
    rw [pf, if_neg (show ¬ nI 2 = 0 by decide), if_neg (show ¬ nI 2 = 1 by decide), if_pos (show nI 2 = 2 from rfl), r1, bs_]
    exact ⟨I', L, rfl, r2, fun i hi => r3 i (by omega), fun j _ => by rw [r3 44 (by omega)], fun _ _ => rfl⟩
  · rw [if_pos (show (3 : Nat) = 3 from rfl)] at q
    obtain ⟨I', r1, r2, r3⟩ := moor_ok h ha hd cl lz cc vc xn pl (by omega)
    rw [if_neg (show ¬ nI 3 = 0 by decide), if_neg (show ¬ nI 3 = 1 by decide), if_neg (show ¬ nI 3 = 2 by decide), if_pos (show nI 3 = 3 from rfl), r1, bs_, if_pos (bI_isb _)]
    exact ⟨I', L, rfl, r2, fun i hi => r3 i (by omega), fun j _ => by rw [r3 44 (by omega)], fun _ _ => rfl⟩
