/-! errands: the class's search, whole -/
theorem spread_go {Z : Nat → Nat} {I0 : I_T} {L0 : L_T} {R : R_T} {p q a : Nat} {d : ld_T} {lim E c0 m : Nat} (g : SpG Z (pr_ R p q) p q a d lim E I0 L0) (h0 : c0 < cs_ d) {B N : Nat → Nat} (ev : EIv d lim E c0 m p q I0 L0 B N) : ∃ I' L' B' N', D_X1_spread Z I0 L0 (pr_ R p q) 51 a = some (I', L', pr_ R q p) ∧ EIv d lim E c0 (m + 1) q p I' L' B' N' ∧ SpG Z (pr_ R q p) q p a d lim E I' L' ∧ (∀ i, i ≠ 52 → i ≠ 53 → i ≠ 54 → I' i = I0 i) ∧ ∀ i, i ≠ 51 → L' i = L0 i := by
  obtain ⟨I', L', B', N', k1, k2, k3, k4, k5⟩ := spread_ok g h0 ev
  rw [pr_pr] at k1
  obtain ⟨gp, ⟨r0, r1, r2⟩, ⟨z52, zp, zq⟩, ⟨ha, hd, cl⟩, hw, hl, e7, e8, e9⟩ := g
  have f : ∀ i, i ≠ 52 → i ≠ 53 → i ≠ 54 → I' i = I0 i := fun i i1 i2 i3 => k3 i i1 (by omega) (by omega)
  have f51 : I' 51 = I0 51 := f 51 (by omega) (by omega) (by omega)
  refine ⟨I', L', B', N', k1, k2, ⟨by omega, ⟨by rw [pr_0]; rw [pr_0] at r0; exact r0, pr_1, pr_2⟩, ⟨z52, zq, zp⟩, ⟨ha, hd, cl.keep fun i hi => ⟨f _ (by omega) (by omega) (by omega), k4 _ (by omega)⟩⟩, by rw [k5]; exact hw, hl, by rw [f51]; exact e7, by rw [f51]; exact e8, by rw [f51]; exact e9⟩, f, k4⟩
theorem search_loop {Z : Nat → Nat} {I0 : I_T} {L0 : L_T} {R : R_T} {a : Nat} {d : ld_T} {lim E c0 n : Nat} (h0 : c0 < cs_ d) (hn : n < 2 ^ 30) {to : Option Nat} (ht : ∀ c, to = some c → c < cs_ d) (I9 : I_T) (L9 : L_T) (R9 : R_T) : ∀ u m, m + u = n → ∀ (I : I_T) (L : L_T) (p q : Nat) (B N : Nat → Nat), SpG Z (pr_ R p q) p q a d lim E I L → EIv d lim E c0 m p q I L B N → (∀ i, i ≠ 52 → i ≠ 53 → i ≠ 54 → I i = I0 i) → (∀ i, i ≠ 51 → L i = L0 i) → (∀ c, to = some c → ∀ t, t ≤ m → ¬ ∃ on r, Rg d lim E c0 t c on r) → ∃ I' L' p' q' ans, itC (B_X1_search_18 Z I9 L9 R9 51 a (oI to) (nI n)) (nI (m + 1), I, L, pr_ R p q) = some (ans, I', L', pr_ R p' q') ∧ ((p' = 53 ∧ q' = 54) ∨ (p' = 54 ∧ q' = 53)) ∧ (∀ i, i ≠ 52 → i ≠ 53 → i ≠ 54 → I' i = I0 i) ∧ (∀ i, i ≠ 51 → L' i = L0 i) ∧ ((∃ c t, to = some c ∧ 0 < t ∧ t ≤ n ∧ (∃ on r, Rg d lim E c0 t c on r) ∧ (∀ t', t' < t → ¬ ∃ on r, Rg d lim E c0 t' c on r) ∧ ans = nI t) ∨ (ans = -1 ∧ (∀ c, to = some c → ∀ t, t ≤ n → ¬ ∃ on r, Rg d lim E c0 t c on r) ∧ ∀ c, c < 64 → (tb (L' 51 3) c = true ↔ ∃ t, t ≤ n ∧ ∃ on r, Rg d lim E c0 t c on r))) := by
  intro u
  induction u with
  | zero =>
    intro m hm I L p q B N g ev f1 f2 no
    have : m = n := by omega
    subst this
    obtain ⟨gp, _, _, ⟨ha, hd, cl⟩, _, ⟨l60, E20⟩, _⟩ := g
    refine ⟨I, L, p, q, -1, itC_inr ?_, gp, f1, f2, Or.inr ⟨rfl, no, fun c hc => EIv.seen hd l60 E20 h0 ev hc⟩⟩
    unfold B_X1_search_18
    dsimp only
    rw [if_pos ((nI_ltI (by omega) (by omega)).mpr (by omega))]
  | succ u ih =>
    intro m hm I L p q B N g ev f1 f2 no
    obtain ⟨gp, _, _, ⟨ha, hd, cl⟩, _, ⟨l60, E20⟩, _⟩ := id g
    have h64 := cs_le hd
    have nl : ¬ nI n < nI (m + 1) := fun u => by
      have := (nI_ltI (by omega) (by omega)).mp u
      omega
    by_cases z : L 51 4 = 0
    · refine ⟨I, L, p, q, -1, itC_inr ?_, gp, f1, f2, Or.inr ⟨rfl, fun c e t htn ⟨on, r, hr⟩ => ?_, fun c hc => ?_⟩⟩
      · unfold B_X1_search_18
        dsimp only
        rw [if_neg nl, if_pos z]
      · have c2 := ht c e
        obtain ⟨t', t1, t2⟩ := (EIv.seen hd l60 E20 h0 ev (show c < 64 by omega)).mp (EIv.all hd l60 E20 h0 ev z (show c < 64 by omega) hr)
        exact no c e t' t1 t2
      · constructor
        · intro u
          obtain ⟨t', t1, t2⟩ := (EIv.seen hd l60 E20 h0 ev hc).mp u
          exact ⟨t', by omega, t2⟩
        · rintro ⟨t', _, on, r, hr⟩
          exact EIv.all hd l60 E20 h0 ev z hc hr
    · obtain ⟨I1, L1, B1, N1, k1, k2, k3, k4, k5⟩ := spread_go g h0 ev
      have f1' : ∀ i, i ≠ 52 → i ≠ 53 → i ≠ 54 → I1 i = I0 i := fun i i1 i2 i3 => by rw [k4 i i1 i2 i3]; exact f1 i i1 i2 i3
      have f2' : ∀ i, i ≠ 51 → L1 i = L0 i := fun i hi => by rw [k5 i hi]; exact f2 i hi
      by_cases y : ∃ c, to = some c ∧ tb (L1 51 3) c = true
      · obtain ⟨c, e, tc⟩ := y
        have c2 := ht c e
        obtain ⟨t, t1, t2⟩ := (EIv.seen hd l60 E20 h0 k2 (show c < 64 by omega)).mp tc
        have tm : t = m + 1 := Classical.byContradiction fun v => no c e t (by omega) t2
        subst tm
        refine ⟨I1, L1, q, p, nI (m + 1), itC_inr ?_, by omega, f1', f2', Or.inl ⟨c, m + 1, e, by omega, by omega, t2, fun t' h' => no c e t' (by omega), rfl⟩⟩
        unfold B_X1_search_18
        dsimp only
        rw [if_neg nl, if_neg z, k1, bs_, e, show oI (some c) = nI c from rfl, has_ok (by omega), bs_, tc, if_neg (show ¬ bI true = 0 by decide)]
      · obtain ⟨I', L', p', q', ans, j1, j2⟩ := ih (m + 1) (by omega) I1 L1 q p B1 N1 k3 k2 f1' f2' (fun c e t t1 t2 => y ⟨c, e, (EIv.seen hd l60 E20 h0 k2 (show c < 64 from by have := ht c e; omega)).mpr ⟨t, t1, t2⟩⟩)
        refine ⟨I', L', p', q', ans, (itC_inl ?_).trans j1, j2⟩
        have hs : D_X10_has Z I1 L1 (pr_ R q p) (L1 51 3) (oI to) = some 0 := by
          cases e : to with
          | none => exact has_no (Or.inl (by decide))
          | some c =>
            have c2 := ht c e
            rw [show oI (some c) = nI c from rfl, has_ok (by omega), Bool.not_eq_true _ |>.mp fun v => y ⟨c, e, v⟩]
            rfl
        unfold B_X1_search_18
        dsimp only
        rw [if_neg nl, if_neg z, k1, bs_]
        dsimp only
        rw [hs, bs_, if_pos rfl, nI_1]
theorem prepare_ok {Z : Nat → Nat} {I : I_T} {L : L_T} {R : R_T} {p q a : Nat} (gp : (p = 53 ∧ q = 54) ∨ (p = 54 ∧ q = 53)) (r0 : R 51 0 = some 52) (r1 : R 51 1 = some p) (r2 : R 51 2 = some q) (z52 : Z 52 = 1344) (zp : Z p = 1344) (zq : Z q = 1344) (ha : a < 45) {d : ld_T} (hd : VD d) (cl : CL I L a d) (lz : LZ Z R a) {kd : Nat} (hk : kd ≤ 2) {c0 : Nat} (h0 : c0 < cs_ d) : ∃ I' L' B N, D_X1_prepare Z I L R 51 a (nI kd) (nI c0) = some (I', L') ∧ SpG Z R p q a d (lim_ d kd) (max (laf d) 1) I' L' ∧ EIv d (lim_ d kd) (max (laf d) 1) c0 0 p q I' L' B N ∧ (∀ i, i < 51 ∨ 54 < i → I' i = I i) ∧ ∀ i, i ≠ 51 → L' i = L i := by
  have h64 := cs_le hd
  have l20 := hd.2.2.2.2.2.2.2.1
  have ll := lim_le hd kd
  obtain ⟨A, a1, a2, a3, _⟩ := fill_ok (Z := Z) (I := I) (L := L) (R := R) (a := 52) (v := 99) (by rw [z52]; decide)
  obtain ⟨A', b1, b2, b3, _⟩ := fill_ok (Z := Z) (I := A) (L := L) (R := R) (a := p) (v := 99) (by rw [zp]; decide)
  obtain ⟨C, c1, c2, c3, _⟩ := fill_ok (Z := Z) (I := A') (L := L) (R := R) (a := q) (v := 99) (by rw [zq]; decide)
  have fC : ∀ i, i ≠ 52 → i ≠ 53 → i ≠ 54 → C i = I i := fun i i1 i2 i3 => by rw [c2 i (by omega), b2 i (by omega), a2 i i1]
  have clC : CL C L a d := cl.keep fun i hi => ⟨fC _ (by omega) (by omega) (by omega), rfl⟩
  have e2 : C a 2 = nI (lv d) := clC.1 2 (by omega)
  have e4 : C a 4 = nI (laf d) := clC.1 4 (by omega)
  obtain ⟨W, w1, w2⟩ := water_ok (Z := Z) (R := R) hd clC lz (l := lv d) hd.2.2.2.2.1
  generalize hL : up2 L 51 6 W = L6
  have cl6 : CL C L6 a d := clC.keep fun i hi => ⟨rfl, by rw [← hL, up2_ne (by omega)]⟩
  have li := limit_ok (Z := Z) (R := R) hd cl6 hk
  have mx : imax (nI (laf d)) 1 = nI (max (laf d) 1) := by
    unfold imax
    by_cases z : laf d < 1
    · rw [if_pos ((nl_lt (k := 1) (j := 1) rfl (by omega) (by omega)).mpr z), show max (laf d) 1 = 1 by omega]
      rfl
    · rw [if_neg (fun u => z ((nl_lt (k := 1) (j := 1) rfl (by omega) (by omega)).mp u)), show max (laf d) 1 = laf d by omega]
  generalize hJ : up2 (up2 (up2 C 51 7 (nI (lim_ d kd))) 51 8 (nI (laf d))) 51 9 (nI (max (laf d) 1)) = J
  have jf : ∀ i, i ≠ 51 → J i = C i := fun i hi => by rw [← hJ, up2_ne hi, up2_ne hi, up2_ne hi]
  have e21 : nI c0 * 21 = nI (21 * c0) := by rw [show (21 : Int32) = nI 21 from rfl, nI_mul, Nat.mul_comm]
  have run : D_X1_prepare Z I L R 51 a (nI kd) (nI c0) = some (up2 (up2 J 52 (21 * c0) 0) p (21 * c0) 0, up2 (up2 L6 51 3 (bit_ c0)) 51 4 (bit_ c0)) := by
    rw [D_X1_prepare, r0, bs_, a1, bs_, r1, bs_, b1, bs_, r2, bs_, c1, bs_, e2, w1, bs_, bs_, hL, li, bs_, bs_, up2_ne (show a ≠ 51 by omega), e4, bs_, up2_s, mx, bs_, hJ, e21, put_ok (by omega) (by omega), bs_, put_ok (by omega) (by omega), bs_, bit_ok (by omega), bs_, bs_, up2_s, bs_]
  have wat_ : ∀ c, c < cs_ d → tb W c = !slv d (lv d) c := fun c hc => by
    rw [w2 c (by omega)]
    unfold wat slv
    rw [decide_eq_true hc, Bool.true_and]
    by_cases z : d 6 c ≤ lv d
    · rw [decide_eq_true z, decide_eq_false (by omega)]
      rfl
    · rw [decide_eq_false z, decide_eq_true (by omega)]
      rfl
  have fin : ∀ i, i ≠ 52 → i ≠ p → up2 (up2 J 52 (21 * c0) 0) p (21 * c0) 0 i = J i := fun i h1 h2 => by rw [up2_ne h2, up2_ne h1]
  have v99 : nI 99 = 99 := rfl
  have bt : ∀ c, c < 64 → (tb (bit_ c0) c = true ↔ ∃ x, x < 21 ∧ (if 21 * c + x = 21 * c0 then 0 else 99) ≠ 99) := fun c hc => by
    rw [tb_bit c hc, decide_eq_true_eq]
    constructor
    · rintro rfl
      exact ⟨0, by omega, by rw [if_pos (Nat.add_zero _)]; decide⟩
    · rintro ⟨x, x1, x2⟩
      by_cases y : 21 * c + x = 21 * c0
      · omega
      · rw [if_neg y] at x2
        exact (x2 rfl).elim
  refine ⟨_, _, fun j => if j = 21 * c0 then 0 else 99, fun j => if j = 21 * c0 then 0 else 99, run, ⟨gp, ⟨r0, r1, r2⟩, ⟨z52, zp, zq⟩, ⟨ha, hd, cl6.keep fun i hi => ⟨by rw [fin _ (by omega) (by omega), jf _ (by omega)], by rw [up2_ne (by omega), up2_ne (by omega)]⟩⟩, fun c hc => ?_, ⟨ll.2, by omega⟩, ?_, ?_, ?_⟩, ⟨fun j hj => ⟨?_, ?_, ?_⟩, fun j hj => ?_, fun c hc => ?_, fun c hc => ?_, fun j hj hn => ?_, fun j hj hn => ?_, fun j hj hn => Or.inl rfl, fun t ht c a' x hr => ?_⟩, fun i hi => ?_, fun i hi => ?_⟩
  · rw [up2_j (by omega), up2_j (by omega), ← hL, up2_s]
    exact wat_ c hc
  · rw [fin 51 (by omega) (by omega), ← hJ, up2_j (by omega), up2_j (by omega), up2_s]
  · rw [fin 51 (by omega) (by omega), ← hJ, up2_j (by omega), up2_s]
  · rw [fin 51 (by omega) (by omega), ← hJ, up2_s]
  · dsimp only
    rw [up2_ne (by omega)]
    by_cases y : j = 21 * c0
    · rw [y, up2_s, if_pos rfl]
      rfl
    · rw [up2_j y, if_neg y, jf 52 (by omega), c2 52 (by omega), b2 52 (by omega)]
      exact a3 j (by omega)
  · dsimp only
    by_cases y : j = 21 * c0
    · rw [y, up2_s, if_pos rfl]
      rfl
    · rw [up2_j y, if_neg y, up2_ne (by omega), jf p (by omega), c2 p (by omega)]
      exact b3 j (by omega)
  · rw [fin q (by omega) (by omega), jf q (by omega)]
    exact c3 j (by omega)
  · dsimp only
    by_cases y : j = 21 * c0
    · rw [if_pos y]
      exact ⟨by omega, by omega, fun _ => ⟨by omega, by omega, by omega⟩⟩
    · rw [if_neg y]
      exact ⟨by omega, by omega, fun u => (u rfl).elim⟩
  · rw [up2_s]
    exact bt c hc
  · rw [up2_j (by omega), up2_s]
    exact bt c hc
  · dsimp only at hn ⊢
    by_cases y : j = 21 * c0
    · rw [if_pos y]
      exact ⟨by omega, rfl, by omega⟩
    · rw [if_neg y] at hn
      exact (hn rfl).elim
  · dsimp only at hn ⊢
    by_cases y : j = 21 * c0
    · rw [if_pos y]
      exact ⟨0, Nat.le_refl _, by omega, rfl, by omega⟩
    · rw [if_neg y] at hn
      exact (hn rfl).elim
  · have : t = 0 := by omega
    subst this
    obtain ⟨q1, q2, q3⟩ := hr
    subst q1
    subst q3
    dsimp only
    rw [if_pos (by omega)]
    omega
  · rw [fin i (by omega) (by omega), jf i (by omega)]
    exact fC i (by omega) (by omega) (by omega)
  · rw [up2_ne hi, up2_ne hi, ← hL, up2_ne hi]
