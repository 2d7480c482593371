/-! sights: the class's search, whole -/
/-- the start's row -/
def V0_ (s : Nat → Bool) (ok : Nat → Nat → Bool) (c0 j : Nat) : Int64 := if ok 0 c0 = true ∧ j = 14 * c0 + now_ s c0 0 then 1 else 0
theorem seek_ok {Z : Nat → Nat} {I : I_T} {L : L_T} {R : R_T} {a b : Nat} (ha : a < 50) (hb : b < 50) {d : ld_T} (hd : VD d) (cl : CL I L a d) (lz : LZ Z R a) {n0 x y : Nat} {e : Nat → Nat → Int32} (v : VSight n0 x y e) (hs : CS I b n0 x y e) (rb : R b 0 = some (b + 1)) (zb : Z (b + 1) = 40) (r0 : R 59 0 = some 60) (z60 : Z 60 = 13) (z61 : Z 61 = 896) (z62 : Z 62 = 896) (al : allIn d n0 x y e) {p q : Nat} (pq : (p = 61 ∧ q = 62) ∨ (p = 62 ∧ q = 61)) (r1 : R 59 1 = some p) (r2 : R 59 2 = some q) {ok : Nat → Nat → Bool} (hok : ∀ t c, ok t c = true ↔ okF d n0 e t c) {n : Nat} (hn : n ≤ 12) {w : Int32} {mk : Bool} (hmk : mk = true ↔ w ≠ -1) {m : Nat → Bool} (hm : ∀ t, t ≤ n → (w = nI t ↔ m t = true)) : ∃ I' L' p' q', D_X7_seek Z I L R 59 a b (nI n) w = some (I', L', pq_ R p' q') ∧ ((p' = 61 ∧ q' = 62) ∨ (p' = 62 ∧ q' = 61)) ∧ (∀ i, i ≠ 59 → I' i = I i) ∧ (∀ i, i ≠ 59 → i ≠ 60 → i ≠ 61 → i ≠ 62 → L' i = L i) ∧ ∀ j, j < 896 → L' p' j = vs mk m (PT d (slv d (lv d)) ok) (V0_ (slv d (lv d)) ok (lw d * y + x)) n j := by
  have h64 := cs_le hd
  have c0 : lw d * y + x < cs_ d := by
    have := al.1.1
    show _ < lw d * lh d
    have h2 : lw d * (y + 1) ≤ lw d * lh d := Nat.mul_le_mul_left _ al.1.2
    rw [Nat.mul_add, Nat.mul_one] at h2
    omega
  have c64 : lw d * y + x < 64 := by omega
  generalize hI1 : up2 (up2 I 59 3 (bI mk)) 59 5 (nI (lhr d)) = I1
  have i1 : ∀ i, i ≠ 59 → I1 i = I i := fun i hi => by rw [← hI1, up2_ne hi, up2_ne hi]
  have i3 : I1 59 3 = bI mk := by rw [← hI1, up2_j (by omega), up2_s]
  have i5 : I1 59 5 = nI (lhr d) := by rw [← hI1, up2_s]
  have clI : CL (up2 I 59 3 (bI mk)) L a d := cl.keep fun k hk => ⟨up2_ne (by omega), rfl⟩
  have e2 : up2 I 59 3 (bI mk) a 2 = nI (lv d) := by rw [up2_ne (by omega)]; exact cl.1 2 (by omega)
  obtain ⟨W, w1, w2⟩ := water_ok (Z := Z) (R := R) hd clI lz (l := lv d) hd.2.2.2.2.1
  have cl4 : CL I1 (up2 L 59 4 W) a d := cl.keep fun k hk => ⟨i1 _ (by omega), up2_ne (by omega)⟩
  have hs4 : CS I1 b n0 x y e := hs.keep (i1 _ (by omega)) (i1 _ (by omega))
  obtain ⟨A, a1, a2, a3⟩ := allow_ok (Z := Z) (L := up2 L 59 4 W) (R := R) ha hb hd cl4 v hs4 rb zb r0 z60 al
  have zp : Z p = 896 := by rcases pq with ⟨e, _⟩ | ⟨e, _⟩ <;> rw [e] <;> assumption
  obtain ⟨M, m1, m2, m3, m4⟩ := fillL_ok (Z := Z) (I := I1) (L := A) (R := R) (a := p) (v := 0) (by rw [zp]; decide)
  have mL : ∀ i, i ≠ 59 → i ≠ 60 → i ≠ 61 → i ≠ 62 → M i = L i := fun i j1 j2 j3 j4 => by rw [m2 i (by omega), a2 i j2, up2_ne j1]
  have m60 : M 60 = A 60 := m2 60 (by omega)
  have m59 : M 59 4 = W := by rw [m2 59 (by omega), a2 59 (by omega), up2_s]
  have hw : ∀ c, c < cs_ d → tb W c = !slv d (lv d) c := fun c hc => by
    rw [w2 c (by omega)]
    unfold wat slv
    rw [decide_eq_true hc, Bool.true_and]
    by_cases z : d 6 c ≤ lv d
    · rw [decide_eq_true z, decide_eq_false (by omega)]
      rfl
    · rw [decide_eq_false z, decide_eq_true (by omega)]
      rfl
  generalize slv d (lv d) = s at hw ⊢
  have h0 : ∀ k, V0_ s ok (lw d * y + x) k ≠ 0 → k / 14 < cs_ d ∧ k % 14 ≤ 1 := fun k hk => by
    unfold V0_ at hk
    have nb := @now_le s (lw d * y + x) 0
    by_cases z : ok 0 (lw d * y + x) = true ∧ k = 14 * (lw d * y + x) + now_ s (lw d * y + x) 0
    · omega
    · rw [if_neg z] at hk
      exact (hk rfl).elim
  have rest : ∀ M0 : L_T, (∀ i, i ≠ p → M0 i = M i) → (∀ j, j < 896 → M0 p j = V0_ s ok (lw d * y + x) j) → ∃ L' p' q', D_X7_seek_99 Z I1 M0 R 59 a (nI n) w = some (I1, L', pq_ R p' q') ∧ ((p' = 61 ∧ q' = 62) ∨ (p' = 62 ∧ q' = 61)) ∧ (∀ i, i ≠ 59 → i ≠ 60 → i ≠ 61 → i ≠ 62 → L' i = L i) ∧ ∀ j, j < 896 → L' p' j = vs mk m (PT d s ok) (V0_ s ok (lw d * y + x)) n j := fun M0 f0 f1 => by
    obtain ⟨N, n1, n2, n3⟩ := mark_or (Z := Z) (I := I1) (L := M0) (R := R) (a := 59) (p := p) r1 zp (m 0)
    have clN : CL I1 N a d := cl.keep fun k hk => ⟨i1 _ (by omega), by rw [n2 _ (by omega), f0 _ (by omega)]; exact mL _ (by omega) (by omega) (by omega) (by omega)⟩
    obtain ⟨M', p', q', k1, k2, k3, k4⟩ := seek_loop (Z := Z) (I := I1) (L := N) (R := R) ha hd clN (s := s) r0 z60 z61 z62 (by rw [n2 59 (by omega), f0 59 (by omega), m59]; exact hw) i5 i3 (ok := ok) (fun t ht t0 c hc => by
      rw [n2 60 (by omega), f0 60 (by omega), m60, a3 t ht c (by omega), hok]
      exact ⟨fun u => u.2.2, fun u => ⟨hc, fun z => by omega, u⟩⟩) hn hm h0 N n 1 (by omega) (by omega) N p q pq (fun _ _ _ => rfl) (fun j hj => by
      rw [n3 j hj]
      show mk1 (m 0) (M0 p) j = mk1 (m 0) _ j
      unfold mk1
      rw [f1 j hj])
    refine ⟨M', p', q', ?_, k2, fun i j1 j2 j3 j4 => by rw [k3 i j3 j4, n2 i (by omega), f0 i (by omega), mL i j1 j2 j3 j4], k4⟩
    rw [pq_self r1 r2] at k1
    have k1' : D_X7_seek_116 Z I1 N R 59 a (nI n) w (1, N, R) = some (I1, M', pq_ R p' q') := k1
    unfold D_X7_seek_99 D_X7_seek_110
    cases e : m 0 with
    | false =>
      rw [e] at n1
      rw [if_neg (fun u : w = 0 => by
        have := (hm 0 (by omega)).mp u
        rw [e] at this
        cases this), show D_X7_mark Z I1 M0 R 59 0 = some N from n1, bs_, k1']
    | true =>
      rw [e] at n1
      rw [if_pos (show w = 0 from (hm 0 (by omega)).mpr e), show D_X7_mark Z I1 M0 R 59 1 = some N from n1, bs_, k1']
  have fin : D_X7_seek Z I L R 59 a b (nI n) w = (D_X10_lowest Z I1 M R (A 60 0)).bind fun q11 => if q11 = (-1) then (D_X7_seek_99 Z I1 M R 59 a (nI n) w) else ((D_X10_has Z I1 M R W q11).bind fun q13 => if q13 = 0 then (D_X7_seek_94 Z I1 M R 59 a (nI n) w (1) (q11 * (14)) p) else (D_X7_seek_94 Z I1 M R 59 a (nI n) w (0) (q11 * (14)) p)) := by
    have f12 : D_X7_seek_12 Z I L R 59 a b (nI n) w (bI mk) 59 = (D_X10_lowest Z I1 M R (A 60 0)).bind fun q11 => if q11 = (-1) then (D_X7_seek_99 Z I1 M R 59 a (nI n) w) else ((D_X10_has Z I1 M R W q11).bind fun q13 => if q13 = 0 then (D_X7_seek_94 Z I1 M R 59 a (nI n) w (1) (q11 * (14)) p) else (D_X7_seek_94 Z I1 M R 59 a (nI n) w (0) (q11 * (14)) p)) := by
      rw [D_X7_seek_12, if_pos (bI_isb mk), bs_, e2, w1, bs_, bs_, show up2 I 59 3 (bI mk) a 3 = nI (lhr d) by rw [up2_ne (by omega)]; exact cl.1 3 (by omega), bs_, hI1, a1, bs_, r1, bs_, m1, bs_, r0, bs_, show (0 : Int32) = nI 0 from rfl, getL_ok (by omega) (by omega), bs_, m60, m59]
    rw [D_X7_seek]
    cases mk with
    | false =>
      rw [if_pos (Classical.byContradiction fun u => by
        have := hmk.mpr u
        cases this)]
      exact f12
    | true =>
      rw [if_neg (hmk.mp rfl)]
      exact f12
  by_cases z : ok 0 (lw d * y + x) = true
  · have low : isLow (A 60 0) (lw d * y + x) := ⟨c64, (a3 0 (by omega) _ c64).mpr ⟨c0, fun _ => rfl, (hok _ _).mp z⟩, fun i hi => by
      refine Bool.not_eq_true _ |>.mp fun u => ?_
      have := ((a3 0 (by omega) i (by omega)).mp u).2.1 rfl
      omega⟩
    have nb := @now_le s (lw d * y + x) 0
    have pt : ∀ j, j ≤ 1 → D_X7_seek_94 Z I1 M R 59 a (nI n) w (nI j) (nI (lw d * y + x) * 14) p = D_X7_seek_99 Z I1 (up2 M p (14 * (lw d * y + x) + j) 1) R 59 a (nI n) w := fun j hj => by
      have e : nI (lw d * y + x) * 14 + nI j = nI (14 * (lw d * y + x) + j) := by rw [show (14 : Int32) = nI 14 from rfl, nI_mul, nI_add, Nat.mul_comm _ 14]
      rw [D_X7_seek_94, e, putL_ok (by omega) (by omega), bs_]
    obtain ⟨L', p', q', k1, k2, k3, k4⟩ := rest (up2 M p (14 * (lw d * y + x) + now_ s (lw d * y + x) 0) 1) (fun i hi => up2_ne hi) (fun j hj => by
      unfold V0_
      by_cases u : j = 14 * (lw d * y + x) + now_ s (lw d * y + x) 0
      · rw [u, up2_s, if_pos ⟨z, rfl⟩]
      · rw [up2_j u, if_neg (fun q => u q.2), m3 j (by omega)])
    refine ⟨I1, L', p', q', ?_, k2, i1, k3, k4⟩
    rw [fin, lowest_ok low, bs_, if_neg (nI_neg1 (by omega)), has_ok c64, bs_, hw _ c0]
    unfold now_ at k1
    cases es : s (lw d * y + x) with
    | false =>
      rw [es] at k1
      rw [if_neg (show ¬ bI (!false) = 0 by decide)]
      exact (pt 0 (by omega)).trans k1
    | true =>
      rw [es] at k1
      rw [if_pos (show bI (!true) = 0 from rfl)]
      exact (pt 1 (by omega)).trans k1
  · have zer : A 60 0 = 0 := tb_zero.mpr fun i hi => by
      refine Bool.not_eq_true _ |>.mp fun u => ?_
      have q := (a3 0 (by omega) i hi).mp u
      have q2 := q.2.1 rfl
      subst q2
      exact z ((hok _ _).mpr q.2.2)
    obtain ⟨L', p', q', k1, k2, k3, k4⟩ := rest M (fun i hi => rfl) (fun j hj => by
      unfold V0_
      rw [if_neg (fun q => z q.1), m3 j (by omega)])
    refine ⟨I1, L', p', q', ?_, k2, i1, k3, k4⟩
    rw [fin, zer, lowest_no, bs_, if_pos rfl]
    exact k1
