/-! a day lived -/
theorem copy_ok {Z : Nat → Nat} {I : I_T} {L : L_T} {R : R_T} {a b : Nat} (ab : a ≠ b) (hz : Z a = Z b) (hz2 : Z a < 2 ^ 31) : ∃ I', D_X10_copy Z I L R a b = some I' ∧ (∀ i, i ≠ b → I' i = I i) ∧ (∀ j, j < Z a → I' b j = I a j) ∧ ∀ j, Z a ≤ j → I' b j = I b j := by
  have key : ∀ k j, j + k = Z a → ∀ J : I_T, (∀ i, i ≠ b → J i = I i) → (∀ i, i < j → J b i = I a i) → (∀ i, Z a ≤ i → J b i = I b i) → ∃ I', itC (B_X10_copy_2 Z I L R a b) (nI j, J) = some I' ∧ (∀ i, i ≠ b → I' i = I i) ∧ (∀ j, j < Z a → I' b j = I a j) ∧ ∀ j, Z a ≤ j → I' b j = I b j := by
    intro k
    induction k with
    | zero =>
      intro j hj J a1 a2 a3
      refine ⟨J, itC_inr ?_, a1, fun i hi => a2 i (by omega), a3⟩
      unfold B_X10_copy_2
      rw [if_neg (fun z => by have := (nI_ltI (by omega) (by omega)).mp z; omega)]
    | succ k ih =>
      intro j hj J a1 a2 a3
      obtain ⟨I', p, q⟩ := ih (j + 1) (by omega) (up2 J b j (I a j)) (fun i hi => by rw [up2_ne hi]; exact a1 i hi) (fun i hi => by
        by_cases z : i = j
        · subst z
          exact up2_s _ _ _ _
        · rw [up2_j z]
          exact a2 i (by omega)) (fun i hi => by rw [up2_j (by omega)]; exact a3 i hi)
      refine ⟨I', (itC_inl ?_).trans p, q⟩
      unfold B_X10_copy_2
      have ja : J a j = I a j := by rw [a1 a ab]
      simp only [cl_nI (show j < 2 ^ 31 by omega), ja]
      rw [if_pos ((nI_ltI (by omega) (by omega)).mpr (by omega)), if_pos ((nI_ltI (by omega) (by omega)).mpr (by omega)), if_pos (inb_nI (by omega) (by omega)), if_pos (inb_nI (by omega) (by omega)), bs_, nI_1]
  exact key (Z a) 0 (by omega) I (fun _ _ => rfl) (fun i hi => by omega) (fun _ _ => rfl)
def bg (d : ld_T) : cr_T := fun q j => if q = 0 then d 7 j else if q = 1 then d 9 j else if q = 6 then lv d else 0
theorem bg_v {d : ld_T} (hd : VD d) : VC d (bg d) := ⟨hd.2.2.2.2.1, fun c => (hd.2.2.2.2.2.2.2.2.2.1 c).2, fun p hp => ⟨(hd.2.2.2.2.2.2.2.2.2.2 p hp).2, Nat.zero_le _, Nat.zero_le _, Nat.zero_le _, Nat.zero_le _⟩⟩
theorem begin_ok {sh : sh_T} {I0 I : I_T} {L0 L : L_T} {R : R_T} (h : Inv sh I0 L0 R) {a : Nat} (ha : a < 39) {d : ld_T} (hd : VD d) (cl : CL I L a d) (lz : LZ sh.2.2 R a) : ∃ I' L', D_X0_begin sh.2.2 I L R 44 a = some (I', L') ∧ CC I' L' d (bg d) ∧ (∀ i, i < 44 ∨ 50 < i → I' i = I i) ∧ (∀ j, j ≠ 6 → I' 44 j = I 44 j) ∧ ∀ i, i ≠ 44 → L' i = L i := by
  have h64 := cs_le hd
  have p5 : lpp d ≤ 5 := hd.2.2.2.2.2.2.2.2.1
  have z45 : sh.2.2 45 = 64 := h.z 45 64 rfl
  have z46 : sh.2.2 46 = 5 := h.z 46 5 rfl
  have z47 : sh.2.2 47 = 5 := h.z 47 5 rfl
  have z48 : sh.2.2 48 = 5 := h.z 48 5 rfl
  have z49 : sh.2.2 49 = 5 := h.z 49 5 rfl
  have z50 : sh.2.2 50 = 5 := h.z 50 5 rfl
  obtain ⟨K1, a1, a2, a3, a4⟩ := copy_ok (Z := sh.2.2) (I := I) (L := L) (R := R) (a := a + 2) (b := 45) (by omega) (by rw [lz.2.2.2.2.2.1, z45]) (by rw [lz.2.2.2.2.2.1]; decide)
  obtain ⟨K2, b1, b2, b3, b4⟩ := copy_ok (Z := sh.2.2) (I := K1) (L := L) (R := R) (a := a + 4) (b := 46) (by omega) (by rw [lz.2.2.2.2.2.2.2, z46]) (by rw [lz.2.2.2.2.2.2.2]; decide)
  obtain ⟨K3, c1, c2, c3, c4⟩ := fill_ok (Z := sh.2.2) (I := K2) (L := L) (R := R) (a := 47) (v := 0) (by rw [z47]; decide)
  obtain ⟨K4, d1, d2, d3, d4⟩ := fill_ok (Z := sh.2.2) (I := K3) (L := L) (R := R) (a := 48) (v := 0) (by rw [z48]; decide)
  obtain ⟨K5, e1, e2, e3, e4⟩ := fill_ok (Z := sh.2.2) (I := K4) (L := L) (R := R) (a := 49) (v := 0) (by rw [z49]; decide)
  obtain ⟨K6, f1, f2, f3, f4⟩ := fill_ok (Z := sh.2.2) (I := K5) (L := L) (R := R) (a := 50) (v := 0) (by rw [z50]; decide)
  have fr : ∀ i, i < 45 ∨ 50 < i → K6 i = I i := fun i hi => by rw [f2 i (by omega), e2 i (by omega), d2 i (by omega), c2 i (by omega), b2 i (by omega), a2 i (by omega)]
  have cl6 : CL K6 L a d := cl.keep (fun k hk => ⟨fr _ (by omega), rfl⟩)
  have e6 : K6 a 2 = nI (lv d) := by rw [fr a (by omega)]; exact cl.1 2 (by omega)
  obtain ⟨x, g1, g2⟩ := setLevel_ok (sh := sh) ha hd cl6 lz (l := lv d) hd.2.2.2.2.1
  refine ⟨up2 K6 44 6 (nI (lv d)), up2 L 44 7 x, ?_, ⟨up2_s _ _ _ _, by rw [up2_s]; exact g2, fun c hc => ?_, fun q p h1 h5 hp => ?_⟩, fun i hi => by rw [up2_ne (by omega)]; exact fr i (by omega), fun j hj => by rw [up2_j hj, fr 44 (by omega)], fun i hi => up2_ne hi⟩
  · rw [D_X0_begin, lz.2.1, bs_, h.r 44 0 45 rfl, bs_, a1, bs_, lz.2.2.2.1, bs_, h.r 44 1 46 rfl, bs_, b1, bs_, h.r 44 2 47 rfl, bs_, c1, bs_, h.r 44 3 48 rfl, bs_, d1, bs_, h.r 44 4 49 rfl, bs_, e1, bs_, h.r 44 5 50 rfl, bs_, f1, bs_, e6, g1, bs_]
  · rw [up2_a (by omega), f2 45 (by omega), e2 45 (by omega), d2 45 (by omega), c2 45 (by omega), b2 45 (by omega), a3 c (by rw [lz.2.2.2.2.2.1]; omega), (cl.2.1 c hc).2]
    rfl
  · rw [up2_a (by omega)]
    have : q = 1 ∨ q = 2 ∨ q = 3 ∨ q = 4 ∨ q = 5 := by omega
    rcases this with rfl | rfl | rfl | rfl | rfl
    · rw [f2 46 (by omega), e2 46 (by omega), d2 46 (by omega), c2 46 (by omega), b3 p (by rw [lz.2.2.2.2.2.2.2]; omega), a2 (a + 4) (by omega), (cl.2.2.1 p hp).2]
      rfl
    · rw [f2 47 (by omega), e2 47 (by omega), d2 47 (by omega), c3 p (by omega)]
      rfl
    · rw [f2 48 (by omega), e2 48 (by omega), d3 p (by omega)]
      rfl
    · rw [f2 49 (by omega), e3 p (by omega)]
      rfl
    · rw [f3 p (by omega)]
      rfl
theorem mbegin_ok {sh : sh_T} {I J : I_T} {L L' : L_T} {R : R_T} (h : Inv sh I L R) {k : Nat} (hk : k < 2) {d : ld_T} (hd : VD d) (ml : ML I k d) (m : MH J I k d) (e27 : J 68 27 = nI (lv d)) (e81 : ∀ c, c < cs_ d → J 81 c = nI (d 7 c)) : ∃ J', D_X11_begin sh.2.2 J L' R 68 = some J' ∧ CM J' d (bg d) ∧ ∀ i, i < 82 ∨ 86 < i → J' i = J i := by
  have p5 : lpp d ≤ 5 := hd.2.2.2.2.2.2.2.2.1
  have z82 : sh.2.2 82 = 5 := h.z 82 5 rfl
  have z83 : sh.2.2 83 = 5 := h.z 83 5 rfl
  have z84 : sh.2.2 84 = 5 := h.z 84 5 rfl
  have z85 : sh.2.2 85 = 5 := h.z 85 5 rfl
  have z86 : sh.2.2 86 = 5 := h.z 86 5 rfl
  have key : ∀ n p, p + n = 5 → ∀ K : I_T, (∀ i, i < 82 ∨ 86 < i → K i = J i) → (∀ q i, 1 ≤ q → q ≤ 5 → i < p → i < lpp d → K (81 + q) i = nI (bg d q i)) → ∃ J', itC (B_X11_begin_2 sh.2.2 J L' R 68) (nI p, K) = some J' ∧ CM J' d (bg d) ∧ ∀ i, i < 82 ∨ 86 < i → J' i = J i := by
    intro n
    induction n with
    | zero =>
      intro p hp K f g
      have : p = 5 := by omega
      subst this
      refine ⟨K, itC_inr ?_, ⟨by rw [f 68 (by omega)]; exact e27, fun c hc => by rw [f 81 (by omega)]; exact e81 c hc, fun q i h1 h5 hi => g q i h1 h5 (by omega) hi⟩, f⟩
      unfold B_X11_begin_2
      rw [if_neg (show ¬ nI 5 < 5 by decide)]
    | succ n ih =>
      intro p hp K f g
      have ip : inb (nI p) 5 = true := inb_nI (by omega) (by omega)
      have cp : (nI p).toNatClampNeg = p := cl_nI (by omega)
      have lt : nI p < 5 := (nl_lt (k := 5) (j := 5) rfl (by omega) (by omega)).mpr (by omega)
      have f30 : K 68 30 = nI (lpp d) := by rw [f 68 (by omega)]; exact m.2.2.2.2.2.1
      have st : ∀ x : Int32, (p < lpp d → x = nI (d 9 p)) → D_X11_begin_29 sh.2.2 K L' R 68 (nI p) x (nI p) 82 = some (.inl (nI (p + 1), up2 (up2 (up2 (up2 (up2 K 82 p x) 83 p 0) 84 p 0) 85 p 0) 86 p 0)) := fun x _ => by
        rw [D_X11_begin_29, z82, if_pos ip, cp, bs_, h.r 68 37 83 rfl, bs_, z83, if_pos ip, bs_, h.r 68 38 84 rfl, bs_, z84, if_pos ip, bs_, h.r 68 39 85 rfl, bs_, z85, if_pos ip, bs_, h.r 68 40 86 rfl, bs_, z86, if_pos ip, bs_, nI_1]
      have nxt : ∀ x : Int32, (p < lpp d → x = nI (d 9 p)) → ∃ J', itC (B_X11_begin_2 sh.2.2 J L' R 68) (nI (p + 1), up2 (up2 (up2 (up2 (up2 K 82 p x) 83 p 0) 84 p 0) 85 p 0) 86 p 0) = some J' ∧ CM J' d (bg d) ∧ ∀ i, i < 82 ∨ 86 < i → J' i = J i := fun x hx => by
        refine ih (p + 1) (by omega) _ (fun i hi => by rw [up2_ne (by omega), up2_ne (by omega), up2_ne (by omega), up2_ne (by omega), up2_ne (by omega)]; exact f i hi) (fun q i h1 h5 hi hi2 => ?_)
        by_cases z : i = p
        · subst z
          have : q = 1 ∨ q = 2 ∨ q = 3 ∨ q = 4 ∨ q = 5 := by omega
          rcases this with rfl | rfl | rfl | rfl | rfl
          · rw [up2_a (by omega), up2_a (by omega), up2_a (by omega), up2_a (by omega), up2_s, hx hi2]
            rfl
          · rw [up2_a (by omega), up2_a (by omega), up2_a (by omega), up2_s]
            rfl
          · rw [up2_a (by omega), up2_a (by omega), up2_s]
            rfl
          · rw [up2_a (by omega), up2_s]
            rfl
          · rw [up2_s]
            rfl
        · rw [up2_j z, up2_j z, up2_j z, up2_j z, up2_j z]
          exact g q i h1 h5 (by omega) hi2
      by_cases q : p < lpp d
      · obtain ⟨J', A, B⟩ := nxt (nI (d 9 p)) (fun _ => rfl)
        refine ⟨J', (itC_inl ?_).trans A, B⟩
        unfold B_X11_begin_2
        have so := startOf_ok (L' := L') h hk hd ml (J := K) (by rw [f 68 (by omega)]; exact m.1) (by rw [f 68 (by omega)]; exact m.2.1) (by rw [f 74 (by omega)]; exact m.2.2.2.2.2.2.2.2) q
        simp only [lt, if_true, h.r 68 36 82 rfl, bs_, f30]
        rw [if_pos ((nI_ltI (by omega) (by omega)).mpr q), so, bs_]
        exact st _ (fun _ => rfl)
      · obtain ⟨J', A, B⟩ := nxt 0 (fun u => (q u).elim)
        refine ⟨J', (itC_inl ?_).trans A, B⟩
        unfold B_X11_begin_2
        simp only [lt, if_true, h.r 68 36 82 rfl, bs_, f30]
        rw [if_neg (fun u => q ((nI_ltI (by omega) (by omega)).mp u))]
        exact st 0 (fun u => (q u).elim)
  exact key 5 0 (by omega) J (fun _ _ => rfl) (fun q i _ _ hi _ => by omega)
def sn (e : Nat → Nat → Int32) (j q : Nat) : Nat := (e j q).toNatClampNeg
theorem VDay.line {n : Nat} {e : Nat → Nat → Int32} (v : VDay n e) {j : Nat} (hj : j < n) : e j 0 = nI (sn e j 0) ∧ sn e j 0 ≤ 4 ∧ e j 1 = nI (sn e j 1) ∧ sn e j 1 ≤ 9 ∧ (sn e j 0 = 0 → e j 2 = nI (sn e j 2) ∧ sn e j 2 < 4) := by
  obtain ⟨⟨s, s1, s2⟩, ⟨p, p1, p2⟩, _, hq, _⟩ := v.2 j hj
  unfold sn
  rw [s2, p2, cl_nI (by omega), cl_nI (by omega)]
  refine ⟨rfl, s1, rfl, p1, fun z => ?_⟩
  subst z
  obtain ⟨q, q1, q2⟩ := hq s2
  rw [q2, cl_nI (by omega)]
  exact ⟨rfl, by omega⟩
/-- deeds from t on, k of them at most: how far, and the state -/
def plS (d : ld_T) (e : Nat → Nat → Int32) : Nat → Nat → cr_T → Nat × cr_T
  | 0, t, s => (t, s)
  | k + 1, t, s => if (perfS d (sn e t 0) (sn e t 1) (sn e t 2) s).1 = true then plS d e k (t + 1) (perfS d (sn e t 0) (sn e t 1) (sn e t 2) s).2 else (t, (perfS d (sn e t 0) (sn e t 1) (sn e t 2) s).2)
theorem plS_v {d : ld_T} (hd : VD d) {n : Nat} {e : Nat → Nat → Int32} (v : VDay n e) : ∀ k t s, t + k ≤ n → VC d s → VC d (plS d e k t s).2 ∧ (plS d e k t s).1 ≤ t + k := by
  intro k
  induction k with
  | zero => exact fun t s _ vc => ⟨vc, Nat.le_refl _⟩
  | succ k ih =>
    intro t s ht vc
    obtain ⟨l1, l2, l3, l4, l5⟩ := v.line (j := t) (by omega)
    have pv := perfS_v hd vc (k := sn e t 0) (p := sn e t 1) (x := sn e t 2) (fun _ => l4)
    unfold plS
    split
    · obtain ⟨a, b⟩ := ih (t + 1) _ (by omega) pv
      exact ⟨a, by omega⟩
    · exact ⟨pv, by show t ≤ _; omega⟩
theorem live_loop {sh : sh_T} {I0 I Ib : I_T} {L0 L Lb : L_T} {R : R_T} (h : Inv sh I0 L0 R) {a b : Nat} (ha : a < 39) (hb : b < 40) {d : ld_T} (hd : VD d) (cl : CL I L a d) (lz : LZ sh.2.2 R a) {n : Nat} {e : Nat → Nat → Int32} (v : VDay n e) (hs : CS I b n 0 0 e) (rb : R b 0 = some (b + 1)) (zb : sh.2.2 (b + 1) = 160) {m : Nat} (hm : m ≤ n) : ∀ k t, t + k = m → ∀ K M s, CC K M d s → VC d s → (∀ i, i < 44 ∨ 50 < i → K i = I i) → (∀ i, i ≠ 44 → M i = L i) → ∃ I' L', itC (B_X0_live_8 sh.2.2 Ib Lb R 44 a b (nI m)) (nI t, K, M) = some (nI (plS d e k t s).1, I', L') ∧ CC I' L' d (plS d e k t s).2 ∧ (∀ i, i < 44 ∨ 50 < i → I' i = I i) ∧ ∀ i, i ≠ 44 → L' i = L i := by
  have n40 := v.1
  intro k
  induction k with
  | zero =>
    intro t ht K M s cc vc f g
    have : t = m := by omega
    subst this
    refine ⟨K, M, itC_inr ?_, cc, f, g⟩
    unfold B_X0_live_8
    rw [if_neg Int32.lt_irrefl]
    rfl
  | succ k ih =>
    intro t ht K M s cc vc f g
    obtain ⟨l1, l2, l3, l4, l5⟩ := v.line (j := t) (by omega)
    have hsK : CS K b n 0 0 e := hs.keep (f b (by omega)) (f _ (by omega))
    have vo : ∀ q, q < 4 → D_X6_value sh.2.2 K M R b (nI t) (nI q) = some (e t q) := fun q hq => value_ok hsK rb (by omega) (by omega) (by omega) (by omega) hq
    obtain ⟨K', M', r1, r2, r3, r4, r5⟩ := perform_ok (x := e t 2) h ha hd (cl.keep (I' := K) (L' := M) (fun k hk => ⟨f _ (by omega), by rw [g _ (by omega)]⟩)) lz cc vc (k := sn e t 0) (p := sn e t 1) (xn := sn e t 2) l2 (by omega) (fun _ => l4) l5
    have pv := perfS_v hd vc (k := sn e t 0) (p := sn e t 1) (x := sn e t 2) (fun _ => l4)
    have st : B_X0_live_8 sh.2.2 Ib Lb R 44 a b (nI m) (nI t, K, M) = (if bI (perfS d (sn e t 0) (sn e t 1) (sn e t 2) s).1 = 0 then some (.inr (nI t, K', M')) else some (.inl (nI (t + 1), K', M'))) := by
      unfold B_X0_live_8
      rw [if_pos ((nI_ltI (by omega) (by omega)).mpr (by omega)), show D_X6_value sh.2.2 K M R b (nI t) 0 = _ from vo 0 (by omega), bs_, show D_X6_value sh.2.2 K M R b (nI t) 1 = _ from vo 1 (by omega), bs_, show D_X6_value sh.2.2 K M R b (nI t) 2 = _ from vo 2 (by omega), bs_, l1, l3, r1, bs_, nI_1]
    unfold plS
    cases q : (perfS d (sn e t 0) (sn e t 1) (sn e t 2) s).1 with
    | true =>
      rw [q, if_neg (show ¬ bI true = 0 by decide)] at st
      obtain ⟨I', L', A, B⟩ := ih (t + 1) (by omega) K' M' _ r2 pv (fun i hi => by rw [r3 i hi]; exact f i hi) (fun i hi => by rw [r5 i hi]; exact g i hi)
      rw [if_pos rfl]
      exact ⟨I', L', (itC_inl st).trans A, B⟩
    | false =>
      rw [q, if_pos (show bI false = 0 from rfl)] at st
      rw [if_neg (by decide)]
      exact ⟨K', M', itC_inr st, r2, fun i hi => by rw [r3 i hi]; exact f i hi, fun i hi => by rw [r5 i hi]; exact g i hi⟩
theorem live_ok {sh : sh_T} {I : I_T} {L : L_T} {R : R_T} (h : Inv sh I L R) {a b : Nat} (ha : a < 39) (hb : b < 40) {d : ld_T} (hd : VD d) (cl : CL I L a d) (lz : LZ sh.2.2 R a) {n : Nat} {e : Nat → Nat → Int32} (v : VDay n e) (hs : CS I b n 0 0 e) (rb : R b 0 = some (b + 1)) (zb : sh.2.2 (b + 1) = 160) {m : Nat} (hm : m ≤ n) : ∃ I' L', D_X0_live sh.2.2 I L R 44 a b (nI m) = some (nI (plS d e m 0 (bg d)).1, I', L') ∧ CC I' L' d (plS d e m 0 (bg d)).2 ∧ (∀ i, i < 44 ∨ 50 < i → I' i = I i) ∧ ∀ i, i ≠ 44 → L' i = L i := by
  obtain ⟨K, M, b1, b2, b3, b4, b5⟩ := begin_ok h ha hd cl lz
  obtain ⟨I', L', A, B⟩ := live_loop (Ib := K) (Lb := M) h ha hb hd cl lz v hs rb zb hm m 0 (by omega) K M (bg d) b2 (bg_v hd) b3 b5
  exact ⟨I', L', by rw [D_X0_live, b1, bs_]; exact A, B⟩
theorem does_ok {sh : sh_T} {I J : I_T} {L L' : L_T} {R : R_T} (h : Inv sh I L R) {k : Nat} (hk : k < 2) {d : ld_T} (hd : VD d) (ml : ML I k d) (m : MH J I k d) {s : cr_T} (cm : CM J d s) (vc : VC d s) {n kd : Nat} (hkd : kd < 2) {e : Nat → Nat → Int32} (v : VDay n e) (e35 : J 68 35 = nI kd) (e75 : J 75 = I 75) (de : ∀ j q, j < n → q < 3 → I 75 (121 * kd + 1 + 3 * j + q) = e j q) {t : Nat} (ht : t < n) : ∃ J', D_X11_does sh.2.2 J L' R 68 (nI t) = some (bI (perfS d (sn e t 0) (sn e t 1) (sn e t 2) s).1, J') ∧ CM J' d (perfS d (sn e t 0) (sn e t 1) (sn e t 2) s).2 ∧ (∀ i, i ≠ 68 → i < 81 ∨ 86 < i → J' i = J i) ∧ ∀ j, j ≠ 27 → J' 68 j = J 68 j := by
  have n40 := v.1
  have p5 : lpp d ≤ 5 := hd.2.2.2.2.2.2.2.2.1
  obtain ⟨l1, l2, l3, l4, l5⟩ := v.line ht
  have dof : ∀ q, q < 3 → D_X11_deedOf sh.2.2 J L' R 68 (nI t) (nI q) = some (e t q) := fun q hq => by rw [deedOf_ok h hkd e35 (by omega) hq, e75, de t q ht hq]
  have d0 : D_X11_deedOf sh.2.2 J L' R 68 (nI t) 0 = some (nI (sn e t 0)) := by rw [← l1]; exact dof 0 (by omega)
  have d1 : D_X11_deedOf sh.2.2 J L' R 68 (nI t) 1 = some (nI (sn e t 1)) := by rw [← l3]; exact dof 1 (by omega)
  have d2 : D_X11_deedOf sh.2.2 J L' R 68 (nI t) 2 = some (e t 2) := dof 2 (by omega)
  generalize sn e t 0 = kk at *
  generalize sn e t 1 = p at *
  generalize sn e t 2 = x at *
  rw [D_X11_does, d1, bs_, d0, bs_]
  by_cases k4 : kk = 4
  · have pf : perfS d kk p x s = (true, up2 s 6 0 p) := by unfold perfS; rw [if_pos k4]
    rw [pf, if_pos (show nI kk = 4 by rw [k4]; rfl), bs_]
    have cl : CM (up2 J 68 27 (nI p)) d (up2 s 6 0 p) := ⟨by rw [up2_s, up2_s], fun c hc => by rw [up2_a (by omega), up2_a (by omega)]; exact cm.2.1 c hc, fun q i h1 h5 hi => by rw [up2_a (by omega), up2_a (by omega)]; exact cm.2.2 q i h1 h5 hi⟩
    exact ⟨up2 J 68 27 (nI p), rfl, cl, fun i hi _ => up2_ne hi, fun j hj => up2_j hj⟩
  rw [if_neg (fun u => k4 ((nl_eq (k := 4) (j := 4) rfl (by omega) (by omega)).mp u)), m.2.2.2.2.2.1, in_cnt (nI p) (by omega), bs_]
  by_cases hp : p < lpp d
  · have dt : decide (0 ≤ (nI p).toInt ∧ (nI p).toInt < (lpp d : Nat)) = true := decide_eq_true (by rw [nI_toInt (by omega)]; omega)
    have W : ∀ (D : Option (Int32 × I_T)) (y : Nat), (∃ J', D = some (bI (perfS d y p x s).1, J') ∧ CM J' d (perfS d y p x s).2 ∧ ∀ i, i < 81 ∨ 86 < i → J' i = J i) → ∃ J', (D.bind fun q9 => if isb (q9.1) = true then some ((q9.1, q9.2)) else none) = some (bI (perfS d y p x s).1, J') ∧ CM J' d (perfS d y p x s).2 ∧ (∀ i, i ≠ 68 → i < 81 ∨ 86 < i → J' i = J i) ∧ ∀ j, j ≠ 27 → J' 68 j = J 68 j := fun D y hD => by
      obtain ⟨J', r1, r2, r3⟩ := hD
      exact ⟨J', by rw [r1, bs_, if_pos (bI_isb _)], r2, fun i _ hi => r3 i hi, fun j _ => by rw [r3 68 (by omega)]⟩
    rw [dt, if_neg (show ¬ bI true = 0 by decide), bs_, bs_]
    have : kk = 0 ∨ kk = 1 ∨ kk = 2 ∨ kk = 3 := by omega
    rcases this with rfl | rfl | rfl | rfl
    · obtain ⟨x1, x2⟩ := l5 rfl
      rw [if_pos (show nI 0 = 0 from rfl), d2, bs_, x1]
      exact W _ 0 (goes_ok h hk hd ml m cm vc hp x2)
    · rw [if_neg (show ¬ nI 1 = 0 by decide), if_pos (show nI 1 = 1 from rfl)]
      exact W _ 1 (works_ok h hk hd ml m cm vc x hp)
    · rw [if_neg (show ¬ nI 2 = 0 by decide), if_neg (show ¬ nI 2 = 1 by decide), if_pos (show nI 2 = 2 from rfl)]
      exact W _ 2 (waits_ok h hk hd ml m cm vc x hp)
    · rw [if_neg (show ¬ nI 3 = 0 by decide), if_neg (show ¬ nI 3 = 1 by decide), if_neg (show ¬ nI 3 = 2 by decide)]
      exact W _ 3 (moors_ok h hk hd ml m cm vc x hp)
  · have df : decide (0 ≤ (nI p).toInt ∧ (nI p).toInt < (lpp d : Nat)) = false := decide_eq_false (by rw [nI_toInt (by omega)]; omega)
    have pf : perfS d kk p x s = (false, s) := by unfold perfS; rw [if_neg k4, if_pos (by omega)]
    rw [df, if_pos (show bI false = 0 from rfl), pf]
    exact ⟨J, rfl, cm, fun _ _ _ => rfl, fun _ _ => rfl⟩
theorem play_ok {sh : sh_T} {I J : I_T} {L L' : L_T} {R : R_T} (h : Inv sh I L R) {k : Nat} (hk : k < 2) {d : ld_T} (hd : VD d) (ml : ML I k d) (m : MH J I k d) (e27 : J 68 27 = nI (lv d)) (e81 : ∀ c, c < cs_ d → J 81 c = nI (d 7 c)) {n kd : Nat} (hkd : kd < 2) {e : Nat → Nat → Int32} (v : VDay n e) (e35 : J 68 35 = nI kd) (e75 : J 75 = I 75) (de : ∀ j q, j < n → q < 3 → I 75 (121 * kd + 1 + 3 * j + q) = e j q) {mm : Nat} (hm : mm ≤ n) : ∃ J', D_X11_play sh.2.2 J L' R 68 (nI mm) = some (nI (plS d e mm 0 (bg d)).1, J') ∧ CM J' d (plS d e mm 0 (bg d)).2 ∧ MH J' I k d ∧ ∀ i, i ≠ 68 → i < 81 ∨ 86 < i → J' i = J i := by
  have n40 := v.1
  obtain ⟨J1, b1, b2, b3⟩ := mbegin_ok (L' := L') h hk hd ml m e27 e81
  have key : ∀ k' t, t + k' = mm → ∀ K s, CM K d s → VC d s → (∀ i, i ≠ 68 → i < 81 ∨ 86 < i → K i = J i) → (∀ j, j ≠ 27 → K 68 j = J 68 j) → ∃ J', itC (B_X11_play_6 sh.2.2 J1 L' R 68 (nI mm)) (nI t, K) = some (nI (plS d e k' t s).1, J') ∧ CM J' d (plS d e k' t s).2 ∧ (∀ i, i ≠ 68 → i < 81 ∨ 86 < i → J' i = J i) ∧ ∀ j, j ≠ 27 → J' 68 j = J 68 j := by
    intro k'
    induction k' with
    | zero =>
      intro t ht K s cm vc f g
      have : t = mm := by omega
      subst this
      refine ⟨K, itC_inr ?_, cm, f, g⟩
      unfold B_X11_play_6
      rw [if_neg Int32.lt_irrefl]
      rfl
    | succ k' ih =>
      intro t ht K s cm vc f g
      obtain ⟨l1, l2, l3, l4, l5⟩ := v.line (j := t) (by omega)
      obtain ⟨K', r1, r2, r3, r4⟩ := does_ok (L' := L') h hk hd ml (m.fr (f 74 (by omega) (by omega)) (f 80 (by omega) (by omega)) (fun j _ _ hj => g j hj)) cm vc hkd v (by rw [g 35 (by omega)]; exact e35) (by rw [f 75 (by omega) (by omega)]; exact e75) de (t := t) (by omega)
      have pv := perfS_v hd vc (k := sn e t 0) (p := sn e t 1) (x := sn e t 2) (fun _ => l4)
      have st : B_X11_play_6 sh.2.2 J1 L' R 68 (nI mm) (nI t, K) = (if bI (perfS d (sn e t 0) (sn e t 1) (sn e t 2) s).1 = 0 then some (.inr (nI t, K')) else some (.inl (nI (t + 1), K'))) := by
        unfold B_X11_play_6
        rw [if_pos ((nI_ltI (by omega) (by omega)).mpr (by omega)), r1, bs_, nI_1]
      unfold plS
      cases q : (perfS d (sn e t 0) (sn e t 1) (sn e t 2) s).1 with
      | true =>
        rw [q, if_neg (show ¬ bI true = 0 by decide)] at st
        obtain ⟨J', A, B⟩ := ih (t + 1) (by omega) K' _ r2 pv (fun i i1 i2 => by rw [r3 i i1 i2]; exact f i i1 i2) (fun j hj => by rw [r4 j hj]; exact g j hj)
        rw [if_pos rfl]
        exact ⟨J', (itC_inl st).trans A, B⟩
      | false =>
        rw [q, if_pos (show bI false = 0 from rfl)] at st
        rw [if_neg (by decide)]
        exact ⟨K', itC_inr st, r2, fun i i1 i2 => by rw [r3 i i1 i2]; exact f i i1 i2, fun j hj => by rw [r4 j hj]; exact g j hj⟩
  obtain ⟨J', A, B, C, D⟩ := key mm 0 (by omega) J1 (bg d) b2 (bg_v hd) (fun i _ hi => b3 i (by omega)) (fun j _ => by rw [b3 68 (by omega)])
  refine ⟨J', by rw [D_X11_play, b1, bs_]; exact A, B, m.fr (C 74 (by omega) (by omega)) (C 80 (by omega) (by omega)) (fun j _ _ hj => D j hj), C⟩
