/-! sights: a minute on, the class's side -/
def opm (mk : Bool) (x y : Int64) : Int64 := if mk = true then x ||| y else x + y
theorem opm_0 (mk : Bool) (x : Int64) : opm mk x 0 = x := by
  unfold opm
  cases mk with
  | false => rw [if_neg (by decide), Int64.add_zero]
  | true =>
    rw [if_pos rfl]
    exact tb_ext fun i hi => by rw [tb_or, tb_0, Bool.or_false]
/-- whither a way leads, the class's side -/
def PC (d : ld_T) (s : Nat → Bool) (al : Int64) (k w : Nat) : Option Nat := match nx d (k / 14) w with
  | none => none
  | some c => if tb al c = true ∧ now_ s c (k % 14) ≤ lhr d then some (14 * c + now_ s c (k % 14)) else none
theorem now_le {s : Nat → Bool} {c o : Nat} : now_ s c o ≤ o + 1 := by
  unfold now_
  split <;> omega
theorem arrive_ok {Z : Nat → Nat} {I : I_T} {L M : L_T} {R : R_T} {q : Nat} {d : ld_T} (hd : VD d) {s : Nat → Bool} (r2 : R 59 2 = some q) (zq : Z q = 896) (q59 : q ≠ 59) (hw : ∀ c, c < cs_ d → tb (L 59 4) c = !s c) (h5 : I 59 5 = nI (lhr d)) {mk : Bool} (h3 : I 59 3 = bI mk) (hM : ∀ i, i ≠ q → M i = L i) {c o : Nat} (hc : c < cs_ d) (ho : o ≤ 12) (v : Int64) : D_X7_arrive Z I M R 59 (nI c) (nI o) v = some (if now_ s c o ≤ lhr d then up2 M q (14 * c + now_ s c o) (opm mk (M q (14 * c + now_ s c o)) v) else M) := by
  have h64 := cs_le hd
  have hr := hd.2.2.2.2.2.2.1
  have f : ∀ b, b ≤ 13 → D_X7_arrive_18 Z I M R 59 (nI c) v (nI b) = some (if b ≤ lhr d then up2 M q (14 * c + b) (opm mk (M q (14 * c + b)) v) else M) := fun b hb => by
    have e : nI c * 14 + nI b = nI (14 * c + b) := by rw [show (14 : Int32) = nI 14 from rfl, nI_mul, nI_add, Nat.mul_comm]
    rw [D_X7_arrive_18, h5]
    by_cases z : lhr d < b
    · rw [if_pos ((nI_ltI (by omega) (by omega)).mpr z), if_neg (by omega)]
    · rw [if_neg (fun u => z ((nI_ltI (by omega) (by omega)).mp u)), if_pos (by omega), r2, bs_, e, getL_ok (by omega) (by omega), bs_, h3]
      unfold D_X7_arrive_75 opm
      cases mk with
      | false => rw [if_pos (show bI false = 0 from rfl), if_neg (by decide), putL_ok (by omega) (by omega), bs_]
      | true => rw [if_neg (show ¬ bI true = 0 by decide), if_pos rfl, putL_ok (by omega) (by omega), bs_]
  rw [D_X7_arrive, has_ok (by omega), bs_, hM 59 (fun u => q59 u.symm), hw c hc]
  unfold now_
  cases s c with
  | false =>
    rw [if_neg (show ¬ bI (!false) = 0 by decide)]
    exact f 0 (by omega)
  | true =>
    rw [if_pos (show bI (!true) = 0 from rfl), nI_1]
    exact f (o + 1) (by omega)
theorem walkOn_dir {Z : Nat → Nat} {I : I_T} {L : L_T} {R : R_T} {a p q : Nat} (ha : a < 50) {d : ld_T} (hd : VD d) (cl : CL I L a d) {s : Nat → Bool} (r2 : R 59 2 = some q) (zq : Z q = 896) (q59 : 59 < q) (hw : ∀ c, c < cs_ d → tb (L 59 4) c = !s c) (h5 : I 59 5 = nI (lhr d)) {mk : Bool} (h3 : I 59 3 = bI mk) (al : Int64) {c o : Nat} (hc : c < 64) (ho : o < 14) {V : Nat → Int64} (hV : V (14 * c + o) ≠ 0 → c < cs_ d ∧ o ≤ 12) (L0 : L_T) {M : L_T} {r : Nat → Int64} (hM : ∀ i, i ≠ q → M i = L i) (hr : ∀ j, j < 896 → M q j = r j) : ∃ M', itC (B_X7_walkOn_48 Z I L0 R 59 a al (nI c) (nI o) (V (14 * c + o))) (0, M) = some (.inl (nI (o + 1), M')) ∧ (∀ i, i ≠ q → M' i = L i) ∧ ∀ j, j < 896 → M' q j = stW (opm mk) (PC d s al) V (14 * c + o) 5 r j := by
  have h64 := cs_le hd
  have e1 : (14 * c + o) / 14 = c := by omega
  have e2 : (14 * c + o) % 14 = o := by omega
  by_cases z0 : V (14 * c + o) = 0
  · refine ⟨M, itC_inr ?_, hM, fun j hj => by rw [stW_0 (opm_0 mk) z0]; exact hr j hj⟩
    unfold B_X7_walkOn_48
    rw [if_neg (show ¬ (4 : Int32) < 0 by decide), if_pos z0, nI_1]
  · obtain ⟨c1, o1⟩ := hV z0
    have key : ∀ k w, w + k = 5 → ∀ N : L_T, (∀ i, i ≠ q → N i = L i) → (∀ j, j < 896 → N q j = stW (opm mk) (PC d s al) V (14 * c + o) w r j) → ∃ M', itC (B_X7_walkOn_48 Z I L0 R 59 a al (nI c) (nI o) (V (14 * c + o))) (nI w, N) = some (.inl (nI (o + 1), M')) ∧ (∀ i, i ≠ q → M' i = L i) ∧ ∀ j, j < 896 → M' q j = stW (opm mk) (PC d s al) V (14 * c + o) 5 r j := by
      intro k
      induction k with
      | zero =>
        intro w hw5 N hN hrN
        have : w = 5 := by omega
        subst this
        refine ⟨N, itC_inr ?_, hN, hrN⟩
        unfold B_X7_walkOn_48
        rw [if_pos (show (4 : Int32) < nI 5 by decide), nI_1]
      | succ k ih =>
        intro w hw5 N hN hrN
        have clN : CL I N a d := cl.keep fun k hk => ⟨rfl, hN _ (by omega)⟩
        have nxt := nextC_ok (Z := Z) (R := R) hd clN c1 (show w ≤ 4 by omega)
        have nl4 : ¬ (4 : Int32) < nI w := fun u => by
          have := (nI_ltI (a := 4) (b := w) (by omega) (by omega)).mp u
          omega
        have sW : ∀ j, stW (opm mk) (PC d s al) V (14 * c + o) (w + 1) r j = st1 (opm mk) (PC d s al (14 * c + o) w) (V (14 * c + o)) (stW (opm mk) (PC d s al) V (14 * c + o) w r) j := fun j => rfl
        cases en : nx d c w with
        | none =>
          rw [en] at nxt
          obtain ⟨M', m1, m2⟩ := ih (w + 1) (by omega) N hN (fun j hj => by
            rw [hrN j hj, sW]
            unfold PC
            rw [e1, en]
            rfl)
          refine ⟨M', (itC_inl ?_).trans m1, m2⟩
          unfold B_X7_walkOn_48
          rw [if_neg nl4, if_neg z0, nxt, bs_, show oI none = -1 from rfl, has_no (Or.inl (by decide)), bs_, if_pos rfl, nI_1]
        | some c' =>
          rw [en] at nxt
          have c2 := nx_lt hd c1 en
          have pe : PC d s al (14 * c + o) w = if tb al c' = true ∧ now_ s c' o ≤ lhr d then some (14 * c' + now_ s c' o) else none := by
            unfold PC
            rw [e1, e2, en]
          by_cases y : tb al c' = true
          · have nb := @now_le s c' o
            have ar := arrive_ok (Z := Z) (I := I) (L := L) (M := N) (R := R) hd r2 zq (by omega) hw h5 h3 hN c2 o1 (V (14 * c + o))
            by_cases x : now_ s c' o ≤ lhr d
            · rw [if_pos x] at ar
              rw [if_pos ⟨y, x⟩] at pe
              obtain ⟨M', m1, m2⟩ := ih (w + 1) (by omega) (up2 N q (14 * c' + now_ s c' o) (opm mk (N q (14 * c' + now_ s c' o)) (V (14 * c + o)))) (fun i hi => by rw [up2_ne hi]; exact hN i hi) (fun j hj => by
                rw [sW, pe]
                show _ = if j = 14 * c' + now_ s c' o then opm mk (stW (opm mk) (PC d s al) V (14 * c + o) w r (14 * c' + now_ s c' o)) (V (14 * c + o)) else _
                by_cases x : j = 14 * c' + now_ s c' o
                · subst x
                  rw [if_pos rfl, up2_s, hrN _ hj]
                · rw [if_neg x, up2_j x, hrN j hj])
              refine ⟨M', (itC_inl ?_).trans m1, m2⟩
              unfold B_X7_walkOn_48
              rw [if_neg nl4, if_neg z0, nxt, bs_, show oI (some c') = nI c' from rfl, has_ok (by omega), bs_, y, if_neg (show ¬ bI true = 0 by decide), ar, bs_, nI_1]
            · rw [if_neg x] at ar
              rw [if_neg (fun u => x u.2)] at pe
              obtain ⟨M', m1, m2⟩ := ih (w + 1) (by omega) N hN (fun j hj => by
                rw [hrN j hj, sW, pe]
                rfl)
              refine ⟨M', (itC_inl ?_).trans m1, m2⟩
              unfold B_X7_walkOn_48
              rw [if_neg nl4, if_neg z0, nxt, bs_, show oI (some c') = nI c' from rfl, has_ok (by omega), bs_, y, if_neg (show ¬ bI true = 0 by decide), ar, bs_, nI_1]
          · rw [if_neg (fun u => y u.1)] at pe
            obtain ⟨M', m1, m2⟩ := ih (w + 1) (by omega) N hN (fun j hj => by
              rw [hrN j hj, sW, pe]
              rfl)
            refine ⟨M', (itC_inl ?_).trans m1, m2⟩
            unfold B_X7_walkOn_48
            rw [if_neg nl4, if_neg z0, nxt, bs_, show oI (some c') = nI c' from rfl, has_ok (by omega), bs_, Bool.not_eq_true _ |>.mp y, if_pos (show bI false = 0 from rfl), nI_1]
    exact key 5 0 (by omega) M hM hr
theorem walkOn_ok {Z : Nat → Nat} {I : I_T} {L : L_T} {R : R_T} {a p q : Nat} (ha : a < 50) {d : ld_T} (hd : VD d) (cl : CL I L a d) {s : Nat → Bool} (r1 : R 59 1 = some p) (r2 : R 59 2 = some q) (zp : Z p = 896) (zq : Z q = 896) (q59 : 59 < q) (pq : p ≠ q) (hw : ∀ c, c < cs_ d → tb (L 59 4) c = !s c) (h5 : I 59 5 = nI (lhr d)) {mk : Bool} (h3 : I 59 3 = bI mk) (al : Int64) (hV : ∀ k, k < 896 → L p k ≠ 0 → k / 14 < cs_ d ∧ k % 14 ≤ 12) : ∃ L', D_X7_walkOn Z I L R 59 a al = some (L', up2 (up2 R 59 1 (some q)) 59 2 (some p)) ∧ (∀ i, i ≠ q → L' i = L i) ∧ ∀ j, j < 896 → L' q j = stK (opm mk) (PC d s al) (L p) 896 j := by
  have h64 := cs_le hd
  obtain ⟨M, m1, m2, m3, m4⟩ := fillL_ok (Z := Z) (I := I) (L := L) (R := R) (a := q) (v := 0) (by rw [zq]; decide)
  have clM : CL I M a d := cl.keep fun k hk => ⟨rfl, m2 _ (by omega)⟩
  have in2 : ∀ c, c < 64 → ∀ L0 : L_T, ∀ k o, o + k = 14 → ∀ N : L_T, (∀ i, i ≠ q → N i = L i) → (∀ j, j < 896 → N q j = stK (opm mk) (PC d s al) (L p) (14 * c + o) j) → ∃ N', itC (B_X7_walkOn_21 Z I L0 R 59 a al (nI c)) (nI o, N) = some (.inl (nI (c + 1), N')) ∧ (∀ i, i ≠ q → N' i = L i) ∧ ∀ j, j < 896 → N' q j = stK (opm mk) (PC d s al) (L p) (14 * (c + 1)) j := by
    intro c hc L0 k
    induction k with
    | zero =>
      intro o ho N hN hrN
      have : o = 14 := by omega
      subst this
      refine ⟨N, itC_inr ?_, hN, hrN⟩
      unfold B_X7_walkOn_21
      rw [if_neg (show ¬ nI 14 < 14 by decide), nI_1]
    | succ k ih =>
      intro o ho N hN hrN
      have e : nI c * 14 + nI o = nI (14 * c + o) := by rw [show (14 : Int32) = nI 14 from rfl, nI_mul, nI_add, Nat.mul_comm]
      have lt : nI o < 14 := (nl_lt (k := 14) (j := 14) rfl (by omega) (by omega)).mpr (by omega)
      obtain ⟨N', n1, n2, n3⟩ := walkOn_dir (Z := Z) (I := I) (L := L) (R := R) (p := p) ha hd cl r2 zq q59 hw h5 h3 al hc (show o < 14 by omega) (V := L p) (fun u => by
        have := hV (14 * c + o) (by omega) u
        omega) N hN hrN
      obtain ⟨N2, k1, k2⟩ := ih (o + 1) (by omega) N' n2 n3
      refine ⟨N2, (itC_inl ?_).trans k1, k2⟩
      unfold B_X7_walkOn_21
      rw [if_pos lt, r1, bs_]
      simp only [e]
      rw [getL_ok (by omega) (by omega), bs_, hN p pq]
      exact n1
  have in1 : ∀ k c, c + k = 64 → ∀ N : L_T, (∀ i, i ≠ q → N i = L i) → (∀ j, j < 896 → N q j = stK (opm mk) (PC d s al) (L p) (14 * c) j) → ∃ L', itC (B_X7_walkOn_11 Z I M R 59 a al) (nI c, N) = some (L', up2 (up2 R 59 1 (some q)) 59 2 (some p)) ∧ (∀ i, i ≠ q → L' i = L i) ∧ ∀ j, j < 896 → L' q j = stK (opm mk) (PC d s al) (L p) 896 j := by
    intro k
    induction k with
    | zero =>
      intro c hc N hN hrN
      have : c = 64 := by omega
      subst this
      refine ⟨N, itC_inr ?_, hN, hrN⟩
      unfold B_X7_walkOn_11
      rw [if_neg (show ¬ nI 64 < 64 by decide), r1, bs_, r2, bs_, bs_, bs_]
    | succ k ih =>
      intro c hc N hN hrN
      have lt : nI c < 64 := (nl_lt (k := 64) (j := 64) rfl (by omega) (by omega)).mpr (by omega)
      obtain ⟨N', n1, n2, n3⟩ := in2 c (by omega) N 14 0 (by omega) N hN hrN
      obtain ⟨L', k1, k2⟩ := ih (c + 1) (by omega) N' n2 n3
      refine ⟨L', (itC_inl ?_).trans k1, k2⟩
      unfold B_X7_walkOn_11
      rw [if_pos lt]
      exact n1
  obtain ⟨L', a1, a2⟩ := in1 64 0 (by omega) M m2 (fun j hj => by rw [m3 j (by omega)]; rfl)
  refine ⟨L', ?_, a2⟩
  rw [D_X7_walkOn, r2, bs_, m1, bs_]
  exact a1
