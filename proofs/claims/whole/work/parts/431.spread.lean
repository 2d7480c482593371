/-! errands: the class's spread -/
/-- what the class's search stands on -/
def SpG (Z : Nat → Nat) (R : R_T) (p q a : Nat) (d : ld_T) (lim E : Nat) (I0 : I_T) (L0 : L_T) : Prop := ((p = 53 ∧ q = 54) ∨ (p = 54 ∧ q = 53)) ∧ (R 51 0 = some 52 ∧ R 51 1 = some p ∧ R 51 2 = some q) ∧ (Z 52 = 1344 ∧ Z p = 1344 ∧ Z q = 1344) ∧ (a < 45 ∧ VD d ∧ CL I0 L0 a d) ∧ (∀ c, c < cs_ d → tb (L0 51 6) c = !slv d (lv d) c) ∧ (lim ≤ 60 ∧ E ≤ 20) ∧ I0 51 7 = nI lim ∧ I0 51 8 = nI (laf d) ∧ I0 51 9 = nI E
/-- what the places of the minute before hold -/
def SpN (d : ld_T) (lim E : Nat) (B N : Nat → Nat) : Prop := ∀ j, j < 1344 → B j ≤ 99 ∧ N j ≤ 99 ∧ (N j ≠ 99 → j / 21 < cs_ d ∧ N j ≤ lim ∧ j % 21 ≤ E)
/-- all pushed out of the first k places -/
def SpD (d : ld_T) (lim E : Nat) (N : Nat → Nat) (k : Nat) (b : Nat → Nat) : Prop := ∀ j, j < k → N j ≠ 99 → ∀ w c a x, w < 5 → nx d (j / 21) w = some c → stp d lim E c (N j) (j % 21) = some (a, x) → b (21 * c + x) ≤ a
theorem SpD.le {d : ld_T} {lim E : Nat} (hd : VD d) {B N : Nat → Nat} (sn : SpN d lim E B N) {k : Nat} (hk : k ≤ 1344) {b b' : Nat → Nat} (E20 : E ≤ 20) (h : SpD d lim E N k b) (le : ∀ j, j < 1344 → b' j ≤ b j) : SpD d lim E N k b' := fun j hj hn w c a x h1 h2 h3 => by
  have := (sn j (by omega)).2.2 hn
  have c2 := nx_lt hd this.1 h2
  have := cs_le hd
  have := stp_le h3 ‹_ ∧ _ ∧ _›.2.1
  exact Nat.le_trans (le _ (by omega)) (h j hj hn w c a x h1 h2 h3)
theorem sf_ways {Z : Nat → Nat} {I0 : I_T} {L0 : L_T} {R : R_T} {p q a : Nat} {d : ld_T} {lim E : Nat} (g : SpG Z R p q a d lim E I0 L0) {B N : Nat → Nat} (sn : SpN d lim E B N) {j1 : Nat} (hj1 : j1 < 1344) (I9 : I_T) (L9 : L_T) {I : I_T} {L : L_T} {b h : Nat → Nat} (sp : SpI d lim E B N q I L b h) (f : SpF p q I0 L0 I L) {Ip : Nat → Int32} (ip : I p = Ip) : ∃ I' L' b' h', itC (B_X1_spreadFrom_43 Z I9 L9 R 51 a (nI (j1 / 21)) (nI (j1 % 21)) (nI (N j1))) (0, I, L) = some (.inl (nI (j1 % 21 + 1), I', L')) ∧ SpI d lim E B N q I' L' b' h' ∧ SpF p q I0 L0 I' L' ∧ I' p = Ip ∧ (∀ j, j < 1344 → b' j ≤ b j) ∧ (N j1 ≠ 99 → ∀ w c a x, w < 5 → nx d (j1 / 21) w = some c → stp d lim E c (N j1) (j1 % 21) = some (a, x) → b' (21 * c + x) ≤ a) := by
  obtain ⟨gp, ⟨r0, r1, r2⟩, ⟨z52, zp, zq⟩, ⟨ha, hd, cl⟩, hw, ⟨l60, E20⟩, e7, e8, e9⟩ := g
  have h64 := cs_le hd
  obtain ⟨_, n99, nn⟩ := sn j1 hj1
  by_cases z : N j1 = 99
  · refine ⟨I, L, b, h, itC_inr ?_, sp, f, ip, fun _ _ => Nat.le_refl _, fun u => (u z).elim⟩
    unfold B_X1_spreadFrom_43
    dsimp only
    rw [if_neg (show ¬ (4 : Int32) < 0 by decide), if_pos (show nI (N j1) = 99 from congrArg nI z), nI_1]
  · obtain ⟨c1, nl, rE⟩ := nn z
    have z9 : ¬ nI (N j1) = 99 := fun u => z ((nI_eq (b := 99) (by omega) (by omega)).mp u)
    have key : ∀ u w, w + u = 5 → ∀ (I : I_T) (L : L_T) (b' h' : Nat → Nat), SpI d lim E B N q I L b' h' → SpF p q I0 L0 I L → I p = Ip → (∀ j, j < 1344 → b' j ≤ b j) → (∀ w' c a x, w' < w → nx d (j1 / 21) w' = some c → stp d lim E c (N j1) (j1 % 21) = some (a, x) → b' (21 * c + x) ≤ a) → ∃ I' L' b' h', itC (B_X1_spreadFrom_43 Z I9 L9 R 51 a (nI (j1 / 21)) (nI (j1 % 21)) (nI (N j1))) (nI w, I, L) = some (.inl (nI (j1 % 21 + 1), I', L')) ∧ SpI d lim E B N q I' L' b' h' ∧ SpF p q I0 L0 I' L' ∧ I' p = Ip ∧ (∀ j, j < 1344 → b' j ≤ b j) ∧ (N j1 ≠ 99 → ∀ w c a x, w < 5 → nx d (j1 / 21) w = some c → stp d lim E c (N j1) (j1 % 21) = some (a, x) → b' (21 * c + x) ≤ a) := by
      intro u
      induction u with
      | zero =>
        intro w hw5 I L b' h' sp f ip le dn
        have : w = 5 := by omega
        subst this
        refine ⟨I, L, b', h', itC_inr ?_, sp, f, ip, le, fun _ => dn⟩
        unfold B_X1_spreadFrom_43
        dsimp only
        rw [if_pos (show (4 : Int32) < nI 5 by decide), nI_1]
      | succ u ih =>
        intro w hw5 I L b' h' sp f ip le dn
        have clN : CL I L a d := cl.keep fun i hi => ⟨f.1 _ (by omega) (by omega) (by omega), f.2.1 _ (by omega)⟩
        have nxt := nextC_ok (Z := Z) (R := R) hd clN c1 (show w ≤ 4 by omega)
        have nl4 : ¬ (4 : Int32) < nI w := fun u => by
          have := (nI_ltI (a := 4) (b := w) (by omega) (by omega)).mp u
          omega
        cases en : nx d (j1 / 21) w with
        | none =>
          rw [en] at nxt
          obtain ⟨I', L', b2, h2, k1, k2⟩ := ih (w + 1) (by omega) I L b' h' sp f ip le (fun w' c a x hw' h1 h2 => by
            by_cases y : w' = w
            · rw [y, en] at h1
              cases h1
            · exact dn w' c a x (by omega) h1 h2)
          refine ⟨I', L', b2, h2, (itC_inl ?_).trans k1, k2⟩
          unfold B_X1_spreadFrom_43
          dsimp only
          rw [if_neg nl4, if_neg z9, nxt, bs_, show oI none = -1 from rfl, if_pos rfl, nI_1]
        | some c =>
          rw [en] at nxt
          have c2 := nx_lt hd c1 en
          obtain ⟨I1, L1, b1, h1, a1, a2, a3, a4, a5, a6⟩ := arr_sp (Z := Z) (R := R) (p := p) (by omega) r0 r2 z52 zq hd hw l60 e7 e8 e9 E20 (fun j hj => (sn j hj).1) hj1 (show w < 5 by omega) nl rE en c2 sp f ip
          obtain ⟨I', L', b2, h2, k1, k2⟩ := ih (w + 1) (by omega) I1 L1 b1 h1 a2 a3 a4 (fun j hj => Nat.le_trans (a5 j hj) (le j hj)) (fun w' c' a x hw' q1 q2 => by
            by_cases y : w' = w
            · rw [y, en] at q1
              have := Option.some.inj q1
              subst this
              exact a6 a x q2
            · have cl2 := nx_lt hd c1 q1
              have := stp_le q2 nl
              exact Nat.le_trans (a5 _ (by omega)) (dn w' c' a x (by omega) q1 q2))
          refine ⟨I', L', b2, h2, (itC_inl ?_).trans k1, k2⟩
          unfold B_X1_spreadFrom_43
          dsimp only
          rw [if_neg nl4, if_neg z9, nxt, bs_, show oI (some c) = nI c from rfl, if_neg (nI_neg1 (by omega)), a1, bs_, nI_1]
    exact key 5 0 (by omega) I L b h sp f ip (fun _ _ => Nat.le_refl _) (fun w' c a x hw' => by omega)
theorem sf_cell {Z : Nat → Nat} {I0 : I_T} {L0 : L_T} {R : R_T} {p q a : Nat} {d : ld_T} {lim E : Nat} (g : SpG Z R p q a d lim E I0 L0) {B N : Nat → Nat} (sn : SpN d lim E B N) {c1 : Nat} (hc : c1 < 64) {I : I_T} {L : L_T} {b h : Nat → Nat} (sp : SpI d lim E B N q I L b h) (f : SpF p q I0 L0 I L) (ip : ∀ j, j < 1344 → I p j = nI (if j < 21 * c1 then 99 else N j)) (dn : SpD d lim E N (21 * c1) b) : ∃ I' L' b' h', D_X1_spreadFrom Z I L R 51 a (nI c1) = some (I', L') ∧ SpI d lim E B N q I' L' b' h' ∧ SpF p q I0 L0 I' L' ∧ (∀ j, j < 1344 → I' p j = nI (if j < 21 * (c1 + 1) then 99 else N j)) ∧ SpD d lim E N (21 * (c1 + 1)) b' := by
  obtain ⟨gp, ⟨r0, r1, r2⟩, ⟨z52, zp, zq⟩, ⟨ha, hd, cl⟩, hw, ⟨l60, E20⟩, e7, e8, e9⟩ := id g
  have key : ∀ u r, r + u = E + 1 → ∀ (I1 : I_T) (L1 : L_T) (b h : Nat → Nat), SpI d lim E B N q I1 L1 b h → SpF p q I0 L0 I1 L1 → (∀ j, j < 1344 → I1 p j = nI (if j < 21 * c1 + r then 99 else N j)) → SpD d lim E N (21 * c1 + r) b → ∃ I' L' b' h', itC (B_X1_spreadFrom_2 Z I L R 51 a (nI c1)) (nI r, I1, L1) = some (I', L') ∧ SpI d lim E B N q I' L' b' h' ∧ SpF p q I0 L0 I' L' ∧ (∀ j, j < 1344 → I' p j = nI (if j < 21 * (c1 + 1) then 99 else N j)) ∧ SpD d lim E N (21 * (c1 + 1)) b' := by
    intro u
    induction u with
    | zero =>
      intro r hr I1 L1 b h sp f ip dn
      have : r = E + 1 := by omega
      subst this
      have no : ∀ j, j < 1344 → 21 * c1 + (E + 1) ≤ j → j < 21 * (c1 + 1) → N j = 99 := fun j hj h1 h2 => Classical.byContradiction fun u => by
        have := (sn j hj).2.2 u
        omega
      refine ⟨I1, L1, b, h, itC_inr ?_, sp, f, fun j hj => ?_, fun j hj hn => ?_⟩
      · unfold B_X1_spreadFrom_2
        dsimp only
        rw [if_pos (show I1 51 9 < nI (E + 1) by rw [f.1 51 (by omega) (by omega) (by omega), e9]; exact (nI_ltI (by omega) (by omega)).mpr (by omega))]
      · rw [ip j hj]
        by_cases y : j < 21 * c1 + (E + 1)
        · rw [if_pos y, if_pos (by omega)]
        · rw [if_neg y]
          by_cases y2 : j < 21 * (c1 + 1)
          · rw [if_pos y2, no j hj (by omega) y2]
          · rw [if_neg y2]
      · by_cases y : j < 21 * c1 + (E + 1)
        · exact dn j y hn
        · exact (hn (no j (by omega) (by omega) hj)).elim
    | succ u ih =>
      intro r hr I1 L1 b h sp f ip dn
      have hj : 21 * c1 + r < 1344 := by omega
      have d1 : (21 * c1 + r) / 21 = c1 := by omega
      have d2 : (21 * c1 + r) % 21 = r := by omega
      have e : nI c1 * 21 + nI r = nI (21 * c1 + r) := by rw [show (21 : Int32) = nI 21 from rfl, nI_mul, nI_add, Nat.mul_comm]
      have pv : I1 p (21 * c1 + r) = nI (N (21 * c1 + r)) := by rw [ip _ hj, if_neg (by omega)]
      have sp1 : SpI d lim E B N q (up2 I1 p (21 * c1 + r) 99) L1 b h := by
        obtain ⟨s1, s2, s3⟩ := sp
        exact ⟨fun j hj => by rw [up2_ne (by omega)]; exact s1 j hj, fun j hj => by rw [up2_ne (by omega)]; exact s2 j hj, s3⟩
      obtain ⟨I2, L2, b2, h2, a1, a2, a3, a4, a5, a6⟩ := sf_ways g sn hj (up2 I1 p (21 * c1 + r) 99) L1 sp1 ⟨fun i h1 h2 h3 => by rw [up2_ne h2]; exact f.1 i h1 h2 h3, f.2⟩ rfl
      rw [d1, d2] at a1
      obtain ⟨I', L', b', h', k1, k2⟩ := ih (r + 1) (by omega) I2 L2 b2 h2 a2 a3 (fun j hj => by
        rw [a4]
        by_cases y : j = 21 * c1 + r
        · rw [y, up2_s, if_pos (by omega)]
          rfl
        · rw [up2_j y, ip j hj]
          by_cases y2 : j < 21 * c1 + r
          · rw [if_pos y2, if_pos (by omega)]
          · rw [if_neg y2, if_neg (by omega)]) (fun j hj2 hn w c a x h1 h2 h3 => by
        by_cases y : j = 21 * c1 + r
        · subst y
          exact a6 hn w c a x h1 h2 h3
        · exact (SpD.le hd sn (by omega) E20 dn a5) j (by omega) hn w c a x h1 h2 h3)
      refine ⟨I', L', b', h', (itC_inl ?_).trans k1, k2⟩
      unfold B_X1_spreadFrom_2
      dsimp only
      rw [if_neg (show ¬ I1 51 9 < nI r from fun u => by
        rw [f.1 51 (by omega) (by omega) (by omega), e9] at u
        have := (nI_ltI (by omega) (by omega)).mp u
        omega), r1, bs_, e, get_ok (by omega) (by omega), bs_, put_ok (by omega) (by omega), bs_, pv]
      exact a1
  rw [D_X1_spreadFrom]
  exact key (E + 1) 0 (by omega) I L b h sp f ip dn
theorem sp_loop {Z : Nat → Nat} {I0 : I_T} {L0 : L_T} {R : R_T} {p q a : Nat} {d : ld_T} {lim E : Nat} (g : SpG Z R p q a d lim E I0 L0) {B N : Nat → Nat} (sn : SpN d lim E B N) (act : ∀ c, c < 64 → (tb (L0 51 4) c = true ↔ ∃ x, x < 21 ∧ N (21 * c + x) ≠ 99)) (I9 : I_T) (L9 : L_T) : ∀ u c, c + u = 64 → ∀ (I1 : I_T) (L1 : L_T) (b h : Nat → Nat), SpI d lim E B N q I1 L1 b h → SpF p q I0 L0 I1 L1 → (∀ j, j < 1344 → I1 p j = nI (if j < 21 * c then 99 else N j)) → SpD d lim E N (21 * c) b → ∃ I' L' b' h', itC (B_X1_spread_7 Z I9 L9 R 51 a) (nI c, I1, L1) = some (I', up2 (up2 L' 51 4 (L' 51 5)) 51 3 (L' 51 3 ||| L' 51 5), up2 (up2 R 51 1 (some q)) 51 2 (some p)) ∧ SpI d lim E B N q I' L' b' h' ∧ SpF p q I0 L0 I' L' ∧ (∀ j, j < 1344 → I' p j = 99) ∧ SpD d lim E N 1344 b' := by
  intro u
  obtain ⟨gp, ⟨r0, r1, r2⟩, ⟨z52, zp, zq⟩, ⟨ha, hd, cl⟩, hw, ⟨l60, E20⟩, e7, e8, e9⟩ := id g
  induction u with
  | zero =>
    intro c hc I1 L1 b h sp f ip dn
    have : c = 64 := by omega
    subst this
    refine ⟨I1, L1, b, h, itC_inr ?_, sp, f, fun j hj => by rw [ip j hj, if_pos (by omega)]; rfl, dn⟩
    unfold B_X1_spread_7
    dsimp only
    rw [if_neg (show ¬ nI 64 < 64 by decide), r1, bs_, r2, bs_, bs_, bs_, bs_, bs_, up2_j (by omega), up2_j (by omega)]
  | succ u ih =>
    intro c hc I1 L1 b h sp f ip dn
    have lt : nI c < 64 := (nl_lt (k := 64) (j := 64) rfl (by omega) (by omega)).mpr (by omega)
    have ac := act c (by omega)
    rw [← f.2.2 4 (by omega)] at ac
    cases t : tb (L1 51 4) c with
    | false =>
      have no : ∀ j, 21 * c ≤ j → j < 21 * (c + 1) → N j = 99 := fun j h1 h2 => Classical.byContradiction fun u => by
        have := ac.mpr ⟨j - 21 * c, by omega, by rw [show 21 * c + (j - 21 * c) = j by omega]; exact u⟩
        rw [t] at this
        cases this
      obtain ⟨I', L', b', h', k1, k2⟩ := ih (c + 1) (by omega) I1 L1 b h sp f (fun j hj => by
        rw [ip j hj]
        by_cases y : j < 21 * c
        · rw [if_pos y, if_pos (by omega)]
        · rw [if_neg y]
          by_cases y2 : j < 21 * (c + 1)
          · rw [if_pos y2, no j (by omega) y2]
          · rw [if_neg y2]) (fun j hj hn => by
        by_cases y : j < 21 * c
        · exact dn j y hn
        · exact (hn (no j (by omega) hj)).elim)
      refine ⟨I', L', b', h', (itC_inl ?_).trans k1, k2⟩
      unfold B_X1_spread_7
      dsimp only
      rw [if_pos lt, has_ok (by omega), bs_, t, if_pos (show bI false = 0 from rfl), nI_1]
    | true =>
      obtain ⟨I2, L2, b2, h2, a1, a2, a3, a4, a5⟩ := sf_cell g sn (show c < 64 by omega) sp f ip dn
      obtain ⟨I', L', b', h', k1, k2⟩ := ih (c + 1) (by omega) I2 L2 b2 h2 a2 a3 a4 a5
      refine ⟨I', L', b', h', (itC_inl ?_).trans k1, k2⟩
      unfold B_X1_spread_7
      dsimp only
      rw [if_pos lt, has_ok (by omega), bs_, t, if_neg (show ¬ bI true = 0 by decide), a1, bs_, nI_1]
