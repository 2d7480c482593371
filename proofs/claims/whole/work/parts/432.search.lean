/-! errands: the class's search -/
def pr_ (R : R_T) (p q : Nat) : R_T := up2 (up2 R 51 1 (some p)) 51 2 (some q)
theorem pr_1 {R : R_T} {p q : Nat} : pr_ R p q 51 1 = some p := by
  unfold pr_
  rw [up2_j (by omega), up2_s]
theorem pr_2 {R : R_T} {p q : Nat} : pr_ R p q 51 2 = some q := by
  unfold pr_
  rw [up2_s]
theorem pr_a {R : R_T} {p q i : Nat} (h : i ≠ 51) : pr_ R p q i = R i := by
  unfold pr_
  rw [up2_ne h, up2_ne h]
theorem pr_0 {R : R_T} {p q : Nat} : pr_ R p q 51 0 = R 51 0 := by
  unfold pr_
  rw [up2_j (by omega), up2_j (by omega)]
theorem pr_pr {R : R_T} {p q x y : Nat} : up2 (up2 (pr_ R p q) 51 1 (some x)) 51 2 (some y) = pr_ R x y := by
  funext i j
  by_cases e : i = 51
  · subst e
    by_cases j2 : j = 2
    · rw [j2, up2_s, pr_2]
    · by_cases j1 : j = 1
      · rw [j1, up2_j (by omega), up2_s, pr_1]
      · unfold pr_
        rw [up2_j j2, up2_j j1, up2_j j2, up2_j j1, up2_j j2, up2_j j1]
  · rw [up2_ne e, up2_ne e, pr_a e, pr_a e]
theorem pr_self {R : R_T} {p q : Nat} (h1 : R 51 1 = some p) (h2 : R 51 2 = some q) : pr_ R p q = R := by
  funext i j
  by_cases e : i = 51
  · subst e
    by_cases j2 : j = 2
    · rw [j2, pr_2, h2]
    · by_cases j1 : j = 1
      · rw [j1, pr_1, h1]
      · unfold pr_
        rw [up2_j j2, up2_j j1]
  · rw [pr_a e]
/-- the class's memory behind m minutes; best and now -/
def EIv (d : ld_T) (lim E c0 m p q : Nat) (I : I_T) (L : L_T) (B N : Nat → Nat) : Prop :=
  (∀ j, j < 1344 → I 52 j = nI (B j) ∧ I p j = nI (N j) ∧ I q j = 99) ∧ SpN d lim E B N ∧ (∀ c, c < 64 → (tb (L 51 4) c = true ↔ ∃ x, x < 21 ∧ N (21 * c + x) ≠ 99)) ∧ (∀ c, c < 64 → (tb (L 51 3) c = true ↔ ∃ x, x < 21 ∧ B (21 * c + x) ≠ 99)) ∧ (∀ j, j < 1344 → N j ≠ 99 → Rg d lim E c0 m (j / 21) (N j) (j % 21)) ∧ (∀ j, j < 1344 → B j ≠ 99 → ∃ t, t ≤ m ∧ Rg d lim E c0 t (j / 21) (B j) (j % 21)) ∧ (∀ j, j < 1344 → B j ≠ 99 → N j = B j ∨ ∀ w c a x, w < 5 → nx d (j / 21) w = some c → stp d lim E c (B j) (j % 21) = some (a, x) → B (21 * c + x) ≤ a) ∧ ∀ t, t ≤ m → ∀ c a x, Rg d lim E c0 t c a x → B (21 * c + x) ≤ a
theorem spread_ok {Z : Nat → Nat} {I0 : I_T} {L0 : L_T} {R : R_T} {p q a : Nat} {d : ld_T} {lim E c0 m : Nat} (g : SpG Z R p q a d lim E I0 L0) (h0 : c0 < cs_ d) {B N : Nat → Nat} (ev : EIv d lim E c0 m p q I0 L0 B N) : ∃ I' L' B' N', D_X1_spread Z I0 L0 R 51 a = some (I', L', up2 (up2 R 51 1 (some q)) 51 2 (some p)) ∧ EIv d lim E c0 (m + 1) q p I' L' B' N' ∧ (∀ i, i ≠ 52 → i ≠ p → i ≠ q → I' i = I0 i) ∧ (∀ i, i ≠ 51 → L' i = L0 i) ∧ L' 51 6 = L0 51 6 := by
  obtain ⟨v1, sn, v3, v4, v5, v6, v7, v8⟩ := ev
  obtain ⟨gp, ⟨r0, r1, r2⟩, ⟨z52, zp, zq⟩, ⟨ha, hd, cl⟩, hw, ⟨l60, E20⟩, e7, e8, e9⟩ := id g
  have h64 := cs_le hd
  generalize hL : up2 L0 51 5 (0 : Int64) = L5
  have l5 : ∀ j, j ≠ 5 → L5 51 j = L0 51 j := fun j hj => by rw [← hL, up2_j hj]
  have l1 : ∀ i, i ≠ 51 → L5 i = L0 i := fun i hi => by rw [← hL, up2_ne hi]
  have l55 : L5 51 5 = 0 := by rw [← hL, up2_s]
  have g5 : SpG Z R p q a d lim E I0 L5 := ⟨gp, ⟨r0, r1, r2⟩, ⟨z52, zp, zq⟩, ⟨ha, hd, cl.keep fun i hi => ⟨rfl, l1 _ (by omega)⟩⟩, by rw [l5 6 (by omega)]; exact hw, ⟨l60, E20⟩, e7, e8, e9⟩
  obtain ⟨I', L', b, h, k1, ⟨s1, s2, s3, s4, s5⟩, k3, k4, k5⟩ := sp_loop g5 sn (by rw [l5 4 (by omega)]; exact v3) I0 L5 64 0 (by omega) I0 L5 B (fun _ => 99) ⟨fun j hj => (v1 j hj).1, fun j hj => (v1 j hj).2.2, fun j hj => Or.inl ⟨rfl, rfl⟩, fun c hc => by
    rw [l55, tb_0]
    exact ⟨(fun u => by cases u), fun ⟨x, _, u⟩ => (u rfl).elim⟩, fun j hj u => (u rfl).elim⟩ ⟨fun _ _ _ _ => rfl, fun _ _ => rfl, fun _ _ => rfl⟩ (fun j hj => by rw [if_neg (by omega)]; exact (v1 j hj).2.1) (fun j hj => by omega)
  have bB : ∀ j, j < 1344 → b j ≤ B j := fun j hj => by rcases s3 j hj with u | u <;> omega
  have B99 : ∀ j, j < 1344 → B j ≤ 99 := fun j hj => (sn j hj).1
  -- a state that came
  have come : ∀ j, j < 1344 → h j ≠ 99 → Rg d lim E c0 (m + 1) (j / 21) (h j) (j % 21) ∧ j / 21 < cs_ d ∧ h j ≤ lim ∧ j % 21 ≤ E := fun j hj hn => by
    obtain ⟨j1, w, c, x, q1, q2, q3, q4, q5, q6⟩ := s5 j hj hn
    have nn := (sn j1 q1).2.2 q3
    have c2 := nx_lt hd nn.1 q4
    have le := stp_le q5 nn.2.1
    have d1 : j / 21 = c := by omega
    have d2 : j % 21 = x := by omega
    rw [d1, d2]
    exact ⟨⟨j1 / 21, N j1, j1 % 21, w, v5 j1 q1 q3, q2, q4, q5⟩, c2, le.1, le.2⟩
  refine ⟨I', _, b, h, by rw [D_X1_spread, bs_, hL]; exact k1, ⟨fun j hj => ⟨s1 j hj, s2 j hj, k4 j hj⟩, fun j hj => ⟨Nat.le_trans (bB j hj) (B99 j hj), ?_, fun hn => (come j hj hn).2⟩, fun c hc => ?_, fun c hc => ?_, fun j hj hn => (come j hj hn).1, fun j hj hn => ?_, fun j hj hn => ?_, fun t ht c a' x hr => ?_⟩, fun i i1 i2 i3 => k3.1 i i1 i2 i3, fun i hi => by rw [up2_ne hi, up2_ne hi, k3.2.1 i hi, l1 i hi], by rw [up2_j (by omega), up2_j (by omega), k3.2.2 6 (by omega), l5 6 (by omega)]⟩
  · have := B99 j hj
    rcases s3 j hj with u | u <;> omega
  · rw [up2_j (by omega), up2_s]
    exact s4 c hc
  · rw [up2_s, tb_or, Bool.or_eq_true, s4 c hc, k3.2.2 3 (by omega), l5 3 (by omega), v4 c hc]
    constructor
    · rintro (⟨x, x1, x2⟩ | ⟨x, x1, x2⟩)
      · have := bB (21 * c + x) (by omega)
        have := B99 (21 * c + x) (by omega)
        exact ⟨x, x1, by omega⟩
      · refine ⟨x, x1, ?_⟩
        rcases s3 (21 * c + x) (by omega) with u | u <;> omega
    · rintro ⟨x, x1, x2⟩
      rcases s3 (21 * c + x) (by omega) with u | u
      · exact Or.inl ⟨x, x1, by omega⟩
      · exact Or.inr ⟨x, x1, by omega⟩
  · rcases s3 j hj with u | u
    · obtain ⟨t, t1, t2⟩ := v6 j hj (by omega)
      rw [u.1]
      exact ⟨t, by omega, t2⟩
    · have := (come j hj (by omega)).1
      rw [u.2] at this
      exact ⟨m + 1, Nat.le_refl _, this⟩
  · rcases s3 j hj with u | u
    · refine Or.inr fun w c a' x w5 q1 q2 => ?_
      have jj := v7 j hj (by omega)
      rw [u.1] at q2
      rcases jj with y | y
      · rw [← y] at q2
        exact k5 j hj (by omega) w c a' x w5 q1 q2
      · have l := y w c a' x w5 q1 q2
        obtain ⟨t, t1, t2⟩ := v6 j hj (by omega)
        have ri := Rg_in hd h0 t _ _ _ t2
        have c2 := nx_lt hd ri.1 q1
        have le := stp_le q2 ri.2.1
        exact Nat.le_trans (bB _ (by omega)) l
    · exact Or.inl u.2
  · by_cases z : t ≤ m
    · have ri := Rg_in hd h0 t _ _ _ hr
      exact Nat.le_trans (bB _ (by omega)) (v8 t z c a' x hr)
    · have : t = m + 1 := by omega
      subst this
      have ri := Rg_in hd h0 _ _ _ _ hr
      obtain ⟨c1, on1, r1', w, q1, q2, q3, q4⟩ := hr
      have ri1 := Rg_in hd h0 m _ _ _ q1
      have le := v8 m (Nat.le_refl _) c1 on1 r1' q1
      have jl : 21 * c1 + r1' < 1344 := by omega
      have d1 : (21 * c1 + r1') / 21 = c1 := by omega
      have d2 : (21 * c1 + r1') % 21 = r1' := by omega
      obtain ⟨a'', a1, a2⟩ := stp_mono q4 le
      have j7 := v7 (21 * c1 + r1') jl (by omega)
      rw [d1, d2] at j7
      rcases j7 with y | y
      · have := k5 (21 * c1 + r1') jl (by omega) w c a'' x q2 (by rw [d1]; exact q3) (by rw [d2, y]; exact a2)
        omega
      · have := y w c a'' x q2 q3 a2
        have := bB (21 * c + x) (by omega)
        omega
theorem EIv.seen {d : ld_T} (hd : VD d) {lim E c0 m p q : Nat} (l60 : lim ≤ 60) (E20 : E ≤ 20) (h0 : c0 < cs_ d) {I : I_T} {L : L_T} {B N : Nat → Nat} (ev : EIv d lim E c0 m p q I L B N) {c : Nat} (hc : c < 64) : tb (L 51 3) c = true ↔ ∃ t, t ≤ m ∧ ∃ on r, Rg d lim E c0 t c on r := by
  obtain ⟨v1, sn, v3, v4, v5, v6, v7, v8⟩ := ev
  rw [v4 c hc]
  constructor
  · rintro ⟨x, x1, x2⟩
    obtain ⟨t, t1, t2⟩ := v6 (21 * c + x) (by omega) x2
    rw [show (21 * c + x) / 21 = c by omega] at t2
    exact ⟨t, t1, _, _, t2⟩
  · rintro ⟨t, t1, on, r, h⟩
    have := v8 t t1 c on r h
    have ri := Rg_in hd h0 t _ _ _ h
    exact ⟨r, by omega, by omega⟩
theorem EIv.done {d : ld_T} (hd : VD d) {lim E c0 m p q : Nat} (l60 : lim ≤ 60) (E20 : E ≤ 20) (h0 : c0 < cs_ d) {I : I_T} {L : L_T} {B N : Nat → Nat} (ev : EIv d lim E c0 m p q I L B N) (z : L 51 4 = 0) : ∀ t c on r, Rg d lim E c0 t c on r → B (21 * c + r) ≤ on := by
  obtain ⟨v1, sn, v3, v4, v5, v6, v7, v8⟩ := ev
  have h64 := cs_le hd
  have no : ∀ j, j < 1344 → N j = 99 := fun j hj => Classical.byContradiction fun u => by
    have := (v3 (j / 21) (by omega)).mpr ⟨j % 21, by omega, by rw [show 21 * (j / 21) + j % 21 = j by omega]; exact u⟩
    rw [z, tb_0] at this
    cases this
  intro t
  induction t with
  | zero => exact fun c on r h => v8 0 (Nat.zero_le _) c on r h
  | succ t ih =>
    intro c on r h
    have ri := Rg_in hd h0 _ _ _ _ h
    obtain ⟨c1, on1, r1, w, q1, q2, q3, q4⟩ := h
    have ri1 := Rg_in hd h0 t _ _ _ q1
    have le := ih c1 on1 r1 q1
    have d1 : (21 * c1 + r1) / 21 = c1 := by omega
    have d2 : (21 * c1 + r1) % 21 = r1 := by omega
    obtain ⟨a'', a1, a2⟩ := stp_mono q4 le
    have j7 := v7 (21 * c1 + r1) (by omega) (by omega)
    rw [d1, d2] at j7
    rcases j7 with y | y
    · have := no (21 * c1 + r1) (by omega)
      omega
    · have := y w c a'' r q2 q3 a2
      omega
theorem EIv.all {d : ld_T} (hd : VD d) {lim E c0 m p q : Nat} (l60 : lim ≤ 60) (E20 : E ≤ 20) (h0 : c0 < cs_ d) {I : I_T} {L : L_T} {B N : Nat → Nat} (ev : EIv d lim E c0 m p q I L B N) (z : L 51 4 = 0) {c : Nat} (hc : c < 64) {t on r : Nat} (h : Rg d lim E c0 t c on r) : tb (L 51 3) c = true := by
  have := EIv.done hd l60 E20 h0 ev z t c on r h
  have ri := Rg_in hd h0 t _ _ _ h
  exact (ev.2.2.2.1 c hc).mpr ⟨r, by omega, by omega⟩
