/-! errands: what can be reached, minute by minute -/
/-- ashore and rest behind a step onto a cell -/
def stp (d : ld_T) (lim E c on r : Nat) : Option (Nat × Nat) := if slv d (lv d) c = true then (if on < lim then some (on + 1, 0) else none) else some (if laf d ≤ min E (r + 1) then 0 else on, min E (r + 1))
/-- one can be there so after so many minutes -/
def Rg (d : ld_T) (lim E c0 : Nat) : Nat → Nat → Nat → Nat → Prop
  | 0, c, on, r => c = c0 ∧ on = 0 ∧ r = 0
  | t + 1, c, on, r => ∃ c1 on1 r1 w, Rg d lim E c0 t c1 on1 r1 ∧ w < 5 ∧ nx d c1 w = some c ∧ stp d lim E c on1 r1 = some (on, r)
theorem stp_le {d : ld_T} {lim E c on r a x : Nat} (h : stp d lim E c on r = some (a, x)) (ho : on ≤ lim) : a ≤ lim ∧ x ≤ E := by
  unfold stp at h
  by_cases s : slv d (lv d) c = true
  · rw [if_pos s] at h
    by_cases z : on < lim
    · rw [if_pos z] at h
      have := Option.some.inj h
      injection this with h1 h2
      omega
    · rw [if_neg z] at h
      cases h
  · rw [if_neg s] at h
    have := Option.some.inj h
    injection this with h1 h2
    by_cases z : laf d ≤ min E (r + 1)
    · rw [if_pos z] at h1
      omega
    · rw [if_neg z] at h1
      omega
theorem stp_mono {d : ld_T} {lim E c on r a x b : Nat} (h : stp d lim E c on r = some (a, x)) (hb : b ≤ on) : ∃ a', a' ≤ a ∧ stp d lim E c b r = some (a', x) := by
  unfold stp at h ⊢
  by_cases s : slv d (lv d) c = true
  · rw [if_pos s] at h ⊢
    by_cases z : on < lim
    · rw [if_pos z] at h
      have := Option.some.inj h
      injection this with h1 h2
      exact ⟨b + 1, by omega, by rw [if_pos (by omega), h2]⟩
    · rw [if_neg z] at h
      cases h
  · rw [if_neg s] at h ⊢
    have := Option.some.inj h
    injection this with h1 h2
    by_cases z : laf d ≤ min E (r + 1)
    · rw [if_pos z] at h1 ⊢
      exact ⟨0, by omega, by rw [h2]⟩
    · rw [if_neg z] at h1 ⊢
      exact ⟨b, by omega, by rw [h2]⟩
theorem Rg_in {d : ld_T} (hd : VD d) {lim E c0 : Nat} (hc : c0 < cs_ d) : ∀ t c on r, Rg d lim E c0 t c on r → c < cs_ d ∧ on ≤ lim ∧ r ≤ E
  | 0, c, on, r, h => by
    obtain ⟨h1, h2, h3⟩ := h
    omega
  | t + 1, c, on, r, h => by
    obtain ⟨c1, on1, r1, w, h1, h2, h3, h4⟩ := h
    have ih := Rg_in hd hc t c1 on1 r1 h1
    have := stp_le h4 ih.2.1
    exact ⟨nx_lt hd ih.1 h3, this.1, this.2⟩
theorem Rg_0 {d : ld_T} (h0 : laf d = 0) {lim c0 : Nat} (E E' : Nat) : ∀ t c on r, Rg d lim E c0 t c on r → ∃ r', Rg d lim E' c0 t c on r'
  | 0, c, on, r, h => ⟨0, h.1, h.2.1, rfl⟩
  | t + 1, c, on, r, h => by
    obtain ⟨c1, on1, r1, w, h1, h2, h3, h4⟩ := h
    obtain ⟨r1', ih⟩ := Rg_0 h0 E E' t c1 on1 r1 h1
    have : ∃ r', stp d lim E' c on1 r1' = some (on, r') := by
      unfold stp at h4 ⊢
      by_cases s : slv d (lv d) c = true
      · rw [if_pos s] at h4 ⊢
        exact ⟨r, h4⟩
      · rw [if_neg s] at h4 ⊢
        rw [if_pos (by omega)] at h4 ⊢
        have := Option.some.inj h4
        injection this with h5 h6
        exact ⟨_, by rw [← h5]⟩
    obtain ⟨r', e⟩ := this
    exact ⟨r', c1, on1, r1', w, ih, h2, h3, e⟩
/-- one can be in the cell after so many minutes -/
def Rt (d : ld_T) (lim c0 t c : Nat) : Prop := ∃ on r, Rg d lim (laf d) c0 t c on r
theorem Rt_1 {d : ld_T} {lim c0 t c : Nat} : Rt d lim c0 t c ↔ ∃ on r, Rg d lim (max (laf d) 1) c0 t c on r := by
  by_cases h0 : laf d = 0
  · constructor
    · rintro ⟨on, r, h⟩
      obtain ⟨r', h'⟩ := Rg_0 h0 (laf d) (max (laf d) 1) t c on r h
      exact ⟨on, r', h'⟩
    · rintro ⟨on, r, h⟩
      obtain ⟨r', h'⟩ := Rg_0 h0 (max (laf d) 1) (laf d) t c on r h
      exact ⟨on, r', h'⟩
  · rw [show max (laf d) 1 = laf d by omega]
    exact Iff.rfl
/-- what is known of the class's memory while it spreads; best, what comes and the next cells -/
def SpI (d : ld_T) (lim E : Nat) (B N : Nat → Nat) (q : Nat) (I : I_T) (L : L_T) (b h : Nat → Nat) : Prop :=
  (∀ j, j < 1344 → I 52 j = nI (b j)) ∧ (∀ j, j < 1344 → I q j = nI (h j)) ∧ (∀ j, j < 1344 → (b j = B j ∧ h j = 99) ∨ (b j < B j ∧ h j = b j)) ∧ (∀ c, c < 64 → (tb (L 51 5) c = true ↔ ∃ x, x < 21 ∧ h (21 * c + x) ≠ 99)) ∧ (∀ j, j < 1344 → h j ≠ 99 → ∃ j1 w c x, j1 < 1344 ∧ w < 5 ∧ N j1 ≠ 99 ∧ nx d (j1 / 21) w = some c ∧ stp d lim E c (N j1) (j1 % 21) = some (h j, x) ∧ j = 21 * c + x)
/-- what does not change while it spreads -/
def SpF (p q : Nat) (I0 : I_T) (L0 : L_T) (I : I_T) (L : L_T) : Prop := (∀ i, i ≠ 52 → i ≠ p → i ≠ q → I i = I0 i) ∧ (∀ i, i ≠ 51 → L i = L0 i) ∧ ∀ j, j ≠ 5 → L 51 j = L0 51 j
theorem arr_run {Z : Nat → Nat} {I : I_T} {L : L_T} {R : R_T} {q : Nat} (r0 : R 51 0 = some 52) (r2 : R 51 2 = some q) (z52 : Z 52 = 1344) (zq : Z q = 1344) {d : ld_T} (hd : VD d) (hw : ∀ c, c < cs_ d → tb (L 51 6) c = !slv d (lv d) c) {lim E : Nat} (l60 : lim ≤ 60) (e7 : I 51 7 = nI lim) (e8 : I 51 8 = nI (laf d)) (e9 : I 51 9 = nI E) (E20 : E ≤ 20) {c r on : Nat} (hc : c < cs_ d) (hr : r ≤ E) (ho : on ≤ 60) : D_X1_arrive Z I L R 51 (nI c) (nI r) (nI on) = some (match stp d lim E c on r with | none => (I, L) | some (a, x) => if nI a < I 52 (21 * c + x) then (up2 (up2 I 52 (21 * c + x) (nI a)) q (21 * c + x) (nI a), up2 L 51 5 (L 51 5 ||| bit_ c)) else (I, L)) := by
  have h64 := cs_le hd
  have l20 := hd.2.2.2.2.2.2.2.1
  have f60 : ∀ x a, x ≤ 20 → D_X1_arrive_60 Z I L R 51 (nI c) (nI x) (nI a) = some (if nI a < I 52 (21 * c + x) then (up2 (up2 I 52 (21 * c + x) (nI a)) q (21 * c + x) (nI a), up2 L 51 5 (L 51 5 ||| bit_ c)) else (I, L)) := fun x a hx => by
    have e : nI c * 21 + nI x = nI (21 * c + x) := by rw [show (21 : Int32) = nI 21 from rfl, nI_mul, nI_add, Nat.mul_comm]
    rw [D_X1_arrive_60, r0, bs_, e, get_ok (by omega) (by omega), bs_]
    by_cases z : nI a < I 52 (21 * c + x)
    · rw [if_pos z, if_pos z, put_ok (by omega) (by omega), bs_, r2, bs_, put_ok (by omega) (by omega), bs_, bit_ok (by omega), bs_, bs_]
    · rw [if_neg z, if_neg z]
  rw [D_X1_arrive, has_ok (by omega), bs_, hw c hc]
  unfold stp
  cases s : slv d (lv d) c with
  | true =>
    rw [if_pos (show bI (!true) = 0 from rfl), if_pos rfl, e7, nI_1]
    by_cases z : on < lim
    · rw [if_neg (fun u => by
        have := (nI_ltI (by omega) (by omega)).mp u
        omega), if_pos z]
      exact f60 0 (on + 1) (by omega)
    · rw [if_pos ((nI_ltI (by omega) (by omega)).mpr (by omega)), if_neg z]
  | false =>
    have mi : imin (nI r + 1) (I 51 9) = nI (min E (r + 1)) := by
      rw [e9, nI_1]
      unfold imin
      by_cases z : E < r + 1
      · rw [if_pos ((nI_ltI (by omega) (by omega)).mpr z), show min E (r + 1) = E by omega]
      · rw [if_neg (fun u => z ((nI_ltI (by omega) (by omega)).mp u)), show min E (r + 1) = r + 1 by omega]
    rw [if_neg (show ¬ bI (!false) = 0 by decide), mi, e8, if_neg (show ¬ (false = true) by decide)]
    by_cases z : laf d ≤ min E (r + 1)
    · rw [if_neg (fun u => by
        have := (nI_ltI (by omega) (by omega)).mp u
        omega), if_pos z, D_X1_arrive_45]
      exact f60 _ 0 (by omega)
    · rw [if_pos ((nI_ltI (by omega) (by omega)).mpr (by omega)), if_neg z, D_X1_arrive_45]
      exact f60 _ on (by omega)
theorem arr_sp {Z : Nat → Nat} {I0 I : I_T} {L0 L : L_T} {R : R_T} {p q : Nat} (pq : 53 ≤ p ∧ p ≤ 54 ∧ 53 ≤ q ∧ q ≤ 54 ∧ p ≠ q) (r0 : R 51 0 = some 52) (r2 : R 51 2 = some q) (z52 : Z 52 = 1344) (zq : Z q = 1344) {d : ld_T} (hd : VD d) (hw : ∀ c, c < cs_ d → tb (L0 51 6) c = !slv d (lv d) c) {lim E : Nat} (l60 : lim ≤ 60) (e7 : I0 51 7 = nI lim) (e8 : I0 51 8 = nI (laf d)) (e9 : I0 51 9 = nI E) (E20 : E ≤ 20) {B N b h : Nat → Nat} (hB : ∀ j, j < 1344 → B j ≤ 99) {j1 w c : Nat} (hj1 : j1 < 1344) (hw5 : w < 5) (hn : N j1 ≤ lim) (hr : j1 % 21 ≤ E) (hx : nx d (j1 / 21) w = some c) (hc : c < cs_ d) (sp : SpI d lim E B N q I L b h) (f : SpF p q I0 L0 I L) {Ip : Nat → Int32} (ip : I p = Ip) : ∃ I' L' b' h', D_X1_arrive Z I L R 51 (nI c) (nI (j1 % 21)) (nI (N j1)) = some (I', L') ∧ SpI d lim E B N q I' L' b' h' ∧ SpF p q I0 L0 I' L' ∧ I' p = Ip ∧ (∀ j, j < 1344 → b' j ≤ b j) ∧ ∀ a x, stp d lim E c (N j1) (j1 % 21) = some (a, x) → b' (21 * c + x) ≤ a := by
  have h64 := cs_le hd
  obtain ⟨s1, s2, s3, s4, s5⟩ := id sp
  have run := arr_run (Z := Z) (I := I) (L := L) (R := R) r0 r2 z52 zq hd (by rw [f.2.2 6 (by omega)]; exact hw) l60 (by rw [f.1 51 (by omega) (by omega) (by omega)]; exact e7) (by rw [f.1 51 (by omega) (by omega) (by omega)]; exact e8) (by rw [f.1 51 (by omega) (by omega) (by omega)]; exact e9) E20 hc hr (show N j1 ≤ 60 by omega)
  cases es : stp d lim E c (N j1) (j1 % 21) with
  | none =>
    rw [es] at run
    exact ⟨I, L, b, h, run, sp, f, ip, fun _ _ => Nat.le_refl _, fun a x u => by cases u⟩
  | some ax =>
    obtain ⟨a, x⟩ := ax
    rw [es] at run
    dsimp only at run
    have al := stp_le es hn
    have jl : 21 * c + x < 1344 := by omega
    have bl : b (21 * c + x) ≤ 99 := by
      have := hB _ jl
      rcases s3 _ jl with u | u <;> omega
    rw [s1 _ jl] at run
    by_cases z : a < b (21 * c + x)
    · rw [if_pos ((nI_ltI (by omega) (by omega)).mpr z)] at run
      refine ⟨_, _, fun j => if j = 21 * c + x then a else b j, fun j => if j = 21 * c + x then a else h j, run, ⟨fun j hj => ?_, fun j hj => ?_, fun j hj => ?_, fun c' hc' => ?_, fun j hj hne => ?_⟩, ⟨fun i h1 h2 h3 => by rw [up2_ne h3, up2_ne h1]; exact f.1 i h1 h2 h3, fun i hi => by rw [up2_ne hi]; exact f.2.1 i hi, fun j hj => by rw [up2_j hj]; exact f.2.2 j hj⟩, by rw [up2_ne (by omega), up2_ne (by omega)]; exact ip, fun j hj => ?_, fun a' x' u => ?_⟩
      · dsimp only
        by_cases y : j = 21 * c + x
        · rw [if_pos y, up2_ne (by omega), y, up2_s]
        · rw [if_neg y, up2_ne (by omega), up2_j y]
          exact s1 j hj
      · dsimp only
        by_cases y : j = 21 * c + x
        · rw [if_pos y, y, up2_s]
        · rw [if_neg y, up2_j y, up2_ne (by omega)]
          exact s2 j hj
      · dsimp only
        by_cases y : j = 21 * c + x
        · subst y
          rw [if_pos rfl, if_pos rfl]
          rcases s3 _ hj with u | u
          · exact Or.inr ⟨by omega, rfl⟩
          · exact Or.inr ⟨by omega, rfl⟩
        · rw [if_neg y, if_neg y]
          exact s3 j hj
      · dsimp only
        rw [up2_s, tb_or, Bool.or_eq_true, s4 c' hc', tb_bit c' hc', decide_eq_true_eq]
        constructor
        · rintro (⟨x', x1, x2⟩ | rfl)
          · refine ⟨x', x1, ?_⟩
            by_cases y : 21 * c' + x' = 21 * c + x
            · rw [if_pos y]
              omega
            · rw [if_neg y]
              exact x2
          · exact ⟨x, by omega, by rw [if_pos rfl]; omega⟩
        · rintro ⟨x', x1, x2⟩
          by_cases y : 21 * c' + x' = 21 * c + x
          · exact Or.inr (by omega)
          · rw [if_neg y] at x2
            exact Or.inl ⟨x', x1, x2⟩
      · dsimp only
        by_cases y : j = 21 * c + x
        · subst y
          rw [if_pos rfl]
          exact ⟨j1, w, c, x, hj1, hw5, by omega, hx, es, rfl⟩
        · dsimp only at hne
          rw [if_neg y] at hne ⊢
          exact s5 j hj hne
      · dsimp only
        by_cases y : j = 21 * c + x
        · rw [if_pos y, y]
          omega
        · rw [if_neg y]
          exact Nat.le_refl _
      · have := Option.some.inj u
        injection this with u1 u2
        subst u1
        subst u2
        dsimp only
        rw [if_pos rfl]
        exact Nat.le_refl _
    · rw [if_neg (fun u => z ((nI_ltI (by omega) (by omega)).mp u))] at run
      refine ⟨I, L, b, h, run, sp, f, ip, fun _ _ => Nat.le_refl _, fun a' x' u => ?_⟩
      have := Option.some.inj u
      injection this with u1 u2
      subst u1
      subst u2
      omega
