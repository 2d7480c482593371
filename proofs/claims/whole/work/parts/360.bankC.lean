/-! banks: the class's side -/
def Wt (d : ld_T) (l c : Nat) : Bool := !slv d l c
/-- a word holds what is reached in t steps -/
def reS (d : ld_T) (l : Nat) (x : Int64) (t : Nat) : Prop := ∀ i, i < 64 → (tb x i = true ↔ Sn d (Wt d l) t i)
theorem re_0 {d : ld_T} {l : Nat} {x : Int64} (h : isS x (wat d l)) : reS d l x 0 := fun i hi => by
  rw [h i hi, wat_kd]
  show Kd d (slv d l) false i = true ↔ i < cs_ d ∧ (!slv d l i) = true
  unfold Kd
  cases slv d l i <;> simp
theorem re_in {d : ld_T} {l t : Nat} {x : Int64} (h : reS d l x t) : inC d x := fun i hi ge => by
  cases e : tb x i with
  | false => rfl
  | true => exact absurd ((h i hi).mp e).lt (by omega)
theorem re_s {Z : Nat → Nat} {I : I_T} {L : L_T} {R : R_T} {a : Nat} {d : ld_T} (hd : VD d) (hl : CL I L a d) {l t : Nat} {x : Int64} (h : reS d l x t) : ∃ y, D_X2_beside Z I L R a x = some y ∧ reS d l (x ||| y) (t + 1) := by
  have h64 := cs_le hd
  obtain ⟨y, hy, hb⟩ := beside_ok (Z := Z) (R := R) hd hl (re_in h)
  refine ⟨y, hy, fun i hi => ?_⟩
  rw [tb_or, Bool.or_eq_true, hb i hi, h i hi]
  show _ ↔ Sn d (Wt d l) t i ∨ (i < cs_ d ∧ ∃ o, adj d i o ∧ Sn d (Wt d l) t o)
  constructor
  · rintro (u | ⟨u, c, v, w⟩)
    · exact Or.inl u
    · have cl := adj_lt hd u v
      exact Or.inr ⟨u, c, v, (h c (by omega)).mp w⟩
  · rintro (u | ⟨u, c, v, w⟩)
    · exact Or.inl u
    · have cl := adj_lt hd u v
      exact Or.inr ⟨u, c, v, (h c (by omega)).mpr w⟩
/-- what stands still stays -/
theorem Sn.still {d : ld_T} {W : Nat → Bool} (hd : VD d) {t : Nat} (h : ∀ i, Sn d W (t + 1) i → Sn d W t i) : ∀ k i, Sn d W (t + k) i → Sn d W t i := by
  intro k
  induction k with
  | zero => exact fun i e => e
  | succ k ih =>
    intro i e
    rcases e with e | ⟨hi, o, ao, e⟩
    · exact ih i e
    · exact h i (Or.inr ⟨hi, o, ao, ih o e⟩)
theorem bankC_loop {Z : Nat → Nat} {I : I_T} {L : L_T} {R : R_T} {a : Nat} {d : ld_T} (hd : VD d) (hl : CL I L a d) {l c : Nat} (hc : c < cs_ d) {f : Nat → Nat} (hf : f c ≤ 126 ∧ Sn d (Wt d l) (f c) c ∧ ∀ t, Sn d (Wt d l) t c → f c ≤ t) : ∀ k t x, t + k = 64 → reS d l x t → tb x c = false → t < cnt x → itC (B_X2_bank_36 Z I L R a (nI c)) (x, nI (t + 1)) = some (nI (f c)) := by
  have h64 := cs_le hd
  intro k
  induction k with
  | zero =>
    intro t x ht hx xc hn
    have := cnt_le x
    omega
  | succ k ih =>
    intro t x ht hx xc hn
    obtain ⟨y, hy, hs⟩ := re_s (Z := Z) (R := R) hd hl hx
    have n64 : ¬ (64 : Int32) < nI (t + 1) := fun z => by have := (nI_ltI (a := 64) (by omega) (by omega)).mp z; omega
    cases e : tb (x ||| y) c with
    | true =>
      have s1 := (hs c (by omega)).mp e
      have s0 : ¬ Sn d (Wt d l) t c := fun z => by
        rw [(hx c (by omega)).mpr z] at xc
        cases xc
      have le := hf.2.2 _ s1
      have eq : f c = t + 1 := by
        rcases Nat.lt_or_ge (f c) (t + 1) with q | q
        · exact (s0 (hf.2.1.le (by omega))).elim
        · omega
      refine itC_inr ?_
      unfold B_X2_bank_36
      rw [if_neg n64, hy, bs_, has_ok (by omega), bs_, e, if_neg (show ¬ bI true = 0 by decide), eq]
    | false =>
      have ne : ¬ x ||| y = x := fun z => by
        rw [z] at hs
        have := Sn.still hd (t := t) (W := Wt d l) (fun i si => by
          have il := si.lt
          exact (hx i (by omega)).mp ((hs i (by omega)).mpr si)) 126 c (hf.2.1.le (by omega))
        rw [(hx c (by omega)).mpr this] at xc
        cases xc
      obtain ⟨i, hi, ni⟩ := tb_ne ne
      have i1 : tb x i = false := by
        cases e : tb x i with
        | false => rfl
        | true => exact (ni (by rw [tb_or, e]; rfl)).elim
      have i2 : tb (x ||| y) i = true := by
        cases e : tb (x ||| y) i with
        | true => rfl
        | false => exact (ni (by rw [e, i1])).elim
      have cn : cnt x < cnt (x ||| y) := ct_less (fun j hj e => by rw [tb_or, e]; rfl) hi i1 i2
      refine (itC_inl ?_).trans (ih (t + 1) (x ||| y) (by omega) hs e (by omega))
      unfold B_X2_bank_36
      rw [if_neg n64, hy, bs_, has_ok (by omega), bs_, e, if_pos (show bI false = 0 from rfl), nI_1]
/-- the answer: NONE on water or without water -/
theorem bankC_ok {Z : Nat → Nat} {I : I_T} {L : L_T} {R : R_T} {a : Nat} {d : ld_T} (hd : VD d) (hl : CL I L a d) (lz : LZ Z R a) {c : Nat} (hc : c < cs_ d) {f : Nat → Nat} (hf : BkS d (Wt d (lv d)) f) : D_X2_bank Z I L R a (nI c) = some (if slv d (lv d) c = false ∨ far_ ≤ f c then -1 else nI (f c)) := by
  have h64 := cs_le hd
  have l9 : lv d ≤ 9 := hd.2.2.2.2.1
  have ff : far_ = 1000000 := rfl
  have e2 : I a 2 = nI (lv d) := hl.1 2 (by omega)
  obtain ⟨x, hx, xs⟩ := water_ok (Z := Z) (R := R) hd hl lz l9
  have ic := isCell_ok (Z := Z) (R := R) hd hl (nI c)
  have x0 := re_0 xs
  rw [nI_toInt (by omega), decide_eq_true (by constructor; omega; exact_mod_cast hc)] at ic
  rw [D_X2_bank, e2, hx, bs_, ic, bs_, if_neg (show ¬ bI true = 0 by decide), has_ok (by omega), bs_]
  have xc : tb x c = !slv d (lv d) c := by
    rw [xs c (by omega), wat_kd, Kd_lt hc]
    cases slv d (lv d) c <;> rfl
  cases e : slv d (lv d) c with
  | false =>
    rw [xc, e, if_neg (show ¬ bI (!false) = 0 by decide), if_pos (Or.inl rfl)]
  | true =>
    rw [xc, e, if_pos (show bI (!true) = 0 from rfl)]
    rcases hf with ⟨no, fr⟩ | ⟨⟨o, ho, wo⟩, fr⟩
    · have z : x = 0 := tb_zero.mpr (fun i hi => by
        cases u : tb x i with
        | false => rfl
        | true =>
          obtain ⟨h1, h2⟩ := (x0 i hi).mp u
          rw [no i h1] at h2
          cases h2)
      rw [if_pos z, if_pos (Or.inr (by rw [fr c hc]; exact Nat.le_refl _))]
    · have xo : tb x o = true := (x0 o (by omega)).mpr ⟨ho, wo⟩
      have z : ¬ x = 0 := fun z => by rw [z, tb_0] at xo; cases xo
      have fc := fr c hc
      rw [if_neg z, if_neg (by
        rintro (u | u)
        · cases u
        · have := fc.1
          omega), D_X2_bank_36]
      have cp : 0 < cnt x := fb_ct_pos.mpr ⟨o, by omega, xo⟩
      exact bankC_loop hd hl hc fc 64 0 x (by omega) x0 (by rw [xc, e]; rfl) cp
