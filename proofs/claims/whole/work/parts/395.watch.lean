/-! watch: the rows of posts, one after the other -/
abbrev rk_ (d : ld_T) (s : Nat → Bool) (c : Nat) : Nat := fb_ct (Kd d s false) c
theorem rk_s {d : ld_T} {s : Nat → Bool} {c : Nat} (h : Kd d s false c = true) : rk_ d s (c + 1) = rk_ d s c + 1 := by
  show fb_ct _ (c + 1) = _
  rw [fb_ct_succ, h]
  rfl
theorem rk_n {d : ld_T} {s : Nat → Bool} {c : Nat} (h : Kd d s false c = false) : rk_ d s (c + 1) = rk_ d s c := by
  show fb_ct _ (c + 1) = _
  rw [fb_ct_succ, h]
  rfl
theorem rk_lt {d : ld_T} {s : Nat → Bool} {c : Nat} (hc : c < 64) (h : Kd d s false c = true) : rk_ d s c < rk_ d s 64 := by
  have e := rk_s h
  have := fb_ct_mono (Kd d s false) (m := c + 1) (n := 64) (by omega)
  show fb_ct _ c < fb_ct _ 64
  have e' : fb_ct (Kd d s false) (c + 1) = fb_ct (Kd d s false) c + 1 := e
  omega
/-- the class's rows of posts: best so far, the posts -/
def cof (b : Int32) (T : Nat → Int32) (n : Nat) (p q r : Int32) : Int32 × (Nat → Int32) := if b < nI n then (nI n, fun j => if j = 0 then p else if j = 1 then q else if j = 2 then r else T j) else (b, T)
theorem cof_hit {b : Int32} {T : Nat → Int32} {n : Nat} {p q r : Int32} (hn : n < 2 ^ 31) : ¬ (cof b T n p q r).1 < 0 := by
  unfold cof
  by_cases z : b < nI n
  · rw [if_pos z]
    exact nI_pos hn
  · rw [if_neg z]
    intro u
    have h1 := Int32.lt_iff_toInt_lt.mp (show b < 0 from u)
    have h2 : (0 : Int32).toInt = 0 := by decide
    exact z (Int32.lt_iff_toInt_lt.mpr (by
      rw [nI_toInt hn]
      omega))
def gV (V : Nat → Int64) (v : Int32) (x : Int64) : Prop := (∃ c, c < 64 ∧ v = nI c ∧ x = V c) ∨ (v = -1 ∧ x = 0)
theorem gV_ok {Z : Nat → Nat} {I : I_T} {L : L_T} {R : R_T} (z65 : Z 65 = 64) {V : Nat → Int64} (hV : ∀ c, c < 64 → L 65 c = V c) {v : Int32} {x : Int64} (h : gV V v x) : D_X10_get_ Z I L R 65 v = some x := by
  rcases h with ⟨c, hc, rfl, rfl⟩ | ⟨rfl, rfl⟩
  · rw [getL_ok (by rw [z65]; exact hc) (by rw [z65]; decide), hV c hc]
  · rw [D_X10_get_, if_pos (by decide)]
theorem offer_ok {Z : Nat → Nat} {I : I_T} {L : L_T} {R : R_T} (r0 : R 63 0 = some 64) (r2 : R 63 2 = some 65) (z64 : Z 64 = 3) (z65 : Z 65 = 64) {V : Nat → Int64} (hV : ∀ c, c < 64 → L 65 c = V c) {b p q r : Int32} {x y z : Int64} (hp : gV V p x) (hq : gV V q y) (hr : gV V r z) : ∃ I', D_X3_offer Z I L R 63 b p q r = some ((cof b (I 64) (cnt ((x ||| y) ||| z)) p q r).1, I') ∧ (∀ i, i ≠ 64 → I' i = I i) ∧ I' 64 = (cof b (I 64) (cnt ((x ||| y) ||| z)) p q r).2 := by
  have pt : ∀ (K : I_T) (j : Nat) (v : Int32), j < 3 → D_X10_put Z K L R 64 (nI j) v = some (up2 K 64 j v) := fun K j v hj => put_ok (by rw [z64]; exact hj) (by rw [z64]; decide) v
  rw [D_X3_offer, r2, bs_, gV_ok z65 hV hp, bs_, gV_ok z65 hV hq, bs_, gV_ok z65 hV hr, bs_, pop_ok, bs_]
  unfold cof
  by_cases u : b < nI (cnt ((x ||| y) ||| z))
  · rw [if_pos u, if_pos u, r0, bs_, show D_X10_put Z I L R 64 0 p = _ from pt I 0 p (by omega), bs_, show D_X10_put Z (up2 I 64 0 p) L R 64 1 q = _ from pt _ 1 q (by omega), bs_, show D_X10_put Z (up2 (up2 I 64 0 p) 64 1 q) L R 64 2 r = _ from pt _ 2 r (by omega), bs_]
    refine ⟨_, rfl, fun i hi => by rw [up2_ne hi, up2_ne hi, up2_ne hi], ?_⟩
    funext j
    show up2 (up2 (up2 I 64 0 p) 64 1 q) 64 2 r 64 j = (if j = 0 then p else if j = 1 then q else if j = 2 then r else I 64 j)
    by_cases j2 : j = 2
    · subst j2
      rw [up2_s]
      rfl
    · rw [up2_j j2]
      by_cases j1 : j = 1
      · subst j1
        rw [up2_s]
        rfl
      · rw [up2_j j1]
        by_cases j0 : j = 0
        · subst j0
          rw [up2_s]
          rfl
        · rw [up2_j j0, if_neg j0, if_neg j1, if_neg j2]
  · rw [if_neg u, if_neg u]
    exact ⟨I, rfl, fun _ _ => rfl, rfl⟩
/-- the model's rows: what stays, what is best -/
def WF_ (d : ld_T) (s : Nat → Bool) (J0 : I_T) : Prop := J0 68 49 = nI (rk_ d s 64) ∧ ∀ c, c < cs_ d → Kd d s false c = true → J0 93 (rk_ d s c) = nI c
def BF (J0 J : I_T) : Prop := (∀ i, i ≠ 68 → i ≠ 94 → J i = J0 i) ∧ ∀ j, j ≠ 50 → J 68 j = J0 68 j
def MR (J : I_T) (b : Int32) (T : Nat → Int32) : Prop := J 68 50 = b ∧ (b = -1 ∨ ∀ j, j < 3 → J 94 j = T j)
theorem tries_ok {Z : Nat → Nat} {J0 J : I_T} {L : L_T} {R : R_T} {d : ld_T} {s : Nat → Bool} (hd : VD d) (r46 : R 68 46 = some 92) (r47 : R 68 47 = some 93) (r48 : R 68 48 = some 94) (z92 : Z 92 = 64) (z93 : Z 93 = 64) (z94 : Z 94 = 3) {V : Nat → Int64} (hV : ∀ c, c < cs_ d → L 92 c = V c) (f0 : WF_ d s J0) (bf : BF J0 J) {b : Int32} {T : Nat → Int32} (mr : MR J b T) {c1 c2 c3 : Nat} (h1 : Kd d s false c1 = true) (h2 : Kd d s false c2 = true) (h3 : Kd d s false c3 = true) (i1 : c1 < cs_ d) (i2 : c2 < cs_ d) (i3 : c3 < cs_ d) : ∃ J', D_X11_tries Z J L R 68 (nI (rk_ d s c1)) (nI (rk_ d s c2)) (nI (rk_ d s c3)) = some J' ∧ BF J0 J' ∧ MR J' (cof b T (cnt ((V c1 ||| V c2) ||| V c3)) (nI c1) (if rk_ d s c2 = rk_ d s c1 then -1 else nI c2) (if rk_ d s c3 = rk_ d s c2 then -1 else nI c3)).1 (cof b T (cnt ((V c1 ||| V c2) ||| V c3)) (nI c1) (if rk_ d s c2 = rk_ d s c1 then -1 else nI c2) (if rk_ d s c3 = rk_ d s c2 then -1 else nI c3)).2 := by
  have h64 := cs_le hd
  have ra := rk_lt (show c1 < 64 by omega) h1
  have rb := rk_lt (show c2 < 64 by omega) h2
  have rc := rk_lt (show c3 < 64 by omega) h3
  have r6 : rk_ d s 64 ≤ 64 := fb_ct_le _ 64
  have w : ∀ K : I_T, (∀ i, i ≠ 68 → i ≠ 94 → K i = J0 i) → ∀ c, c < cs_ d → Kd d s false c = true → K 93 (rk_ d s c) = nI c := fun K f c hc k => by rw [f 93 (by omega) (by omega)]; exact f0.2 c hc k
  have wa := w J bf.1 c1 i1 h1
  have wb := w J bf.1 c2 i2 h2
  have wc := w J bf.1 c3 i3 h3
  have ia : inb (nI (rk_ d s c1)) (Z 93) = true := inb_nI (by omega) (by omega)
  have ib : inb (nI (rk_ d s c2)) (Z 93) = true := inb_nI (by omega) (by omega)
  have ic : inb (nI (rk_ d s c3)) (Z 93) = true := inb_nI (by omega) (by omega)
  have ca : (nI (rk_ d s c1)).toNatClampNeg = rk_ d s c1 := cl_nI (by omega)
  have cb : (nI (rk_ d s c2)).toNatClampNeg = rk_ d s c2 := cl_nI (by omega)
  have cc : (nI (rk_ d s c3)).toNatClampNeg = rk_ d s c3 := cl_nI (by omega)
  rw [D_X11_tries, r46, bs_, r47, bs_, if_pos ia, ca, wa, if_pos (inb_nI (by omega) (by omega)), if_pos ib, cb, wb, if_pos (inb_nI (by omega) (by omega)), if_pos ic, cc, wc, if_pos (inb_nI (by omega) (by omega)), cl_nI (by omega), cl_nI (by omega), cl_nI (by omega), hV c1 i1, hV c2 i2, hV c3 i3, ones_ok, bs_, mr.1]
  unfold cof
  by_cases u : b < nI (cnt ((V c1 ||| V c2) ||| V c3))
  · rw [if_pos u, if_pos u, bs_, r48, bs_, if_pos ia, if_pos (show inb 0 (Z 94) = true by rw [z94]; rfl), bs_]
    generalize hn : nI (cnt ((V c1 ||| V c2) ||| V c3)) = n
    have cl0 : (0 : Int32).toNatClampNeg = 0 := rfl
    have cl1 : (1 : Int32).toNatClampNeg = 1 := rfl
    have cl2 : (2 : Int32).toNatClampNeg = 2 := rfl
    have e15 : up2 J 68 50 n 93 (rk_ d s c1) = nI c1 := by rw [up2_ne (by omega)]; exact wa
    rw [cl0, e15]
    have f87 : ∀ q : Int32, ∃ J', D_X11_tries_87 Z (up2 (up2 J 68 50 n) 94 0 (nI c1)) L R 68 (nI (rk_ d s c2)) (nI (rk_ d s c3)) q 1 94 = some J' ∧ BF J0 J' ∧ MR J' n (fun j => if j = 0 then nI c1 else if j = 1 then q else if j = 2 then (if rk_ d s c3 = rk_ d s c2 then -1 else nI c3) else T j) := fun q => by
      have fin : ∀ v : Int32, BF J0 (up2 (up2 (up2 (up2 J 68 50 n) 94 0 (nI c1)) 94 1 q) 94 2 v) ∧ MR (up2 (up2 (up2 (up2 J 68 50 n) 94 0 (nI c1)) 94 1 q) 94 2 v) n (fun j => if j = 0 then nI c1 else if j = 1 then q else if j = 2 then v else T j) := fun v => by
        refine ⟨⟨fun i i1 i2 => by rw [up2_ne i2, up2_ne i2, up2_ne i2, up2_ne i1]; exact bf.1 i i1 i2, fun j hj => by rw [up2_ne (by omega), up2_ne (by omega), up2_ne (by omega), up2_j hj]; exact bf.2 j hj⟩, ?_, Or.inr (fun j hj => ?_)⟩
        · rw [up2_ne (by omega), up2_ne (by omega), up2_ne (by omega), up2_s]
        · have : j = 0 ∨ j = 1 ∨ j = 2 := by omega
          rcases this with rfl | rfl | rfl
          · rw [up2_j (by omega), up2_j (by omega), up2_s]
            rfl
          · rw [up2_j (by omega), up2_s]
            rfl
          · rw [up2_s]
            rfl
      rw [D_X11_tries_87, if_pos (show inb 1 (Z 94) = true by rw [z94]; rfl), bs_, r48, bs_, cl1, cl2]
      by_cases z : rk_ d s c3 = rk_ d s c2
      · rw [if_pos (by rw [z]), if_pos z, if_pos (show inb 2 (Z 94) = true by rw [z94]; rfl), bs_]
        exact ⟨_, rfl, fin (-1)⟩
      · rw [if_neg (fun v => z ((nI_eq (by omega) (by omega)).mp v)), if_neg z, r47, bs_, if_pos ic, if_pos (show inb 2 (Z 94) = true by rw [z94]; rfl), cc, bs_]
        rw [show up2 (up2 (up2 J 68 50 n) 94 0 (nI c1)) 94 1 q 93 (rk_ d s c3) = nI c3 by rw [up2_ne (by omega), up2_ne (by omega), up2_ne (by omega)]; exact wc]
        exact ⟨_, rfl, fin (nI c3)⟩
    by_cases z : rk_ d s c2 = rk_ d s c1
    · rw [if_pos (by rw [z]), if_pos z]
      exact f87 (-1)
    · rw [if_neg (fun v => z ((nI_eq (by omega) (by omega)).mp v)), if_neg z, if_pos ib]
      rw [show up2 (up2 J 68 50 n) 94 0 (nI c1) 93 (rk_ d s c2) = nI c2 by rw [up2_ne (by omega), up2_ne (by omega)]; exact wb]
      exact f87 (nI c2)
  · rw [if_neg u, if_neg u]
    exact ⟨J, rfl, bf, mr⟩
