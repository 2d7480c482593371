/-! texts: a line's numbers, the model's side -/
/-- a fault kept, as the model keeps it -/
def lF (w b : Nat) (F : Nat × Nat) : Nat × Nat := if F.1 = 0 ∨ b < F.2 ∨ (b = F.2 ∧ w < F.1) then (w, b) else F
theorem lF_fN {w b : Nat} {F : Nat × Nat} (h : F.1 ≠ 0 → F.2 < b) : lF w b F = fN false w b F := by
  unfold lF fN
  rw [if_neg (fun z => Bool.noConfusion z)]
  by_cases z : F.1 = 0
  · rw [if_pos z, if_pos (Or.inl z)]
  · have := h z
    rw [if_neg z, if_neg (by omega)]
def MF (K : I_T) (F : Nat × Nat) : Prop := K 68 17 = nI F.1 ∧ (F.1 ≠ 0 → K 68 18 = nI F.2) ∧ F.1 < 100 ∧ F.2 ≤ 600
def MFr3 (K : I_T) (L : L_T) (K' : I_T) (L' : L_T) : Prop := (∀ a, a ≠ 68 → a ≠ 79 → K' a = K a) ∧ (∀ j, j < 10 ∨ j = 11 ∨ j = 15 ∨ (18 < j ∧ j ≠ 23) → K' 68 j = K 68 j) ∧ (∀ a, a ≠ 68 → L' a = L a) ∧ ∀ j, j ≠ 15 → L' 68 j = L 68 j
theorem MFr3.rfl {K : I_T} {L : L_T} : MFr3 K L K L := ⟨fun _ _ _ => Eq.refl _, fun _ _ => Eq.refl _, fun _ _ => Eq.refl _, fun _ _ => Eq.refl _⟩
theorem MFr3.trans {K K' K'' : I_T} {L L' L'' : L_T} (h : MFr3 K L K' L') (g : MFr3 K' L' K'' L'') : MFr3 K L K'' L'' := ⟨fun a h1 h2 => (g.1 a h1 h2).trans (h.1 a h1 h2), fun j hj => (g.2.1 j hj).trans (h.2.1 j hj), fun a h1 => (g.2.2.1 a h1).trans (h.2.2.1 a h1), fun j hj => (g.2.2.2 j hj).trans (h.2.2.2 j hj)⟩
theorem MFr.three {K K' : I_T} {L L' : L_T} (h : MFr K L K' L') : MFr3 K L K' L' := ⟨fun a h1 _ => h.1 a h1, fun j hj => h.2.1 j (by omega) (by omega) (by omega) (by omega), h.2.2.1, h.2.2.2⟩
theorem MF.fr {K K' : I_T} {F : Nat × Nat} (h : MF K F) (e1 : K' 68 17 = K 68 17) (e2 : K' 68 18 = K 68 18) : MF K' F := by
  unfold MF at h ⊢
  rw [e1, e2]
  exact h
theorem MTok.fr {K K' : I_T} {L : L_T} {T : Nat → Nat} {n b : Nat} (h : MTok K L T n b) (e : ∀ j, j = 10 ∨ j = 12 ∨ j = 13 ∨ j = 14 → K' 68 j = K 68 j) : MTok K' L T n b := by
  unfold MTok at h ⊢
  rw [e 10 (by omega), e 12 (by omega), e 13 (by omega), e 14 (by omega)]
  exact h
theorem TPm.fr3 {Z : Nat → Nat} {R : R_T} {K K' : I_T} {L L' : L_T} {n : Nat} {T : Nat → Nat} (h : TPm Z R K n T) (c : MFr3 K L K' L') : TPm Z R K' n T := h.fr (c.2.1 11 (by omega)) (c.1 69 (by omega) (by omega))
theorem mkK_3 : ∀ k, k < 5 → (mkK k = 3 ↔ k = 2) ∧ (mkK k = 4 ↔ k = 3) ∧ (mkK k = 0 ↔ k = 0) ∧ (mkK k = 2 ↔ k = 1) ∧ mkK k < 5 := by decide
section
variable {Z : Nat → Nat} {L : L_T} {R : R_T} {n : Nat} {T : Nat → Nat}
theorem later_ok {K : I_T} {F : Nat × Nat} (h : MF K F) {w b : Nat} (hw : w < 100) (hb : b ≤ 600) : ∃ K', D_X11_later Z K L R 68 (nI w) (nI b) = some K' ∧ MF K' (lF w b F) ∧ (∀ a, a ≠ 68 → K' a = K a) ∧ ∀ j, j ≠ 17 → j ≠ 18 → K' 68 j = K 68 j := by
  obtain ⟨h1, h2, h3, h4⟩ := h
  have e31 : D_X11_later_31 Z K L R 68 (nI w) (nI b) = some (up2 (up2 K 68 17 (nI w)) 68 18 (nI b)) := by rw [D_X11_later_31, bs_, bs_]
  have yes : MF (up2 (up2 K 68 17 (nI w)) 68 18 (nI b)) (w, b) := ⟨by rw [up2_j (by omega), up2_s], fun _ => up2_s _ _ _ _, hw, hb⟩
  have fr : (∀ a, a ≠ 68 → up2 (up2 K 68 17 (nI w)) 68 18 (nI b) a = K a) ∧ ∀ j, j ≠ 17 → j ≠ 18 → up2 (up2 K 68 17 (nI w)) 68 18 (nI b) 68 j = K 68 j := ⟨fun a ha => by rw [up2_ne ha, up2_ne ha], fun j j1 j2 => by rw [up2_j j2, up2_j j1]⟩
  rw [D_X11_later, h1, e31]
  unfold lF
  by_cases z : F.1 = 0
  · rw [if_pos ((nl_eq (k := 0) (j := 0) rfl (by omega) (by omega)).mpr z), if_pos (Or.inl z)]
    exact ⟨_, rfl, yes, fr⟩
  · rw [if_neg (fun u => z ((nl_eq (k := 0) (j := 0) rfl (by omega) (by omega)).mp u)), h2 z]
    by_cases y1 : b < F.2
    · rw [if_pos ((nI_ltI (by omega) (by omega)).mpr y1), if_pos (Or.inr (Or.inl y1))]
      exact ⟨_, rfl, yes, fr⟩
    · rw [if_neg (fun u => y1 ((nI_ltI (by omega) (by omega)).mp u))]
      by_cases y2 : b = F.2
      · rw [if_pos (congrArg nI y2)]
        by_cases y3 : w < F.1
        · rw [if_pos ((nI_ltI (by omega) (by omega)).mpr y3), if_pos (Or.inr (Or.inr ⟨y2, y3⟩))]
          exact ⟨_, rfl, yes, fr⟩
        · rw [if_neg (fun u => y3 ((nI_ltI (by omega) (by omega)).mp u)), if_neg (by omega)]
          exact ⟨K, rfl, ⟨h1, h2, h3, h4⟩, fun _ _ => rfl, fun _ _ _ => rfl⟩
      · rw [if_neg (fun u => y2 ((nI_eq (by omega) (by omega)).mp u)), if_neg (by omega)]
        exact ⟨K, rfl, ⟨h1, h2, h3, h4⟩, fun _ _ => rfl, fun _ _ _ => rfl⟩
theorem mtake_no {K : I_T} {b : Nat} (mt : MTok K L T n b) (hk : ¬ tkK T n b = 2) (q lo hi : Int32) : D_X11_take Z K L R 68 q lo hi = some (0, up2 K 68 16 (nI b), L) := by
  obtain ⟨m1, m2, m3, m4, m5⟩ := mt
  have k3 := mkK_3 (tkK T n b) (by have := tkK_le T n b; omega)
  rw [D_X11_take, if_neg (show ¬ K 68 13 = 3 by rw [m3]; exact fun u => hk (k3.1.mp ((nl_eq (k := 3) (j := 3) rfl (by omega) (by omega)).mp u))), D_X11_fails, m2, bs_, bs_, if_pos (show isb 0 = true by decide)]
theorem mtake_ok {K : I_T} {F : Nat × Nat} (tp : TPm Z R K n T) (r20 : R 68 20 = some 79) (z79 : Z 79 = 4) {b q lo hi : Nat} (hb : b ≤ n) (hk : tkK T n b = 2) (mt : MTok K L T n b) (mf : MF K F) (hq : q < 4) (hlo : lo < 100) (hhi : hi < 100) : ∃ K' L', D_X11_take Z K L R 68 (nI q) (nI lo) (nI hi) = some (1, K', L') ∧ MTok K' L' T n (nbt T n b) ∧ MF K' (if okv lo hi (tkV T n b) = true then F else lF 2 b F) ∧ K' 79 q = nI (tkV T n b) ∧ (∀ i, i ≠ q → K' 79 i = K 79 i) ∧ K' 68 23 = (if okv lo hi (tkV T n b) = true then K 68 23 else 0) ∧ (K' 68 16 = K 68 16) ∧ MFr3 K L K' L' := by
  have n600 := tp.2.1
  obtain ⟨m1, m2, m3, m4, m5⟩ := id mt
  have te := tkE_ge (T := T) hb
  have tv := tk_dig hk
  have k13 : K 68 13 = 3 := by rw [m3, hk]; rfl
  generalize h4 : up2 K 79 q (nI (tkV T n b)) = I4
  have j68 : I4 68 = K 68 := by rw [← h4]; exact up2_ne (by omega)
  have j79 : I4 79 q = nI (tkV T n b) := by rw [← h4, up2_s]
  have j79' : ∀ i, i ≠ q → I4 79 i = K 79 i := fun i hi => by rw [← h4, up2_j hi]
  have jo : ∀ a, a ≠ 79 → I4 a = K a := fun a ha => by rw [← h4, up2_ne ha]
  have tp4 : TPm Z R I4 n T := tp.fr (by rw [j68]) (jo 69 (by omega))
  have e49 : ∀ I5 : I_T, (∀ a, a ≠ 68 → I5 a = I4 a) → (∀ j, j ≠ 17 → j ≠ 18 → j ≠ 23 → I5 68 j = K 68 j) → ∃ K' L', D_X11_take_49 Z I5 L R 68 = some (1, K', L') ∧ MTok K' L' T n (nbt T n b) ∧ MFr I5 L K' L' := fun I5 f1 f2 => by
    obtain ⟨K', L', t1, t2, t3⟩ := token_ok (L := L) (tp4.fr (K' := I5) (by rw [f2 11 (by omega) (by omega) (by omega), j68]) (f1 69 (by omega))) te.2 (by rw [f2 10 (by omega) (by omega) (by omega)]; exact m1)
    exact ⟨K', L', by rw [D_X11_take_49, t1, bs_], t2, t3⟩
  have hd : D_X11_take Z K L R 68 (nI q) (nI lo) (nI hi) = if bI (okv lo hi (tkV T n b)) = 0 then ((D_X11_later Z I4 L R 68 2 (nI b)).bind fun q7 => (some (up2 q7 68 23 0)).bind fun I8 => D_X11_take_49 Z I8 L R 68) else D_X11_take_49 Z I4 L R 68 := by
    rw [D_X11_take, if_pos k13, r20, bs_, z79, if_pos (inb_nI (by omega) (by omega)), m4 hk, bs_, cl_nI (by omega), h4, j68, m4 hk, in_rng _ (by omega) (by omega), bs_, nI_toInt (by omega), m2]
    unfold okv
    rw [show decide ((lo : Int) ≤ ((tkV T n b : Nat) : Int) ∧ ((tkV T n b : Nat) : Int) ≤ (hi : Int)) = decide (lo ≤ tkV T n b ∧ tkV T n b ≤ hi) from decide_eq_decide.mpr ⟨fun z => by omega, fun z => by omega⟩]
  rw [hd]
  cases hok : okv lo hi (tkV T n b) with
  | true =>
    obtain ⟨K', L', a1, a2, a3⟩ := e49 I4 (fun _ _ => rfl) (fun j _ _ _ => by rw [j68])
    rw [if_neg (show ¬ bI true = 0 by decide), if_pos rfl, if_pos rfl]
    refine ⟨K', L', a1, a2, mf.fr (by rw [a3.2.1 17 (by omega) (by omega) (by omega) (by omega), j68]) (by rw [a3.2.1 18 (by omega) (by omega) (by omega) (by omega), j68]), by rw [a3.1 79 (by omega)]; exact j79, fun i hi => by rw [a3.1 79 (by omega)]; exact j79' i hi, by rw [a3.2.1 23 (by omega) (by omega) (by omega) (by omega), j68], by rw [a3.2.1 16 (by omega) (by omega) (by omega) (by omega), j68], ⟨fun a a1 a2 => by rw [a3.1 a a1, jo a a2], fun j hj => by rw [a3.2.1 j (by omega) (by omega) (by omega) (by omega), j68], a3.2.2.1, a3.2.2.2⟩⟩
  | false =>
    have mf4 : MF I4 F := mf.fr (by rw [j68]) (by rw [j68])
    obtain ⟨K1, b1, b2, b3, b4⟩ := later_ok (Z := Z) (L := L) (R := R) (w := 2) (b := b) mf4 (by omega) (by omega)
    obtain ⟨K', L', a1, a2, a3⟩ := e49 (up2 K1 68 23 0) (fun a ha => by rw [up2_ne ha, b3 a ha]) (fun j j1 j2 j3 => by rw [up2_j j3, b4 j j1 j2, j68])
    rw [if_pos (show bI false = 0 from rfl), if_neg (fun z => Bool.noConfusion z), if_neg (fun z => Bool.noConfusion z), show (2 : Int32) = nI 2 from rfl, b1, bs_, bs_]
    refine ⟨K', L', a1, a2, b2.fr (by rw [a3.2.1 17 (by omega) (by omega) (by omega) (by omega), up2_j (by omega)]) (by rw [a3.2.1 18 (by omega) (by omega) (by omega) (by omega), up2_j (by omega)]), by rw [a3.1 79 (by omega), up2_ne (by omega), b3 79 (by omega)]; exact j79, fun i hi => by rw [a3.1 79 (by omega), up2_ne (by omega), b3 79 (by omega)]; exact j79' i hi, by rw [a3.2.1 23 (by omega) (by omega) (by omega) (by omega), up2_s], by rw [a3.2.1 16 (by omega) (by omega) (by omega) (by omega), up2_j (by omega), b4 16 (by omega) (by omega), j68], ⟨fun a a1 a2 => by rw [a3.1 a a1, up2_ne a1, b3 a a1, jo a a2], fun j hj => by rw [a3.2.1 j (by omega) (by omega) (by omega) (by omega), up2_j (by omega), b4 j (by omega) (by omega), j68], a3.2.2.1, a3.2.2.2⟩⟩
/-- numbers taken one behind the other, and what comes then -/
noncomputable def mch (Z : Nat → Nat) (R : R_T) (w q0 : Nat) (k : I_T → L_T → Option (Int32 × I_T × L_T)) : Nat → Nat → I_T → L_T → Option (Int32 × I_T × L_T)
  | 0, _, K, L => k K L
  | c + 1, i, K, L => (D_X11_take Z K L R 68 (nI (q0 + i)) (nI (lo_ w i)) (nI (hi_ w i))).bind fun q1 => if q1.1 = 0 then some (0, q1.2.1, q1.2.2) else mch Z R w q0 k c (i + 1) q1.2.1 q1.2.2
theorem mchain {w q0 : Nat} (hw : w < 19) (r20 : R 68 20 = some 79) (z79 : Z 79 = 4) (k : I_T → L_T → Option (Int32 × I_T × L_T)) : ∀ c i b F K L, i + c ≤ nm_ w → q0 + i + c ≤ 4 → b ≤ n → TPm Z R K n T → MTok K L T n b → MF K F → (F.1 ≠ 0 → F.2 < b) → ∃ K' L', mch Z R w q0 k c i K L = (if (nums T n w c i b F).1 = true then k K' L' else some (0, K', L')) ∧ ((nums T n w c i b F).1 = false → K' 68 16 = nI (nums T n w c i b F).2.1) ∧ MTok K' L' T n (nums T n w c i b F).2.1 ∧ MF K' (nums T n w c i b F).2.2 ∧ ((nums T n w c i b F).2.2.1 ≠ 0 → (nums T n w c i b F).2.2.2 < (nums T n w c i b F).2.1) ∧ MFr3 K L K' L' ∧ (∀ q, q < q0 + i ∨ q0 + i + c ≤ q → K' 79 q = K 79 q) ∧ ((nums T n w c i b F).1 = true → ∀ j, j < c → K' 79 (q0 + i + j) = nI (tkV T n (itb T n j b))) ∧ (K' 68 23 = K 68 23 ∨ K' 68 23 = 0) ∧ (K' 68 23 ≠ 0 → (nums T n w c i b F).1 = true → ∀ j, j < c → okv (lo_ w (i + j)) (hi_ w (i + j)) (tkV T n (itb T n j b)) = true) ∧ ((nums T n w c i b F).2.2.1 = 0 → F.1 = 0 ∧ K' 68 23 = K 68 23 ∧ ((nums T n w c i b F).1 = true → ∀ j, j < c → okv (lo_ w (i + j)) (hi_ w (i + j)) (tkV T n (itb T n j b)) = true)) := by
  intro c
  induction c with
  | zero =>
    intro i b F K L hi hq hb tp mt mf wf
    refine ⟨K, L, ?_, fun z => Bool.noConfusion z, mt, mf, wf, MFr3.rfl, fun _ _ => rfl, fun _ j hj => by omega, Or.inl rfl, fun _ _ j hj => by omega, fun z => ⟨z, rfl, fun _ j hj => by omega⟩⟩
    rw [show (nums T n w 0 i b F).1 = true from rfl, if_pos rfl]
    rfl
  | succ c ih =>
    intro i b F K L hi hq hb tp mt mf wf
    by_cases hk : tkK T n b = 2
    · have e : nums T n w (c + 1) i b F = nums T n w c (i + 1) (nbt T n b) (fN (okv (lo_ w i) (hi_ w i) (tkV T n b)) 2 b F) := if_pos hk
      rw [e]
      obtain ⟨n3, _, nl⟩ := nm_le w hw
      obtain ⟨l1, l2⟩ := nl i (by omega)
      obtain ⟨K1, L1, s1, s2, s3, s4, s5, s6, s6', s7⟩ := mtake_ok tp r20 z79 hb hk mt mf (show q0 + i < 4 by omega) l1 l2
      have eF : (if okv (lo_ w i) (hi_ w i) (tkV T n b) = true then F else lF 2 b F) = fN (okv (lo_ w i) (hi_ w i) (tkV T n b)) 2 b F := by
        cases hok : okv (lo_ w i) (hi_ w i) (tkV T n b) with
        | true => rfl
        | false => rw [if_neg (fun z => Bool.noConfusion z), lF_fN wf]
      rw [eF] at s3
      have bn := nbt_gt (T := T) (tkK_lt (T := T) (n := n) (b := b) (by omega))
      have wf1 : (fN (okv (lo_ w i) (hi_ w i) (tkV T n b)) 2 b F).1 ≠ 0 → (fN (okv (lo_ w i) (hi_ w i) (tkV T n b)) 2 b F).2 < nbt T n b := by
        unfold fN
        by_cases y1 : okv (lo_ w i) (hi_ w i) (tkV T n b) = true
        · rw [if_pos y1]
          exact fun z => Nat.lt_trans (wf z) bn
        · rw [if_neg y1]
          by_cases y2 : F.1 = 0
          · rw [if_pos y2]
            exact fun _ => bn
          · rw [if_neg y2]
            exact fun z => Nat.lt_trans (wf z) bn
      obtain ⟨K', L', a1, a2, a3, a4, a5, a6, a7, a8, a9, a10, a11⟩ := ih (i + 1) (nbt T n b) _ K1 L1 (by omega) (by omega) (nbt_le hb) (tp.fr3 s7) s2 s3 wf1
      have ok0 : K1 68 23 ≠ 0 → okv (lo_ w i) (hi_ w i) (tkV T n b) = true := fun z => by
        cases hok : okv (lo_ w i) (hi_ w i) (tkV T n b) with
        | true => rfl
        | false => exact (z (by rw [s6, hok, if_neg (fun y => Bool.noConfusion y)])).elim
      refine ⟨K', L', ?_, a2, a3, a4, a5, s7.trans a6, fun q hq2 => by rw [a7 q (by omega), s5 q (by omega)], fun z j hj => ?_, ?_, fun z z2 j hj => ?_, fun z => ?_⟩
      · show (D_X11_take Z K L R 68 (nI (q0 + i)) (nI (lo_ w i)) (nI (hi_ w i))).bind _ = _
        rw [s1, bs_, if_neg (show ¬ (1 : Int32) = 0 by decide)]
        exact a1
      · cases j with
        | zero => rw [Nat.add_zero, a7 _ (by omega), s4]; rfl
        | succ j =>
          rw [show q0 + i + (j + 1) = q0 + (i + 1) + j by omega, a8 z j (by omega)]
          rfl
      · rcases a9 with y | y
        · rw [y, s6]
          split
          · exact Or.inl rfl
          · exact Or.inr rfl
        · exact Or.inr y
      · cases j with
        | zero =>
          refine ok0 ?_
          rcases a9 with y | y
          · rwa [y] at z
          · exact (z y).elim
        | succ j =>
          rw [show i + (j + 1) = i + 1 + j by omega]
          exact a10 z z2 j (by omega)
      · obtain ⟨y1, y2, y3⟩ := a11 z
        have ok1 : okv (lo_ w i) (hi_ w i) (tkV T n b) = true := by
          cases hok : okv (lo_ w i) (hi_ w i) (tkV T n b) with
          | true => rfl
          | false =>
            rw [hok] at y1
            unfold fN at y1
            rw [if_neg (fun y => Bool.noConfusion y)] at y1
            by_cases y4 : F.1 = 0
            · rw [if_pos y4] at y1
              exact absurd y1 (show ¬ (2 : Nat) = 0 by omega)
            · rw [if_neg y4] at y1
              exact (y4 y1).elim
        rw [ok1] at y1
        refine ⟨y1, by rw [y2, s6, if_pos ok1], fun z2 j hj => ?_⟩
        cases j with
        | zero => exact ok1
        | succ j =>
          rw [show i + (j + 1) = i + 1 + j by omega]
          exact y3 z2 j (by omega)
    · have e : nums T n w (c + 1) i b F = (false, b, F) := if_neg hk
      rw [e]
      refine ⟨up2 K 68 16 (nI b), L, ?_, fun _ => up2_s _ _ _ _, mt.fr (fun j hj => up2_j (by omega)), mf.fr (up2_j (by omega)) (up2_j (by omega)), wf, ⟨fun a a1 _ => up2_ne a1, fun j hj => up2_j (by omega), fun _ _ => rfl, fun _ _ => rfl⟩, fun q _ => by rw [up2_ne (by omega)], fun z => Bool.noConfusion z, Or.inl (up2_j (by omega)), fun _ z => Bool.noConfusion z, fun z => ⟨z, up2_j (by omega), fun z => Bool.noConfusion z⟩⟩
      rw [if_neg (fun z => Bool.noConfusion z)]
      show (D_X11_take Z K L R 68 (nI (q0 + i)) (nI (lo_ w i)) (nI (hi_ w i))).bind _ = _
      rw [mtake_no mt hk, bs_, if_pos rfl]
end
