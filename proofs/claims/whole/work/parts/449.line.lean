/-! texts: a line, both sides -/
def cix (s : Nat) : Nat := if s = 0 then 5 else if s = 1 then 0 else 2
def cmx (s : Nat) : Nat := if s = 0 then 5 else if s = 1 then 40 else 10
def cnt_ (s : Nat) (J : I_T) : Int32 := if s = 0 then J 36 5 else J 41 3
def CDr (s : Nat) (J : I_T) : Prop := ∃ c, c ≤ cmx s ∧ cnt_ s J = nI c
def Safe (s : Nat) (K : I_T) : Prop := ∃ c, c ≤ cmx s ∧ K 78 (cix s) = nI c
/-- the drafts of class and model tell the same -/
def LD (J K : I_T) : Prop := (∃ w h l hr af, 2 ≤ w ∧ w ≤ 8 ∧ 2 ≤ h ∧ h ≤ 8 ∧ l ≤ 9 ∧ 1 ≤ hr ∧ hr ≤ 60 ∧ af ≤ 20 ∧ (J 36 0 = nI w ∧ J 36 1 = nI h ∧ J 36 2 = nI l ∧ J 36 3 = nI hr ∧ J 36 4 = nI af) ∧ K 78 0 = nI w ∧ K 78 1 = nI h ∧ K 78 2 = nI l ∧ K 78 3 = nI hr ∧ K 78 4 = nI af) ∧ (∀ i, i < 64 → J 37 i = K 78 (21 + i) ∧ ∃ v, v ≤ 9 ∧ J 37 i = nI v) ∧ (∀ i, i < 64 → J 38 i = K 78 (85 + i) ∧ ∃ v, v ≤ 20 ∧ J 38 i = nI v) ∧ ∃ c fc fr, c ≤ 5 ∧ J 36 5 = nI c ∧ K 78 5 = nI c ∧ J 35 9 = nI fc ∧ fc ≤ 7 ∧ FEq (K 68 21) fc ∧ J 35 10 = nI fr ∧ fr ≤ 7 ∧ FEq (K 68 22) fr ∧ ∀ p, p < c → ∃ kd x y, kd ≤ 2 ∧ x ≤ 7 ∧ y ≤ 7 ∧ x ≤ fc ∧ y ≤ fr ∧ J 39 p = nI kd ∧ J 40 p = nI (8 * y + x) ∧ K 78 (6 + p) = nI kd ∧ K 78 (11 + p) = nI x ∧ K 78 (16 + p) = nI y
def DD (J K : I_T) : Prop := ∃ c e, VDay c e ∧ CS J 41 c 0 0 e ∧ K 78 0 = nI c ∧ ∀ j q, j < c → q < 3 → K 78 (1 + 3 * j + q) = e j q
def RD (J K : I_T) : Prop := ∃ c x y e, VRoute c x y e ∧ CS J 41 c x y e ∧ K 78 0 = nI x ∧ K 78 1 = nI y ∧ K 78 2 = nI c ∧ ∀ j q, j < c → q < 2 → K 78 (3 + 2 * j + q) = e j q
def SD (J K : I_T) : Prop := ∃ c x y e, VSight c x y e ∧ CS J 41 c x y e ∧ K 78 0 = nI x ∧ K 78 1 = nI y ∧ K 78 2 = nI c ∧ ∀ j q, j < c → q < 4 → K 78 (3 + 4 * j + q) = e j q
def DRel (s : Nat) (J K : I_T) : Prop := (s = 0 → LD J K) ∧ (s = 1 → DD J K) ∧ (s = 2 → RD J K) ∧ (s = 3 → SD J K)
theorem DRel.fr {s : Nat} {J K J' K' : I_T} (h : DRel s J K) (e : ∀ a, 36 ≤ a → a ≤ 42 → J' a = J a) (e9 : J' 35 9 = J 35 9) (e10 : J' 35 10 = J 35 10) (k78 : K' 78 = K 78) (k21 : K' 68 21 = K 68 21) (k22 : K' 68 22 = K 68 22) : DRel s J' K' := by
  unfold DRel LD DD RD SD CS at h ⊢
  rw [e 36 (by omega) (by omega), e 37 (by omega) (by omega), e 38 (by omega) (by omega), e 39 (by omega) (by omega), e 40 (by omega) (by omega), e 41 (by omega) (by omega), e (41 + 1) (by omega) (by omega), e9, e10, k78, k21, k22]
  exact h
theorem DRel.cnt {s : Nat} {J K : I_T} (hs : s < 4) (h : DRel s J K) : CDr s J ∧ K 78 (cix s) = cnt_ s J := by
  obtain ⟨h0, h1, h2, h3⟩ := h
  unfold CDr cnt_ cix cmx
  have : s = 0 ∨ s = 1 ∨ s = 2 ∨ s = 3 := by omega
  rcases this with rfl | rfl | rfl | rfl
  · obtain ⟨_, _, _, c, fc, fr, c5, a1, a2, _⟩ := h0 rfl
    exact ⟨⟨c, c5, a1⟩, a2.trans a1.symm⟩
  · obtain ⟨c, e, v, cs, a1, _⟩ := h1 rfl
    exact ⟨⟨c, v.1, cs.2.2.1⟩, a1.trans cs.2.2.1.symm⟩
  · obtain ⟨c, x, y, e, v, cs, _, _, a1, _⟩ := h2 rfl
    exact ⟨⟨c, v.1, cs.2.2.1⟩, a1.trans cs.2.2.1.symm⟩
  · obtain ⟨c, x, y, e, v, cs, _, _, a1, _⟩ := h3 rfl
    exact ⟨⟨c, v.1, cs.2.2.1⟩, a1.trans cs.2.2.1.symm⟩
theorem DRel.safe {s : Nat} {J K : I_T} (hs : s < 4) (h : DRel s J K) : Safe s K := by
  obtain ⟨⟨c, c1, c2⟩, c3⟩ := h.cnt hs
  exact ⟨c, c1, c3.trans c2⟩
theorem fl_cnt {s c : Nat} {J : I_T} (hs : s < 4) (h : cnt_ s J = nI c) (hc : c ≤ cmx s) : fl J s = !decide (c < cmx s) := by
  unfold cnt_ at h
  unfold cmx at hc ⊢
  unfold fl
  have : s = 0 ∨ s = 1 ∨ s = 2 ∨ s = 3 := by omega
  rcases this with rfl | rfl | rfl | rfl
  · rw [if_pos rfl] at h hc ⊢
    rw [if_pos rfl, h]
    exact congrArg (fun q => !q) (decide_eq_decide.mpr (nl_lt (k := 5) (j := 5) rfl (by omega) (by omega)))
  · rw [if_neg (by omega)] at h
    rw [if_neg (by omega), if_pos rfl] at hc
    rw [if_neg (by omega), if_pos rfl, if_neg (by omega), if_pos rfl, h]
    exact congrArg (fun q => !q) (decide_eq_decide.mpr (nl_lt (k := 40) (j := 40) rfl (by omega) (by omega)))
  · rw [if_neg (by omega)] at h
    rw [if_neg (by omega), if_neg (by omega)] at hc
    rw [if_neg (by omega), if_neg (by omega), if_neg (by omega), if_neg (by omega), h]
    exact congrArg (fun q => !q) (decide_eq_decide.mpr (nl_lt (k := 10) (j := 10) rfl (by omega) (by omega)))
  · rw [if_neg (by omega)] at h
    rw [if_neg (by omega), if_neg (by omega)] at hc
    rw [if_neg (by omega), if_neg (by omega), if_neg (by omega), if_neg (by omega), h]
    exact congrArg (fun q => !q) (decide_eq_decide.mpr (nl_lt (k := 10) (j := 10) rfl (by omega) (by omega)))
/-- frames of a line -/
def LFc (J J' : I_T) : Prop := ∀ a, a < 35 ∨ 43 < a → J' a = J a
def LFm (K : I_T) (L : L_T) (K' : I_T) (L' : L_T) : Prop := (∀ a, a ≠ 68 → a ≠ 78 → a ≠ 79 → K' a = K a) ∧ (∀ j, j < 10 ∨ j = 11 ∨ 23 < j → K' 68 j = K 68 j) ∧ (∀ a, a ≠ 68 → L' a = L a)
theorem LFm.trans {K K' K'' : I_T} {L L' L'' : L_T} (h : LFm K L K' L') (g : LFm K' L' K'' L'') : LFm K L K'' L'' := ⟨fun a h1 h2 h3 => (g.1 a h1 h2 h3).trans (h.1 a h1 h2 h3), fun j hj => (g.2.1 j hj).trans (h.2.1 j hj), fun a h1 => (g.2.2 a h1).trans (h.2.2 a h1)⟩
theorem MFr3.l {K K' : I_T} {L L' : L_T} (h : MFr3 K L K' L') : LFm K L K' L' := ⟨fun a h1 _ h3 => h.1 a h1 h3, fun j hj => h.2.1 j (by omega), h.2.2.1⟩
theorem MFr.l {K K' : I_T} {L L' : L_T} (h : MFr K L K' L') : LFm K L K' L' := h.three.l
/-- what a line's own step of the model may write -/
def KFr (K K' : I_T) : Prop := (∀ a, a ≠ 68 → a ≠ 78 → a ≠ 79 → K' a = K a) ∧ ∀ j, j ≠ 21 → j ≠ 22 → K' 68 j = K 68 j
theorem KFr.l {K K' : I_T} {L : L_T} (h : KFr K K') : LFm K L K' L := ⟨h.1, fun j hj => h.2 j (by omega) (by omega), fun _ _ => rfl⟩
/-- a line's outcome, both sides -/
def LRes (Z : Nat → Nat) (R : R_T) (T : Nat → Nat) (n s b i : Nat) (F : Nat × Nat) (J : I_T) (L : L_T) (wnum : Int32) (wv : Int64) : Prop := ∃ (ok : Bool) (b' : Nat) (F' : Nat × Nat) (J' : I_T), (ok = true → b < b') ∧ b' ≤ n ∧ D_X5_readLines_39 Z J L R 35 7 (nI s) (nI i) wnum = some (if ok = true then .inl (nI (i + 1), J') else .inr J') ∧ LFc J J' ∧ (ok = true → CTok J' T n b' ∧ CF J' F' ∧ (F'.1 = 0 → F.1 = 0 ∧ CDr s J')) ∧ (ok = false → J' 35 2 = 1 ∧ J' 35 3 = nI b') ∧ ∀ K LK, TPm Z R K n T → MTok K LK T n b → MF K F → (F.1 ≠ 0 → F.2 < b) → K 68 23 = 1 → Safe s K → (F.1 = 0 → DRel s J K) → ∃ K' L', D_X11_lines_41 Z K LK R 68 (nI s) (nI b) wv (nI s) 68 = some (.inl (bI ok, K', L')) ∧ LFm K LK K' L' ∧ (ok = true → MTok K' L' T n b' ∧ MF K' F' ∧ (F'.1 ≠ 0 → F'.2 < b') ∧ Safe s K' ∧ (F'.1 = 0 → DRel s J' K')) ∧ (ok = false → K' 68 16 = nI b')
section
variable {Z : Nat → Nat} {L : L_T} {R : R_T} {n : Nat} {T : Nat → Nat}
theorem halt_ok {J : I_T} {b : Nat} (h6 : J 35 6 = nI b) : ∃ J', D_X5_halt Z J L R 35 = some J' ∧ J' 35 2 = 1 ∧ J' 35 3 = nI b ∧ LFc J J' := by
  refine ⟨up2 (up2 J 35 2 1) 35 3 (nI b), ?_, by rw [up2_j (by omega), up2_s], up2_s _ _ _ _, fun a ha => by rw [up2_ne (by omega), up2_ne (by omega)]⟩
  rw [D_X5_halt, bs_, bs_, up2_j (show (6 : Nat) ≠ 2 by decide), h6]
/-- behind a line, the model's side -/
theorem m41_no {K K' : I_T} {LK L' : L_T} {s b : Nat} {wv : Int64} (h : D_X11_lineOf Z K LK R 68 (nI s) wv (nI b) = some (0, K', L')) : D_X11_lines_41 Z K LK R 68 (nI s) (nI b) wv (nI s) 68 = some (.inl (0, K', L')) := by
  rw [D_X11_lines_41, h, bs_]
  dsimp only
  rw [if_pos rfl, D_X11_lines_63, if_pos rfl]
theorem m41_bad {K K' : I_T} {LK L' : L_T} {s b b2 : Nat} {wv : Int64} (h : D_X11_lineOf Z K LK R 68 (nI s) wv (nI b) = some (1, K', L')) (mt : MTok K' L' T n b2) (hk : ¬ tkK T n b2 = 3) : D_X11_lines_41 Z K LK R 68 (nI s) (nI b) wv (nI s) 68 = some (.inl (0, up2 K' 68 16 (nI b2), L')) := by
  have k3 := mkK_3 (tkK T n b2) (by have := tkK_le T n b2; omega)
  rw [D_X11_lines_41, h, bs_]
  dsimp only
  rw [if_neg (show ¬ (1 : Int32) = 0 by decide), if_neg (show ¬ K' 68 13 = 4 by rw [mt.2.2.1]; exact fun u => hk (k3.2.1.mp ((nl_eq (k := 4) (j := 4) rfl (by omega) (by omega)).mp u))), D_X11_fails, mt.2.1, bs_, bs_]
  dsimp only
  rw [D_X11_lines_63, if_pos rfl]
theorem m41_ok {K K' : I_T} {LK L' : L_T} {s b b2 : Nat} {wv : Int64} (h : D_X11_lineOf Z K LK R 68 (nI s) wv (nI b) = some (1, K', L')) (tp : TPm Z R K' n T) (hb : b2 ≤ n) (mt : MTok K' L' T n b2) (hk : tkK T n b2 = 3) : ∃ K'' L'', D_X11_lines_41 Z K LK R 68 (nI s) (nI b) wv (nI s) 68 = some (.inl (1, K'', L'')) ∧ MTok K'' L'' T n (nbt T n b2) ∧ MFr K' L' K'' L'' := by
  have te := tkE_ge (T := T) hb
  obtain ⟨K'', L'', t1, t2, t3⟩ := token_ok (L := L') tp te.2 mt.1
  refine ⟨K'', L'', ?_, t2, t3⟩
  rw [D_X11_lines_41, h, bs_]
  dsimp only
  rw [if_neg (show ¬ (1 : Int32) = 0 by decide), if_pos (show K' 68 13 = 4 by rw [mt.2.2.1, hk]; rfl), D_X11_lines_63, if_neg (show ¬ (1 : Int32) = 0 by decide), t1, bs_]
/-- the first step of a line that tells a further one -/
theorem mfull_ok {K : I_T} {F : Nat × Nat} {s b : Nat} (hs : s < 4) (hb : b ≤ 600) (r19 : R 68 19 = some 78) (z78 : Z 78 = 149) (mf : MF K F) (wf : F.1 ≠ 0 → F.2 < b) (safe : Safe s K) {f : Bool} (hf : F.1 = 0 → ∀ c, c ≤ cmx s → K 78 (cix s) = nI c → f = !decide (c < cmx s)) : ∃ K', D_X11_full Z K L R 68 (nI (cix s)) (nI (cmx s)) (nI b) = some K' ∧ MF K' (fN (!f) 3 b F) ∧ (∀ a, a ≠ 68 → K' a = K a) ∧ ∀ j, j ≠ 17 → j ≠ 18 → K' 68 j = K 68 j := by
  obtain ⟨c, c1, c2⟩ := safe
  have x1 : cix s < 149 := by
    unfold cix
    repeat' split
    all_goals omega
  have x2 : cmx s < 100 := by
    unfold cmx
    repeat' split
    all_goals omega
  obtain ⟨K1, a1, a2, a3, a4⟩ := later_ok (Z := Z) (L := L) (R := R) (w := 3) (b := b) mf (by omega) hb
  rw [lF_fN wf] at a2
  rw [D_X11_full, r19, bs_, z78, if_pos (inb_nI x1 (by omega)), cl_nI (by omega), c2]
  by_cases z : c = cmx s
  · rw [if_pos (congrArg nI z), show (3 : Int32) = nI 3 from rfl, a1, bs_]
    refine ⟨K1, rfl, ?_, a3, a4⟩
    by_cases y : F.1 = 0
    · rw [hf y c c1 c2, decide_eq_false (show ¬ c < cmx s by omega)]
      exact a2
    · have e : ∀ o : Bool, fN o 3 b F = F := fun o => by
        unfold fN
        cases o with
        | true => rfl
        | false => rw [if_neg (fun z => Bool.noConfusion z), if_neg y]
      rw [e] at a2
      rw [e]
      exact a2
  · rw [if_neg (fun u => z ((nI_eq (by omega) (by omega)).mp u))]
    refine ⟨K, rfl, ?_, fun _ _ => rfl, fun _ _ _ => rfl⟩
    by_cases y : F.1 = 0
    · rw [hf y c c1 c2, decide_eq_true (show c < cmx s by omega)]
      exact mf
    · have e : ∀ o : Bool, fN o 3 b F = F := fun o => by
        unfold fN
        cases o with
        | true => rfl
        | false => rw [if_neg (fun z => Bool.noConfusion z), if_neg y]
      rw [e]
      exact mf
end
