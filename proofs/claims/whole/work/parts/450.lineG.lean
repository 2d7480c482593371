/-! texts: a line that isn't a row's, both sides -/
/-- what the class's own step of a line may write -/
def TFr (J J' : I_T) : Prop := (∀ a, a < 35 ∨ 42 < a → J' a = J a) ∧ ∀ j, j ≠ 9 → j ≠ 10 → J' 35 j = J 35 j
theorem nums_k {T : Nat → Nat} {n w : Nat} : ∀ c i b F, (nums T n w c i b F).1 = true → ∀ j, j < c → tkK T n (itb T n j b) = 2 := by
  intro c
  induction c with
  | zero => intro i b F _ j hj; omega
  | succ c ih =>
    intro i b F h j hj
    by_cases hk : tkK T n b = 2
    · rw [show nums T n w (c + 1) i b F = nums T n w c (i + 1) (nbt T n b) (fN (okv (lo_ w i) (hi_ w i) (tkV T n b)) 2 b F) from if_pos hk] at h
      cases j with
      | zero => exact hk
      | succ j => exact ih _ _ _ h j (by omega)
    · rw [show nums T n w (c + 1) i b F = (false, b, F) from if_neg hk] at h
      exact Bool.noConfusion h
theorem nums_ok {T : Nat → Nat} {n w : Nat} : ∀ c i b F, (nums T n w c i b F).2.2.1 = 0 → F.1 = 0 ∧ ((nums T n w c i b F).1 = true → ∀ j, j < c → okv (lo_ w (i + j)) (hi_ w (i + j)) (tkV T n (itb T n j b)) = true) := by
  intro c
  induction c with
  | zero => intro i b F h; exact ⟨h, fun _ j hj => by omega⟩
  | succ c ih =>
    intro i b F h
    by_cases hk : tkK T n b = 2
    · rw [show nums T n w (c + 1) i b F = nums T n w c (i + 1) (nbt T n b) (fN (okv (lo_ w i) (hi_ w i) (tkV T n b)) 2 b F) from if_pos hk] at h ⊢
      obtain ⟨y1, y2⟩ := ih _ _ _ h
      obtain ⟨y3, y4⟩ := fN_0 (by omega) y1
      refine ⟨y4, fun z j hj => ?_⟩
      cases j with
      | zero => exact y3
      | succ j =>
        rw [show i + (j + 1) = i + 1 + j by omega]
        exact y2 z j (by omega)
    · rw [show nums T n w (c + 1) i b F = (false, b, F) from if_neg hk] at h ⊢
      exact ⟨h, fun z => Bool.noConfusion z⟩
theorem nums_ge {T : Nat → Nat} {n w : Nat} : ∀ c i b F, b ≤ (nums T n w c i b F).2.1 := by
  intro c
  induction c with
  | zero => intro i b F; exact Nat.le_refl _
  | succ c ih =>
    intro i b F
    by_cases hk : tkK T n b = 2
    · rw [show nums T n w (c + 1) i b F = nums T n w c (i + 1) (nbt T n b) (fN (okv (lo_ w i) (hi_ w i) (tkV T n b)) 2 b F) from if_pos hk]
      exact Nat.le_trans (Nat.le_of_lt (nbt_gt (tkK_lt (T := T) (by omega)))) (ih _ _ _)
    · rw [show nums T n w (c + 1) i b F = (false, b, F) from if_neg hk]
      exact Nat.le_refl _
theorem CDr.fr {s : Nat} {J J' : I_T} (h : CDr s J) (e1 : J' 36 5 = J 36 5) (e2 : J' 41 3 = J 41 3) : CDr s J' := by
  unfold CDr cnt_ at h ⊢
  rw [e1, e2]
  exact h
/-- the model up to behind a line's numbers -/
def MRun (Z : Nat → Nat) (R : R_T) (T : Nat → Nat) (n s w q0 : Nat) (k : I_T → L_T → Option (Int32 × I_T × L_T)) (wv : Int64) (pre : I_T → I_T) (Pk : I_T → I_T → Prop) (b : Nat) (F : Nat × Nat) (J3 : I_T) (N : Bool × Nat × (Nat × Nat)) (K : I_T) (LK : L_T) : Prop := ∃ K2 L2, (∀ r K3 L3, (if N.1 = true then k K2 L2 else some (0, K2, L2)) = some (r, K3, L3) → isb r = true → D_X11_lineOf Z K LK R 68 (nI s) wv (nI b) = some (r, K3, L3)) ∧ (N.1 = false → K2 68 16 = nI N.2.1) ∧ MTok K2 L2 T n N.2.1 ∧ MF K2 N.2.2 ∧ (N.2.2.1 ≠ 0 → N.2.2.2 < N.2.1) ∧ LFm K LK K2 L2 ∧ Safe s K2 ∧ (F.1 = 0 → N.1 = true → Pk J3 K2) ∧ (∃ K', ∀ q, q < q0 ∨ q0 + nm_ w ≤ q → K2 79 q = pre K' 79 q) ∧ (N.1 = true → ∀ j, j < nm_ w → K2 79 (q0 + j) = nI (tkV T n (itb T n j (nbt T n b)))) ∧ (N.1 = true → K2 68 23 ≠ 0 → ∀ j, j < nm_ w → okv (lo_ w j) (hi_ w j) (tkV T n (itb T n j (nbt T n b))) = true) ∧ (N.2.2.1 = 0 → K2 68 23 = 1)
section
variable {Z : Nat → Nat} {L : L_T} {R : R_T} {n : Nat} {T : Nat → Nat}
theorem mrun {w s q0 : Nat} (hw : w < 19) (hs : s < 4) (hq : q0 + nm_ w ≤ 4) (r19 : R 68 19 = some 78) (z78 : Z 78 = 149) (r20 : R 68 20 = some 79) (z79 : Z 79 = 4) {wv : Int64} {pre : I_T → I_T} (hpre : ∀ K a, a ≠ 79 → pre K a = K a) {k : I_T → L_T → Option (Int32 × I_T × L_T)} {b : Nat} (hb : b < n)
    (hdisp : ∀ (K : I_T) (L : L_T) (K1 K2 : I_T) (L2 : L_T) (r : Int32) (K3 : I_T) (L3 : L_T), (fu w = true → D_X11_full Z K L R 68 (nI (cix s)) (nI (cmx s)) (nI b) = some K1) → (fu w = false → K1 = K) → D_X11_token Z K1 L R 68 = some (K2, L2) → mch Z R w q0 k (nm_ w) 0 (pre K2) L2 = some (r, K3, L3) → isb r = true → D_X11_lineOf Z K L R 68 (nI s) wv (nI b) = some (r, K3, L3))
    {J J3 : I_T} {F : Nat × Nat} (f3 : CFr2 J J3) {N : Bool × Nat × (Nat × Nat)} (hN : nums T n w (nm_ w) 0 (nbt T n b) (F0_ J s w b F) = N) {K : I_T} {LK : L_T} (tp : TPm Z R K n T) (mt : MTok K LK T n b) (mf : MF K F) (wf : F.1 ≠ 0 → F.2 < b) (h23 : K 68 23 = 1) (safe : Safe s K) (dr : F.1 = 0 → DRel s J K) : MRun Z R T n s w q0 k wv pre (DRel s) b F J3 N K LK := by
  have n600 := tp.2.1
  have bn := nbt_gt (T := T) hb
  have st : ∃ K1, (fu w = true → D_X11_full Z K LK R 68 (nI (cix s)) (nI (cmx s)) (nI b) = some K1) ∧ (fu w = false → K1 = K) ∧ MF K1 (F0_ J s w b F) ∧ (∀ a, a ≠ 68 → K1 a = K a) ∧ ∀ j, j ≠ 17 → j ≠ 18 → K1 68 j = K 68 j := by
    unfold F0_
    cases hf : fu w with
    | false =>
      refine ⟨K, fun z => Bool.noConfusion z, fun _ => rfl, ?_, fun _ _ => rfl, fun _ _ _ => rfl⟩
      rw [Bool.false_and]
      exact mf
    | true =>
      rw [Bool.true_and]
      obtain ⟨K1, a1, a2, a3, a4⟩ := mfull_ok (Z := Z) (L := LK) (R := R) (f := fl J s) hs (show b ≤ 600 by omega) r19 z78 mf wf safe (fun y c c1 c2 => by
        obtain ⟨_, e⟩ := (dr y).cnt hs
        exact fl_cnt hs (by rw [← e, c2]) c1)
      exact ⟨K1, fun _ => a1, fun z => Bool.noConfusion z, a2, a3, a4⟩
  obtain ⟨K1, s1, s2, s3, s4, s5⟩ := st
  have te := tkE_ge (T := T) (show b ≤ n by omega)
  have tp1 : TPm Z R K1 n T := tp.fr (s5 11 (by omega) (by omega)) (s4 69 (by omega))
  obtain ⟨Ka, La, t1, t2, t3⟩ := token_ok (L := LK) tp1 te.2 (by rw [s5 10 (by omega) (by omega)]; exact mt.1)
  have t2' : MTok Ka La T n (nbt T n b) := t2
  have wf0 : (F0_ J s w b F).1 ≠ 0 → (F0_ J s w b F).2 < nbt T n b := fN_wf (fun z => Nat.lt_trans (wf z) bn) bn
  have pa : ∀ a, a ≠ 79 → pre Ka a = Ka a := hpre Ka
  obtain ⟨K2, L2, m1, m2, m3, m4, m5, m6, m7, m8, m9, m10, m11⟩ := mchain (T := T) (n := n) hw r20 z79 k (nm_ w) 0 (nbt T n b) (F0_ J s w b F) (pre Ka) La (by omega) (by omega) (nbt_le (by omega)) (tp1.fr (K' := pre Ka) (by rw [pa 68 (by omega), t3.2.1 11 (by omega) (by omega) (by omega) (by omega)]) (by rw [pa 69 (by omega), t3.1 69 (by omega)])) (t2'.fr (fun j _ => by rw [pa 68 (by omega)])) (s3.fr (by rw [pa 68 (by omega), t3.2.1 17 (by omega) (by omega) (by omega) (by omega)]) (by rw [pa 68 (by omega), t3.2.1 18 (by omega) (by omega) (by omega) (by omega)])) wf0
  rw [hN] at m1 m2 m3 m4 m5 m8 m10 m11
  have o2 : ∀ a, a ≠ 68 → a ≠ 79 → K2 a = K a := fun a a1 a2 => by rw [m6.1 a a1 a2, pa a a2, t3.1 a a1, s4 a a1]
  have q2 : ∀ j, j < 10 ∨ j = 11 ∨ (18 < j ∧ j ≠ 23) → K2 68 j = K 68 j := fun j hj => by rw [m6.2.1 j (by omega), pa 68 (by omega), t3.2.1 j (by omega) (by omega) (by omega) (by omega), s5 j (by omega) (by omega)]
  have k78 := o2 78 (by omega) (by omega)
  have g0 : pre Ka 68 23 = 1 := by rw [pa 68 (by omega), t3.2.1 23 (by omega) (by omega) (by omega) (by omega), s5 23 (by omega) (by omega), h23]
  refine ⟨K2, L2, fun r K3 L3 hr hb2 => hdisp K LK K1 Ka La r K3 L3 s1 s2 t1 (m1.trans hr) hb2, m2, m3, m4, m5, ⟨fun a a1 _ a3 => o2 a a1 a3, fun j hj => q2 j (by omega), fun a ha => by rw [m6.2.2.1 a ha, t3.2.2.1 a ha]⟩, ?_, fun z _ => (dr z).fr (fun a a1 a2 => f3.1 a (by omega) (by omega)) (f3.2 9 (by omega)) (f3.2 10 (by omega)) k78 (q2 21 (by omega)) (q2 22 (by omega)), ⟨Ka, fun q hq => m7 q (by omega)⟩, fun z j hj => ?_, fun z z2 j hj => ?_, fun z => ?_⟩
  · unfold Safe at safe ⊢
    rw [k78]
    exact safe
  · have := m8 z j hj
    rwa [Nat.add_zero] at this
  · have := m10 z2 z j hj
    rwa [Nat.zero_add] at this
  · rw [(m11 z).2.1, g0]
theorem line_gen {w s q0 : Nat} (hw : w < 19) (hw1 : w ≠ 1) (hs : s < 4) (hq : q0 + nm_ w ≤ 4) (r0 : R 35 0 = some 36) (r1 : R 35 1 = some 41) (r4 : R 35 4 = some 43) (z43 : Z 43 = 3) (r19 : R 68 19 = some 78) (z78 : Z 78 = 149) (r20 : R 68 20 = some 79) (z79 : Z 79 = 4) {wv : Int64} {pre : I_T → I_T} {k : I_T → L_T → Option (Int32 × I_T × L_T)}
    (Pk : I_T → I_T → Prop) (hrun : ∀ (b : Nat) (F : Nat × Nat) (J J3 : I_T) (N : Bool × Nat × (Nat × Nat)) (K : I_T) (LK : L_T), b < n → CFr2 J J3 → nums T n w (nm_ w) 0 (nbt T n b) (F0_ J s w b F) = N → TPm Z R K n T → MTok K LK T n b → MF K F → (F.1 ≠ 0 → F.2 < b) → K 68 23 = 1 → Safe s K → (F.1 = 0 → DRel s J K) → MRun Z R T n s w q0 k wv pre Pk b F J3 N K LK)
    (htake : ∀ (J3 : I_T) (v : Nat → Nat), (∀ j, j < nm_ w → okv (lo_ w j) (hi_ w j) (v j) = true ∧ J3 43 j = nI (v j)) → CDr s J3 → (fu w = true → ∃ c, c < cmx s ∧ cnt_ s J3 = nI c) → ∃ J4, D_X5_take Z J3 L R 35 (nI s) (nI w) = some J4 ∧ TFr J3 J4 ∧ CDr s J4 ∧ ∀ (K2 : I_T) (L2 : L_T), (∀ j, j < nm_ w → K2 79 (q0 + j) = nI (v j)) → (∃ K', ∀ q, q < q0 ∨ q0 + nm_ w ≤ q → K2 79 q = pre K' 79 q) → K2 68 23 = 1 → Pk J3 K2 → ∃ K3, k K2 L2 = some (1, K3, L2) ∧ KFr K2 K3 ∧ DRel s J4 K3)
    (hsafe : ∀ (K2 : I_T) (L2 : L_T) (v : Nat → Nat), (∀ j, j < nm_ w → K2 79 (q0 + j) = nI (v j) ∧ v j < 100 ∧ (K2 68 23 ≠ 0 → okv (lo_ w j) (hi_ w j) (v j) = true)) → Safe s K2 → ∃ K3, k K2 L2 = some (1, K3, L2) ∧ KFr K2 K3 ∧ Safe s K3)
    {J : I_T} {F : Nat × Nat} {b i : Nat} (tp : TPc Z R J n T) (rt : RT Z J) (ct : CTok J T n b) (cf : CF J F) (hb : b < n) (hc : F.1 = 0 → CDr s J) : LRes Z R T n s b i F J L (nI w) wv := by
  have n600 := tp.2.1
  have bn := nbt_gt (T := T) hb
  generalize hN : nums T n w (nm_ w) 0 (nbt T n b) (F0_ J s w b F) = N
  obtain ⟨J3, c1, c2, c3, c4, c5⟩ := cline (L := L) tp rt r0 r1 r4 z43 (show b ≤ n by omega) hw hw1 hs ct cf hN
  have nge : nbt T n b ≤ N.2.1 := by rw [← hN]; exact nums_ge _ _ _ _
  have nk : N.1 = true → ∀ j, j < nm_ w → tkV T n (itb T n j (nbt T n b)) < 100 := fun z j hj => by
    rw [← hN] at z
    exact tk_dig (nums_k _ _ _ _ z j hj)
  have no : N.2.2.1 = 0 → (F0_ J s w b F).1 = 0 ∧ (N.1 = true → ∀ j, j < nm_ w → okv (lo_ w j) (hi_ w j) (tkV T n (itb T n j (nbt T n b))) = true) := fun z => by
    rw [← hN] at z ⊢
    obtain ⟨y1, y2⟩ := nums_ok _ _ _ _ z
    refine ⟨y1, fun y j hj => ?_⟩
    have := y2 y j hj
    rwa [Nat.zero_add] at this
  have nf : N.2.2.1 = 0 → F.1 = 0 ∧ (fu w && fl J s) = false := fun z => by
    obtain ⟨y1, y2⟩ := fN_0 (by omega) (no z).1
    refine ⟨y2, ?_⟩
    cases q : (fu w && fl J s) with
    | false => rfl
    | true =>
      rw [q] at y1
      exact Bool.noConfusion y1
  have wm1 : ¬ nI w = -1 := nI_neg1 (by omega)
  have run := fun (K : I_T) (LK : L_T) => hrun b F J J3 N K LK hb c2 hN
  by_cases okk : N.1 = true ∧ tkK T n N.2.1 = 3
  · obtain ⟨d1, d2, d3⟩ := c4 okk
    have bgt := nbt_gt (T := T) (tkK_lt (T := T) (n := n) (b := N.2.1) (by omega))
    by_cases z : N.2.2.1 = 0
    · obtain ⟨f0, ffl⟩ := nf z
      have cd : CDr s J3 := (hc f0).fr (by rw [c2.1 36 (by omega) (by omega)]) (by rw [c2.1 41 (by omega) (by omega)])
      obtain ⟨J4, e1, e2, e3, e4⟩ := htake J3 (fun j => tkV T n (itb T n j (nbt T n b))) (fun j hj => ⟨(no z).2 okk.1 j hj, d3 j hj⟩) cd (fun y => by
        obtain ⟨c, g1, g2⟩ := cd
        rw [y, Bool.true_and] at ffl
        have hcnt : cnt_ s J = nI c := by
          rw [← g2]
          unfold cnt_
          rw [c2.1 36 (by omega) (by omega), c2.1 41 (by omega) (by omega)]
        rw [fl_cnt hs hcnt g1] at ffl
        refine ⟨c, ?_, g2⟩
        by_cases u : c < cmx s
        · exact u
        · rw [decide_eq_false u] at ffl
          exact Bool.noConfusion ffl)
      rw [if_pos z, e1, bs_] at d2
      refine ⟨true, nbt T n N.2.1, N.2.2, J4, fun _ => by omega, nbt_le c3, ?_, fun a ha => by rw [e2.1 a (by omega), c2.1 a (by omega) (by omega)], fun _ => ⟨d1.fr (fun j j1 j2 => e2.2 j (by omega) (by omega)), ?_, fun _ => ⟨f0, e3⟩⟩, fun y => Bool.noConfusion y, fun K LK tpm mt mf wf h23 safe dr => ?_⟩
      · rw [D_X5_readLines_39, if_neg wm1, d2, bs_]
        dsimp only
        rw [if_neg (show ¬ (1 : Int32) = 0 by decide), nI_1, if_pos rfl]
      · unfold CF at c1 ⊢
        rw [e2.2 2 (by omega) (by omega), e2.2 3 (by omega) (by omega)]
        exact c1
      · obtain ⟨K2, L2, m1, m2, m3, m4, m5, m6, m7, m8, m9, m10, m11, m12⟩ := run K LK tpm mt mf wf h23 safe dr
        obtain ⟨K3, k1, k2, k3⟩ := e4 K2 L2 (m10 okk.1) m9 (m12 z) (m8 f0 okk.1)
        have lo := m1 1 K3 L2 (by rw [if_pos okk.1]; exact k1) (by decide)
        have mt3 : MTok K3 L2 T n N.2.1 := m3.fr (fun j hj => k2.2 j (by omega) (by omega))
        have tp3 : TPm Z R K3 n T := tpm.fr (by rw [k2.2 11 (by omega) (by omega), m6.2.1 11 (by omega)]) (by rw [k2.1 69 (by omega) (by omega) (by omega), m6.1 69 (by omega) (by omega) (by omega)])
        obtain ⟨K4, L4, p1, p2, p3⟩ := m41_ok lo tp3 c3 mt3 okk.2
        have dr4 : DRel s J4 K4 := k3.fr (fun _ _ _ => rfl) rfl rfl (p3.1 78 (by omega)) (p3.2.1 21 (by omega) (by omega) (by omega) (by omega)) (p3.2.1 22 (by omega) (by omega) (by omega) (by omega))
        refine ⟨K4, L4, p1, (m6.trans k2.l).trans p3.l, fun _ => ⟨p2, m4.fr ?_ ?_, fun y => by have := m5 y; omega, dr4.safe hs, fun _ => dr4⟩, fun y => Bool.noConfusion y⟩
        · rw [p3.2.1 17 (by omega) (by omega) (by omega) (by omega), k2.2 17 (by omega) (by omega)]
        · rw [p3.2.1 18 (by omega) (by omega) (by omega) (by omega), k2.2 18 (by omega) (by omega)]
    · rw [if_neg z] at d2
      refine ⟨true, nbt T n N.2.1, N.2.2, J3, fun _ => by omega, nbt_le c3, ?_, fun a ha => by rw [c2.1 a (by omega) (by omega)], fun _ => ⟨d1, c1, fun y => (z y).elim⟩, fun y => Bool.noConfusion y, fun K LK tpm mt mf wf h23 safe dr => ?_⟩
      · rw [D_X5_readLines_39, if_neg wm1, d2, bs_]
        dsimp only
        rw [if_neg (show ¬ (1 : Int32) = 0 by decide), nI_1, if_pos rfl]
      · obtain ⟨K2, L2, m1, m2, m3, m4, m5, m6, m7, m8, m9, m10, m11, m12⟩ := run K LK tpm mt mf wf h23 safe dr
        obtain ⟨K3, k1, k2, k3⟩ := hsafe K2 L2 (fun j => tkV T n (itb T n j (nbt T n b))) (fun j hj => ⟨m10 okk.1 j hj, nk okk.1 j hj, fun y => m11 okk.1 y j hj⟩) m7
        have lo := m1 1 K3 L2 (by rw [if_pos okk.1]; exact k1) (by decide)
        have mt3 : MTok K3 L2 T n N.2.1 := m3.fr (fun j hj => k2.2 j (by omega) (by omega))
        have tp3 : TPm Z R K3 n T := tpm.fr (by rw [k2.2 11 (by omega) (by omega), m6.2.1 11 (by omega)]) (by rw [k2.1 69 (by omega) (by omega) (by omega), m6.1 69 (by omega) (by omega) (by omega)])
        obtain ⟨K4, L4, p1, p2, p3⟩ := m41_ok lo tp3 c3 mt3 okk.2
        refine ⟨K4, L4, p1, (m6.trans k2.l).trans p3.l, fun _ => ⟨p2, m4.fr ?_ ?_, fun y => by have := m5 y; omega, ?_, fun y => (z y).elim⟩, fun y => Bool.noConfusion y⟩
        · rw [p3.2.1 17 (by omega) (by omega) (by omega) (by omega), k2.2 17 (by omega) (by omega)]
        · rw [p3.2.1 18 (by omega) (by omega) (by omega) (by omega), k2.2 18 (by omega) (by omega)]
        · unfold Safe at k3 ⊢
          rw [p3.1 78 (by omega)]
          exact k3
  · obtain ⟨d1, d2⟩ := c5 okk
    obtain ⟨J', h1, h2, h3, h4⟩ := halt_ok (Z := Z) (L := L) (R := R) d1.2.1
    refine ⟨false, N.2.1, N.2.2, J', fun y => Bool.noConfusion y, c3, ?_, fun a ha => by rw [h4 a ha, c2.1 a (by omega) (by omega)], fun y => Bool.noConfusion y, fun _ => ⟨h2, h3⟩, fun K LK tpm mt mf wf h23 safe dr => ?_⟩
    · rw [D_X5_readLines_39, if_neg wm1, d2, bs_]
      dsimp only
      rw [if_pos rfl, h1, bs_, if_neg (fun y => Bool.noConfusion y)]
    · obtain ⟨K2, L2, m1, m2, m3, m4, m5, m6, m7, m8, m9, m10, m11, m12⟩ := run K LK tpm mt mf wf h23 safe dr
      cases hok : N.1 with
      | false =>
        have lo := m1 0 K2 L2 (by rw [hok, if_neg (fun y => Bool.noConfusion y)]) (by decide)
        exact ⟨K2, L2, m41_no lo, m6, fun y => Bool.noConfusion y, fun _ => m2 hok⟩
      | true =>
        obtain ⟨K3, k1, k2, k3⟩ := hsafe K2 L2 (fun j => tkV T n (itb T n j (nbt T n b))) (fun j hj => ⟨m10 hok j hj, nk hok j hj, fun y => m11 hok y j hj⟩) m7
        have lo := m1 1 K3 L2 (by rw [if_pos hok]; exact k1) (by decide)
        have mt3 : MTok K3 L2 T n N.2.1 := m3.fr (fun j hj => k2.2 j (by omega) (by omega))
        have bad := m41_bad lo mt3 (fun u => okk ⟨hok, u⟩)
        have kl : LFm K LK K3 L2 := m6.trans k2.l
        exact ⟨_, L2, bad, ⟨fun a a1 a2 a3 => by rw [up2_ne a1]; exact kl.1 a a1 a2 a3, fun j hj => by rw [up2_j (by omega)]; exact kl.2.1 j hj, kl.2.2⟩, fun y => Bool.noConfusion y, fun _ => up2_s _ _ _ _⟩
end
