/-! sights: a step that may be -/
def now_ (s : Nat → Bool) (c on : Nat) : Nat := if s c = true then on + 1 else 0
theorem walksOn_ok {sh : sh_T} {I J : I_T} {L L' : L_T} {R : R_T} (h : Inv sh I L R) {j : Nat} (hj : j < 2) {d : ld_T} (hd : VD d) {s : Nat → Bool} {n x y : Nat} {e : Nat → Nat → Int32} (v : VSight n x y e) (m2 : I 77 (43 * j + 2) = nI n) (m3 : ∀ i q, i < n → q < 4 → I 77 (43 * j + (3 + 4 * i + q)) = e i q) (e25 : J 68 25 = nI (lw d)) (e28 : J 68 28 = nI (lhr d)) (e55 : J 68 55 = nI j) (e77 : J 77 = I 77) (hs : SoilA sh.2.2 J L' R d s) {c on t : Nat} (hc : c < cs_ d) (ho : on ≤ 13) (ht : t ≤ 12) : ∃ q : Bool, D_X11_walksOn sh.2.2 J L' R 68 (nI c) (nI on) (nI t) = some (if q = true then nI (now_ s c on) else -1) ∧ (q = true ↔ now_ s c on ≤ lhr d ∧ okF d n e t c) := by
  have h64 := cs_le hd
  have hr := hd.2.2.2.2.2.2.1
  obtain ⟨q, q1, q2⟩ := mayBe_ok (L' := L') h hj hd v m2 m3 e25 e55 e77 (show c < 64 by omega) ht
  have f15 : ∀ a : Nat, a ≤ 14 → D_X11_walksOn_15 sh.2.2 J L' R 68 (nI c) (nI t) (nI a) = some (if (decide (a ≤ lhr d) && q) = true then nI a else -1) := fun a ha => by
    rw [D_X11_walksOn_15, e28]
    by_cases z : lhr d < a
    · rw [if_pos ((nI_ltI (by omega) (by omega)).mpr z), decide_eq_false (show ¬ a ≤ lhr d by omega), Bool.false_and, if_neg (by decide)]
    · rw [if_neg (fun u => z ((nI_ltI (by omega) (by omega)).mp u)), q1, bs_, decide_eq_true (show a ≤ lhr d by omega), Bool.true_and]
      cases q with
      | false => rw [if_pos (show bI false = 0 from rfl), if_neg (by decide)]
      | true => rw [if_neg (show ¬ bI true = 0 by decide), if_pos rfl]
  refine ⟨decide (now_ s c on ≤ lhr d) && q, ?_, by rw [Bool.and_eq_true, decide_eq_true_eq, q2]⟩
  rw [D_X11_walksOn, hs c hc, bs_]
  unfold now_
  cases s c with
  | false =>
    rw [if_pos (show bI false = 0 from rfl)]
    exact f15 0 (by omega)
  | true =>
    rw [if_neg (show ¬ bI true = 0 by decide), nI_1]
    exact f15 (on + 1) (by omega)
