/-! texts: the words of lines, the class's side -/
def wl : List (List Nat) := [[115, 105, 122, 101], [114, 111, 119], [108, 101, 118, 101, 108], [104, 111, 117, 114], [97, 102, 108, 111, 97, 116], [119, 111, 114, 107], [109, 97, 110], [99, 104, 105, 108, 100], [115, 108, 101, 101, 112, 101, 114], [103, 111], [119, 111, 114, 107], [119, 97, 105, 116], [109, 111, 111, 114], [108, 101, 118, 101, 108], [102, 114, 111, 109], [108, 101, 103], [102, 114, 111, 109], [115, 101, 101, 110], [110, 111, 116]]
def wn (w : Nat) : Nat := (wl.getD w []).length
def wc (w i : Nat) : Nat := (wl.getD w []).getD i 0
/-- where the words begin in the row of them -/
def ws_ (w : Nat) : Nat := [0, 5, 9, 15, 20, 27, 32, 36, 42, 50, 53, 58, 63, 68, 74, 79, 83, 88, 93, 97].getD w 0
def isW (T : Nat → Nat) (b m w : Nat) : Prop := m = wn w ∧ ∀ i, i < wn w → T (b + i) = wc w i
theorem wn_le : ∀ w, w < 19 → wn w ≤ 7 ∧ ws_ w + wn w + 1 = ws_ (w + 1) ∧ ws_ w + wn w < 97 := by decide
theorem wc_rng : ∀ w, w < 19 → ∀ i, i < wn w → 97 ≤ wc w i ∧ wc w i ≤ 122 := by decide
theorem wc_tx : ∀ w, w < 19 → ∀ i, i < wn w → tx_ch (nI (ws_ w + i)) = nI (wc w i) := by decide +kernel
theorem wb_tx : ∀ w, w < 19 → tx_ch (nI (ws_ w + wn w)) = 32 := by decide +kernel
section
variable {Z : Nat → Nat} {J : I_T} {L : L_T} {R : R_T} {n b : Nat} {T : Nat → Nat}
/-- a word's signs, one by one -/
theorem word_in (tp : TPc Z R J n T) {e : Nat} (he : e ≤ n) (h5 : J 35 5 = nI e) (hb : b ≤ n) (v : Int32) {w : Nat} (hw : w < 19) : ∀ k i, i + k = wn w → ∀ al : Bool, (al = true ↔ ∀ q, q < i → b + q < e ∧ T (b + q) = wc w q) → ∃ al' : Bool, (al' = true ↔ ∀ q, q < wn w → b + q < e ∧ T (b + q) = wc w q) ∧ itC (B_X5_wordNumber_14 Z J L R 35 7 v) (nI w, nI (b + i), bI al, nI (ws_ w + i)) = itC (B_X5_wordNumber_14 Z J L R 35 7 v) (nI w, nI (b + wn w), bI al', nI (ws_ w + wn w)) := by
  have n600 := tp.2.1
  obtain ⟨w7, w8, w9⟩ := wn_le w hw
  intro k
  induction k with
  | zero =>
    intro i hi al hal
    rw [Nat.add_zero] at hi
    subst hi
    exact ⟨al, hal, rfl⟩
  | succ k ih =>
    intro i hi al hal
    have wr := wc_rng w hw i (by omega)
    have st : ∀ c : Bool, (c = true ↔ al = true ∧ b + i < e ∧ T (b + i) = wc w i) → B_X5_wordNumber_14 Z J L R 35 7 v (nI w, nI (b + i), bI al, nI (ws_ w + i)) = some (.inl (nI w, nI (b + (i + 1)), bI c, nI (ws_ w + (i + 1)))) → ∃ al' : Bool, (al' = true ↔ ∀ q, q < wn w → b + q < e ∧ T (b + q) = wc w q) ∧ itC (B_X5_wordNumber_14 Z J L R 35 7 v) (nI w, nI (b + i), bI al, nI (ws_ w + i)) = itC (B_X5_wordNumber_14 Z J L R 35 7 v) (nI w, nI (b + wn w), bI al', nI (ws_ w + wn w)) := fun c hc hst => by
      obtain ⟨al', a1, a2⟩ := ih (i + 1) (by omega) c (by
        rw [hc, hal]
        constructor
        · intro ⟨z1, z2⟩ q hq
          by_cases y : q = i
          · rw [y]; exact z2
          · exact z1 q (by omega)
        · intro z
          exact ⟨fun q hq => z q (by omega), z i (by omega)⟩)
      exact ⟨al', a1, (itC_inl hst).trans a2⟩
    have ni : inb (nI (ws_ w + i)) 97 = true := inb_nI (by omega) (by omega)
    have n32 : ¬ nI (wc w i) = 32 := fun z => by
      have := (nl_eq (k := 32) (j := 32) rfl (by omega) (by omega)).mp z
      omega
    have lt : nI (ws_ w + i) < (97 : Int32) := (nl_lt (k := 97) (j := 97) rfl (by omega) (by omega)).mpr (by omega)
    have e1 : nI (b + i) + 1 = nI (b + (i + 1)) := nI_1 _
    have e2 : nI (ws_ w + i) + 1 = nI (ws_ w + (i + 1)) := nI_1 _
    cases al with
    | false =>
      refine st false ⟨fun z => (Bool.noConfusion z), fun z => z.1⟩ ?_
      unfold B_X5_wordNumber_14
      dsimp only
      rw [if_pos lt, if_pos ni, wc_tx w hw i (by omega), if_neg n32, if_pos (show bI false = 0 from rfl), e1, e2]
      rfl
    | true =>
      by_cases z : b + i < e
      · have Tb := (tp.2.2.2.2 (b + i) (by omega)).2
        by_cases y : T (b + i) = wc w i
        · refine st true ⟨fun _ => ⟨rfl, z, y⟩, fun _ => rfl⟩ ?_
          unfold B_X5_wordNumber_14
          dsimp only
          rw [if_pos lt, if_pos ni, wc_tx w hw i (by omega), if_neg n32, if_neg (show ¬ bI true = 0 by decide), h5, if_pos ((nI_ltI (by omega) (by omega)).mpr z), sign_ok tp (by omega), bs_, if_pos (show b + i < n by omega), if_pos (congrArg nI y), e1, e2]
          rfl
        · refine st false ⟨fun u => (Bool.noConfusion u), fun u => (y u.2.2).elim⟩ ?_
          unfold B_X5_wordNumber_14
          dsimp only
          rw [if_pos lt, if_pos ni, wc_tx w hw i (by omega), if_neg n32, if_neg (show ¬ bI true = 0 by decide), h5, if_pos ((nI_ltI (by omega) (by omega)).mpr z), sign_ok tp (by omega), bs_, if_pos (show b + i < n by omega), if_neg (fun u => y ((nI_eq (by omega) (by omega)).mp u)), e1, e2]
          rfl
      · refine st false ⟨fun u => (Bool.noConfusion u), fun u => (z u.2.1).elim⟩ ?_
        unfold B_X5_wordNumber_14
        dsimp only
        rw [if_pos lt, if_pos ni, wc_tx w hw i (by omega), if_neg n32, if_neg (show ¬ bI true = 0 by decide), h5, if_neg (fun u => z ((nI_ltI (by omega) (by omega)).mp u)), e1, e2]
        rfl
theorem wordNumber_ok (tp : TPc Z R J n T) (rt : RT Z J) {e : Nat} (he : e ≤ n) (hbe : b ≤ e) (h5 : J 35 5 = nI e) (h6 : J 35 6 = nI b) {s : Nat} (hs : s < 4) : ∃ r, D_X5_wordNumber Z J L R 35 7 (nI s) = some r ∧ ((∃ w, rtF.getD s 0 ≤ w ∧ w < rtF.getD (s + 1) 0 ∧ isW T b (e - b) w ∧ r = nI w) ∨ (r = -1 ∧ ∀ w, rtF.getD s 0 ≤ w → w < rtF.getD (s + 1) 0 → ¬ isW T b (e - b) w)) := by
  have n600 := tp.2.1
  obtain ⟨⟨z1, _, _, _⟩, i1, _, _, _⟩ := rt
  have f1 : D_X10_get Z J L R 1 (nI s) = some (nI (rtF.getD s 0)) := by rw [get_ok (by omega) (by omega), i1 s (by omega)]
  have f2 : D_X10_get Z J L R 1 (nI s + 1) = some (nI (rtF.getD (s + 1) 0)) := by rw [nI_1, get_ok (by omega) (by omega), i1 (s + 1) (by omega)]
  have fr : rtF.getD s 0 ≤ 19 ∧ rtF.getD (s + 1) 0 ≤ 19 := (show ∀ s, s < 4 → rtF.getD s 0 ≤ 19 ∧ rtF.getD (s + 1) 0 ≤ 19 by decide) s hs
  generalize rtF.getD s 0 = lo at f1 fr ⊢
  generalize rtF.getD (s + 1) 0 = hi at f2 fr ⊢
  have key : ∀ k w, w + k = 19 → (∀ w', lo ≤ w' → w' < hi → w' < w → ¬ isW T b (e - b) w') → ∃ r, itC (B_X5_wordNumber_14 Z J L R 35 7 (nI s)) (nI w, nI b, bI true, nI (ws_ w)) = some r ∧ ((∃ w, lo ≤ w ∧ w < hi ∧ isW T b (e - b) w ∧ r = nI w) ∨ (r = -1 ∧ ∀ w, lo ≤ w → w < hi → ¬ isW T b (e - b) w)) := by
    intro k
    induction k with
    | zero =>
      intro w hw no
      have : w = 19 := by omega
      subst this
      refine ⟨-1, itC_inr ?_, Or.inr ⟨rfl, fun w h1 h2 => no w h1 h2 (by omega)⟩⟩
      unfold B_X5_wordNumber_14
      dsimp only
      rw [if_neg (show ¬ nI (ws_ 19) < 97 by decide)]
    | succ k ih =>
      intro w hw no
      obtain ⟨w7, w8, w9⟩ := wn_le w (by omega)
      obtain ⟨al, a1, a2⟩ := word_in (L := L) tp he h5 (show b ≤ n by omega) (nI s) (show w < 19 by omega) (wn w) 0 (by omega) true ⟨fun _ q hq => by omega, fun _ => rfl⟩
      rw [Nat.add_zero, Nat.add_zero] at a2
      have isw : isW T b (e - b) w ↔ al = true ∧ b + wn w = e := by
        rw [a1]
        unfold isW
        constructor
        · intro ⟨y1, y2⟩
          exact ⟨fun q hq => ⟨by omega, y2 q hq⟩, by omega⟩
        · intro ⟨y1, y2⟩
          exact ⟨by omega, fun q hq => (y1 q hq).2⟩
      obtain ⟨wb, hwb⟩ : ∃ wb : Bool, (wb = true ↔ isW T b (e - b) w) := ⟨al && decide (b + wn w = e), by rw [isw, Bool.and_eq_true, decide_eq_true_eq]⟩
      have lt : nI (ws_ w + wn w) < (97 : Int32) := (nl_lt (k := 97) (j := 97) rfl (by omega) (by omega)).mpr (by omega)
      have ni : inb (nI (ws_ w + wn w)) 97 = true := inb_nI (by omega) (by omega)
      have e130 : D_X5_wordNumber_130 Z J L R 35 7 (nI s) (nI w) (nI (ws_ w + wn w)) = some (.inl (nI (w + 1), nI b, bI true, nI (ws_ (w + 1)))) := by
        rw [D_X5_wordNumber_130, h6, nI_1, nI_1, w8]
        rfl
      have go : (lo ≤ w → w < hi → ¬ isW T b (e - b) w) → B_X5_wordNumber_14 Z J L R 35 7 (nI s) (nI w, nI (b + wn w), bI al, nI (ws_ w + wn w)) = some (.inl (nI (w + 1), nI b, bI true, nI (ws_ (w + 1)))) → ∃ r, itC (B_X5_wordNumber_14 Z J L R 35 7 (nI s)) (nI w, nI b, bI true, nI (ws_ w)) = some r ∧ ((∃ w, lo ≤ w ∧ w < hi ∧ isW T b (e - b) w ∧ r = nI w) ∨ (r = -1 ∧ ∀ w, lo ≤ w → w < hi → ¬ isW T b (e - b) w)) := fun nw hst => by
        obtain ⟨r, r1, r2⟩ := ih (w + 1) (by omega) (fun w' h1 h2 h3 => by
          by_cases y : w' = w
          · subst y
            exact nw h1 h2
          · exact no w' h1 h2 (by omega))
        exact ⟨r, (a2.trans (itC_inl hst)).trans r1, r2⟩
      have e107 : ∀ t : Bool, D_X5_wordNumber_107 Z J L R 35 7 (nI s) (nI w) (nI (b + wn w)) (bI al) (nI (ws_ w + wn w)) (bI t) = if t = true ∧ wb = true then some (.inr (nI w)) else some (.inl (nI (w + 1), nI b, bI true, nI (ws_ (w + 1)))) := fun t => by
        rw [D_X5_wordNumber_107, h5, e130]
        cases al with
        | false => rw [if_pos (show bI false = 0 from rfl), if_neg (fun u => Bool.noConfusion (isw.mp (hwb.mp u.2)).1)]
        | true =>
          rw [if_neg (show ¬ bI true = 0 by decide)]
          by_cases y : b + wn w = e
          · rw [if_pos (congrArg nI y)]
            cases t with
            | false => rw [if_pos (show bI false = 0 from rfl), if_neg (fun u => Bool.noConfusion u.1)]
            | true => rw [if_neg (show ¬ bI true = 0 by decide), if_pos ⟨rfl, hwb.mpr (isw.mpr ⟨rfl, y⟩)⟩]
          · rw [if_neg (fun u => y ((nI_eq (by omega) (by omega)).mp u)), if_neg (fun u => y (isw.mp (hwb.mp u.2)).2)]
      have e0 := e107 false
      rw [if_neg (fun u => Bool.noConfusion u.1)] at e0
      have bd : B_X5_wordNumber_14 Z J L R 35 7 (nI s) (nI w, nI (b + wn w), bI al, nI (ws_ w + wn w)) = if lo ≤ w ∧ w < hi ∧ wb = true then some (.inr (nI w)) else some (.inl (nI (w + 1), nI b, bI true, nI (ws_ (w + 1)))) := by
        unfold B_X5_wordNumber_14
        dsimp only
        rw [if_pos lt, if_pos ni, wb_tx w (by omega), if_pos rfl, f1, bs_]
        by_cases y1 : w < lo
        · rw [if_pos ((nI_ltI (by omega) (by omega)).mpr y1), D_X5_wordNumber_106, if_neg (fun u => by omega)]
          exact e0
        · rw [if_neg (fun u => y1 ((nI_ltI (by omega) (by omega)).mp u)), f2, bs_]
          by_cases y2 : w < hi
          · rw [if_pos ((nI_ltI (by omega) (by omega)).mpr y2), show (1 : Int32) = bI true from rfl, e107 true]
            by_cases y3 : wb = true
            · rw [if_pos ⟨rfl, y3⟩, if_pos ⟨by omega, y2, y3⟩]
            · rw [if_neg (fun u => y3 u.2), if_neg (fun u => y3 u.2.2)]
          · rw [if_neg (fun u => y2 ((nI_ltI (by omega) (by omega)).mp u)), D_X5_wordNumber_106, if_neg (fun u => y2 u.2.1)]
            exact e0
      by_cases y : lo ≤ w ∧ w < hi ∧ wb = true
      · rw [if_pos y] at bd
        exact ⟨nI w, a2.trans (itC_inr bd), Or.inl ⟨w, y.1, y.2.1, hwb.mp y.2.2, rfl⟩⟩
      · rw [if_neg y] at bd
        exact go (fun h1 h2 h3 => y ⟨h1, h2, hwb.mpr h3⟩) bd
  have := key 19 0 (by omega) (fun w' _ _ h => by omega)
  rw [D_X5_wordNumber, D_X5_wordNumber_14, h6]
  exact this
end
