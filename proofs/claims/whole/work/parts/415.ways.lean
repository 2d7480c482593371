/-! sights: walks counted, forward and onward -/
theorem sm_ex {f g : Nat → Nat} : ∀ {n : Nat}, (∀ i, i < n → f i = g i) → sm f n = sm g n
  | 0, _ => rfl
  | n + 1, h => by
    show sm f n + f n = sm g n + g n
    rw [sm_ex (n := n) (fun i hi => h i (by omega)), h n (by omega)]
theorem sm_0 : ∀ n : Nat, sm (fun _ => 0) n = 0
  | 0 => rfl
  | n + 1 => by
    show sm (fun _ => 0) n + 0 = 0
    rw [sm_0 n]
theorem sm_addf (f g : Nat → Nat) : ∀ n : Nat, sm (fun i => f i + g i) n = sm f n + sm g n
  | 0 => rfl
  | n + 1 => by
    show sm (fun i => f i + g i) n + (f n + g n) = (sm f n + f n) + (sm g n + g n)
    rw [sm_addf f g n]
    omega
theorem sm_mulr (f : Nat → Nat) (a : Nat) : ∀ n : Nat, sm (fun i => f i * a) n = sm f n * a
  | 0 => (Nat.zero_mul a).symm
  | n + 1 => by
    show sm (fun i => f i * a) n + f n * a = (sm f n + f n) * a
    rw [sm_mulr f a n, Nat.add_mul]
theorem sm_mull (f : Nat → Nat) (a : Nat) : ∀ n : Nat, sm (fun i => a * f i) n = a * sm f n
  | 0 => (Nat.mul_zero a).symm
  | n + 1 => by
    show sm (fun i => a * f i) n + a * f n = a * (sm f n + f n)
    rw [sm_mull f a n, Nat.mul_add]
theorem sm_swap (f : Nat → Nat → Nat) (m : Nat) : ∀ n : Nat, sm (fun i => sm (fun j => f i j) m) n = sm (fun j => sm (fun i => f i j) n) m
  | 0 => (sm_0 m).symm
  | n + 1 => by
    show sm (fun i => sm (fun j => f i j) m) n + sm (fun j => f n j) m = sm (fun j => sm (fun i => f i j) n + f n j) m
    rw [sm_swap f m n, sm_addf]
theorem sm_eq0 {f : Nat → Nat} : ∀ {n : Nat}, sm f n = 0 ↔ ∀ i, i < n → f i = 0
  | 0 => ⟨fun _ i hi => by omega, fun _ => rfl⟩
  | n + 1 => by
    show sm f n + f n = 0 ↔ _
    constructor
    · intro h i hi
      by_cases z : i = n
      · rw [z]
        omega
      · exact sm_eq0.mp (show sm f n = 0 by omega) i (by omega)
    · intro h
      have := sm_eq0.mpr (fun i (hi : i < n) => h i (by omega))
      have := h n (by omega)
      omega
theorem sm_one {f : Nat → Nat} {j : Nat} : ∀ {n : Nat}, j < n → sm (fun i => if i = j then f i else 0) n = f j
  | 0, h => by omega
  | n + 1, h => by
    show sm (fun i => if i = j then f i else 0) n + (if n = j then f n else 0) = f j
    by_cases z : n = j
    · subst z
      rw [if_pos rfl, sm_eq0.mpr (fun i hi => if_neg (by omega))]
      omega
    · rw [if_neg z, sm_one (n := n) (by omega)]
      rfl
theorem sm_one' {f : Nat → Nat} {j n : Nat} (h : j < n) (z : ∀ i, i < n → i ≠ j → f i = 0) : sm f n = f j := by
  rw [← sm_one (f := f) h]
  exact sm_ex fun i hi => by
    by_cases e : i = j
    · rw [if_pos e]
    · rw [if_neg e, z i hi e]
theorem sm_app (f : Nat → Nat) (a : Nat) : ∀ b : Nat, sm f (a + b) = sm f a + sm (fun i => f (a + i)) b
  | 0 => rfl
  | b + 1 => by
    show sm f (a + b) + f (a + b) = sm f a + (sm (fun i => f (a + i)) b + f (a + b))
    rw [sm_app f a b]
    omega
theorem sm_14 (f : Nat → Nat) : ∀ n : Nat, sm (fun c => sm (fun o => f (14 * c + o)) 14) n = sm f (14 * n)
  | 0 => rfl
  | n + 1 => by
    show sm (fun c => sm (fun o => f (14 * c + o)) 14) n + sm (fun o => f (14 * n + o)) 14 = sm f (14 * n + 14)
    rw [sm_14 f n, sm_app f (14 * n) 14]
theorem sm_le1 {f : Nat → Nat} {j : Nat} : ∀ {n : Nat}, j < n → f j ≤ sm f n
  | 0, h => by omega
  | n + 1, h => by
    show f j ≤ sm f n + f n
    by_cases z : j = n
    · rw [z]
      omega
    · have := sm_le1 (f := f) (j := j) (n := n) (by omega)
      omega
theorem sm_le2 {f : Nat → Nat} {i j n : Nat} (hi : i < n) (hj : j < n) (e : i ≠ j) : f i + f j ≤ sm f n := by
  have h : sm (fun k => (if k = i then f k else 0) + (if k = j then f k else 0)) n ≤ sm f n := sm_le fun k hk => by
    by_cases z1 : k = i
    · rw [if_pos z1, if_neg (by omega)]
      omega
    · rw [if_neg z1]
      split <;> omega
  rw [sm_addf, sm_one hi, sm_one hj] at h
  exact h
/-- what goes over to j -/
def ind (o : Option Nat) (j v : Nat) : Nat := if o = some j then v else 0
/-- what stands at the end of a way, 0 without -/
def ata (o : Option Nat) (f : Nat → Nat) : Nat := match o with | none => 0 | some j => f j
theorem ind_sum {o : Option Nat} {N : Nat} (h : ∀ j, o = some j → j < N) (v : Nat) (f : Nat → Nat) : sm (fun j => ind o j v * f j) N = v * ata o f := by
  cases o with
  | none =>
    rw [sm_eq0.mpr (fun i _ => by rw [ind, if_neg (by exact fun u => by cases u), Nat.zero_mul])]
    rfl
  | some j =>
    rw [sm_one' (j := j) (h j rfl) (fun i _ hi => by rw [ind, if_neg (fun u => hi (Option.some.inj u).symm), Nat.zero_mul]), ind, if_pos rfl]
    rfl
/-- the walks of t minutes to each state -/
def wy (P : Nat → Nat → Nat → Option Nat) (N : Nat) (W : Nat → Nat) : Nat → Nat → Nat
  | 0, j => W j
  | t + 1, j => sm (fun k => sm (fun w => ind (P t k w) j (wy P N W t k)) 5) N
/-- the walks on from a state at minute t, m minutes long -/
def ow (P : Nat → Nat → Nat → Option Nat) : Nat → Nat → Nat → Nat
  | 0, _, _ => 1
  | m + 1, t, k => sm (fun w => ata (P t k w) (ow P m (t + 1))) 5
theorem wy_ow {P : Nat → Nat → Nat → Option Nat} {N : Nat} {W : Nat → Nat} (hP : ∀ t k w j, P t k w = some j → j < N) (m t : Nat) : sm (fun j => wy P N W (t + 1) j * ow P m (t + 1) j) N = sm (fun k => wy P N W t k * ow P (m + 1) t k) N := by
  have e1 : ∀ j, wy P N W (t + 1) j * ow P m (t + 1) j = sm (fun k => sm (fun w => ind (P t k w) j (wy P N W t k) * ow P m (t + 1) j) 5) N := fun j => by
    show sm (fun k => sm (fun w => ind (P t k w) j (wy P N W t k)) 5) N * ow P m (t + 1) j = _
    rw [← sm_mulr]
    exact sm_ex fun k _ => by rw [← sm_mulr]
  rw [sm_ex (fun j _ => e1 j), sm_swap]
  refine sm_ex fun k _ => ?_
  rw [sm_swap, sm_ex (fun w _ => ind_sum (hP t k w) _ _), sm_mull]
  rfl
theorem wy_all {P : Nat → Nat → Nat → Option Nat} {N : Nat} {W : Nat → Nat} (hP : ∀ t k w j, P t k w = some j → j < N) : ∀ m t, sm (fun j => wy P N W (t + m) j) N = sm (fun k => wy P N W t k * ow P m t k) N
  | 0, t => sm_ex fun k _ => (Nat.mul_one _).symm
  | m + 1, t => by
    rw [← wy_ow hP m t, ← wy_all hP m (t + 1), show t + (m + 1) = t + 1 + m by omega]
theorem wy_le {P : Nat → Nat → Nat → Option Nat} {N : Nat} {W : Nat → Nat} (hP : ∀ t k w j, P t k w = some j → j < N) (h0 : sm W N ≤ 1) : ∀ t, sm (wy P N W t) N ≤ 5 ^ t
  | 0 => h0
  | t + 1 => by
    have h := wy_all (W := W) hP 1 t
    have h1 : sm (fun k => wy P N W t k * ow P 1 t k) N ≤ sm (fun k => wy P N W t k * 5) N := sm_le fun k _ => Nat.mul_le_mul_left _ (by
      show sm (fun w => ata (P t k w) (ow P 0 (t + 1))) 5 ≤ sm (fun _ => 1) 5
      exact sm_le fun w _ => by
        cases P t k w with
        | none => exact Nat.zero_le _
        | some j => exact Nat.le_refl _)
    rw [sm_mulr] at h1
    have h2 := wy_le hP h0 t
    rw [Nat.pow_succ]
    have : sm (wy P N W t) N * 5 ≤ 5 ^ t * 5 := Nat.mul_le_mul_right _ h2
    show sm (fun j => wy P N W (t + 1) j) N ≤ _
    omega
theorem wy_pos {P : Nat → Nat → Nat → Option Nat} {N : Nat} {W : Nat → Nat} {t j : Nat} : wy P N W (t + 1) j ≠ 0 ↔ ∃ k w, k < N ∧ w < 5 ∧ P t k w = some j ∧ wy P N W t k ≠ 0 := by
  constructor
  · intro h
    refine Classical.byContradiction fun no => h (sm_eq0.mpr fun k hk => sm_eq0.mpr fun w hw => ?_)
    show ind _ _ _ = 0
    unfold ind
    by_cases z : P t k w = some j
    · rw [if_pos z]
      exact Classical.byContradiction fun u => no ⟨k, w, hk, hw, z, u⟩
    · rw [if_neg z]
  · rintro ⟨k, w, hk, hw, e, u⟩ z
    have := sm_eq0.mp (sm_eq0.mp z k hk) w hw
    rw [ind, if_pos e] at this
    exact u this
theorem ow_pos {P : Nat → Nat → Nat → Option Nat} {m t k : Nat} : ow P (m + 1) t k ≠ 0 ↔ ∃ w j, w < 5 ∧ P t k w = some j ∧ ow P m (t + 1) j ≠ 0 := by
  constructor
  · intro h
    refine Classical.byContradiction fun no => h (sm_eq0.mpr fun w hw => ?_)
    cases e : P t k w with
    | none => rfl
    | some j => exact Classical.byContradiction fun u => no ⟨w, j, hw, e, u⟩
  · rintro ⟨w, j, hw, e, u⟩ z
    have := sm_eq0.mp z w hw
    rw [e] at this
    exact u this
/-- one push -/
def st1 (op : Int64 → Int64 → Int64) (o : Option Nat) (v : Int64) (r : Nat → Int64) : Nat → Int64 := match o with
  | none => r
  | some j => fun i => if i = j then op (r j) v else r i
def stW (op : Int64 → Int64 → Int64) (P : Nat → Nat → Option Nat) (V : Nat → Int64) (k : Nat) : Nat → (Nat → Int64) → Nat → Int64
  | 0, r => r
  | w + 1, r => st1 op (P k w) (V k) (stW op P V k w r)
def stK (op : Int64 → Int64 → Int64) (P : Nat → Nat → Option Nat) (V : Nat → Int64) : Nat → Nat → Int64
  | 0 => fun _ => 0
  | k + 1 => stW op P V k 5 (stK op P V k)
theorem stW_0 {op : Int64 → Int64 → Int64} {P : Nat → Nat → Option Nat} {V : Nat → Int64} {k : Nat} (h0 : ∀ x, op x 0 = x) (hk : V k = 0) (r : Nat → Int64) : ∀ w, stW op P V k w r = r
  | 0 => rfl
  | w + 1 => by
    show st1 op (P k w) (V k) (stW op P V k w r) = r
    rw [stW_0 h0 hk r w, hk]
    cases P k w with
    | none => rfl
    | some j =>
      funext i
      show (if i = j then op (r j) 0 else r i) = r i
      by_cases z : i = j
      · rw [if_pos z, h0, z]
      · rw [if_neg z]
theorem stK_congr {op : Int64 → Int64 → Int64} {P P' : Nat → Nat → Option Nat} {V V' : Nat → Int64} (h0 : ∀ x, op x 0 = x) : ∀ {n : Nat}, (∀ k, k < n → V k = V' k) → (∀ k w, k < n → w < 5 → V k ≠ 0 → P k w = P' k w) → stK op P V n = stK op P' V' n
  | 0, _, _ => rfl
  | n + 1, hv, hp => by
    show stW op P V n 5 (stK op P V n) = stW op P' V' n 5 (stK op P' V' n)
    rw [stK_congr h0 (n := n) (fun k hk => hv k (by omega)) (fun k w hk => hp k w (by omega))]
    by_cases z : V n = 0
    · rw [stW_0 h0 z, stW_0 h0 (by rw [← hv n (by omega)]; exact z)]
    · have key : ∀ w, w ≤ 5 → stW op P V n w (stK op P' V' n) = stW op P' V' n w (stK op P' V' n) := by
        intro w
        induction w with
        | zero => exact fun _ => rfl
        | succ w ih =>
          intro hw
          show st1 op (P n w) (V n) _ = st1 op (P' n w) (V' n) _
          rw [ih (by omega), hp n w (by omega) (by omega) z, hv n (by omega)]
      exact key 5 (by omega)
theorem stW_add {P : Nat → Nat → Option Nat} {V : Nat → Int64} {W : Nat → Nat} {k : Nat} (hk : V k = lN (W k)) {r : Nat → Int64} {f : Nat → Nat} (hr : ∀ j, r j = lN (f j)) : ∀ w j, stW (fun x y => x + y) P V k w r j = lN (f j + sm (fun w => ind (P k w) j (W k)) w)
  | 0, j => hr j
  | w + 1, j => by
    show st1 (fun x y => x + y) (P k w) (V k) (stW (fun x y => x + y) P V k w r) j = lN (f j + (sm (fun w => ind (P k w) j (W k)) w + ind (P k w) j (W k)))
    have ih := stW_add (P := P) hk hr w
    unfold st1 ind
    cases e : P k w with
    | none =>
      show stW _ P V k w r j = _
      rw [ih, if_neg (fun u => by cases u)]
      rfl
    | some i =>
      show (if j = i then stW _ P V k w r i + V k else stW _ P V k w r j) = _
      by_cases z : j = i
      · subst z
        rw [if_pos rfl, if_pos rfl, ih, hk, lN_add_, Nat.add_assoc]
        rfl
      · rw [if_neg z, if_neg (fun u => z (Option.some.inj u).symm), ih]
        rfl
theorem stK_add {P : Nat → Nat → Option Nat} {V : Nat → Int64} {W : Nat → Nat} : ∀ {n : Nat}, (∀ k, k < n → V k = lN (W k)) → ∀ j, stK (fun x y => x + y) P V n j = lN (sm (fun k => sm (fun w => ind (P k w) j (W k)) 5) n)
  | 0, _, _ => rfl
  | n + 1, h, j => stW_add (P := P) (h n (by omega)) (fun j => stK_add (n := n) (fun k hk => h k (by omega)) j) 5 j
theorem stW_or {P : Nat → Nat → Option Nat} {V : Nat → Int64} {k : Nat} {r : Nat → Int64} {c : Nat} : ∀ w j, tb (stW (fun x y => x ||| y) P V k w r j) c = true ↔ tb (r j) c = true ∨ ∃ w', w' < w ∧ P k w' = some j ∧ tb (V k) c = true
  | 0, j => ⟨Or.inl, fun u => u.elim id fun ⟨_, a, _⟩ => by omega⟩
  | w + 1, j => by
    have ih := stW_or (P := P) (V := V) (k := k) (r := r) (c := c) w
    have st : tb (stW (fun x y => x ||| y) P V k (w + 1) r j) c = true ↔ tb (stW (fun x y => x ||| y) P V k w r j) c = true ∨ (P k w = some j ∧ tb (V k) c = true) := by
      show tb (st1 (fun x y => x ||| y) (P k w) (V k) (stW (fun x y => x ||| y) P V k w r) j) c = true ↔ _
      unfold st1
      cases e : P k w with
      | none => exact ⟨Or.inl, fun u => u.elim id fun v => by cases v.1⟩
      | some i =>
        show tb (if j = i then stW _ P V k w r i ||| V k else stW _ P V k w r j) c = true ↔ _
        by_cases z : j = i
        · subst z
          rw [if_pos rfl, tb_or, Bool.or_eq_true]
          exact ⟨fun u => u.imp id fun v => ⟨rfl, v⟩, fun u => u.imp id fun v => v.2⟩
        · rw [if_neg z]
          exact ⟨Or.inl, fun u => u.elim id fun v => (z (Option.some.inj v.1).symm).elim⟩
    rw [st, ih]
    constructor
    · rintro ((u | ⟨w', a, b, q⟩) | ⟨b, q⟩)
      · exact Or.inl u
      · exact Or.inr ⟨w', by omega, b, q⟩
      · exact Or.inr ⟨w, by omega, b, q⟩
    · rintro (u | ⟨w', a, b, q⟩)
      · exact Or.inl (Or.inl u)
      · by_cases z : w' = w
        · subst z
          exact Or.inr ⟨b, q⟩
        · exact Or.inl (Or.inr ⟨w', by omega, b, q⟩)
theorem stK_or {P : Nat → Nat → Option Nat} {V : Nat → Int64} {c : Nat} : ∀ n j, tb (stK (fun x y => x ||| y) P V n j) c = true ↔ ∃ k w, k < n ∧ w < 5 ∧ P k w = some j ∧ tb (V k) c = true
  | 0, j => by
    constructor
    · intro u
      have : tb (0 : Int64) c = true := u
      rw [tb_0] at this
      cases this
    · rintro ⟨_, _, a, _⟩
      omega
  | n + 1, j => by
    show tb (stW (fun x y => x ||| y) P V n 5 (stK (fun x y => x ||| y) P V n) j) c = true ↔ _
    rw [stW_or, stK_or n j]
    constructor
    · rintro (⟨k, w, a, b⟩ | ⟨w, a, b⟩)
      · exact ⟨k, w, by omega, b⟩
      · exact ⟨n, w, by omega, a, b⟩
    · rintro ⟨k, w, a, b⟩
      by_cases z : k = n
      · subst z
        exact Or.inr ⟨w, b⟩
      · exact Or.inl ⟨k, w, by omega, b⟩
