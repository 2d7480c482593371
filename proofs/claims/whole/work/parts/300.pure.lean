/-! THE PURE SIDE: loops that count, numbers, the relation of class and model -/
theorem itC_count {σ ρ : Type} {f : σ → Option (σ ⊕ ρ)} (st : Nat → σ) {n : Nat} {r : ρ} (hs : ∀ i, i < n → f (st i) = some (.inl (st (i + 1)))) (he : f (st n) = some (.inr r)) : itC f (st 0) = some r := by
  have key : ∀ i, i ≤ n → itC f (st (n - i)) = some r := by
    intro i
    induction i with
    | zero => intro _; exact itC_inr he
    | succ i ih =>
      intro h
      have h1 := hs (n - (i + 1)) (by omega)
      rw [show n - (i + 1) + 1 = n - i by omega] at h1
      rw [itC_inl h1]
      exact ih (by omega)
  have h := key n (Nat.le_refl _)
  rwa [Nat.sub_self] at h
theorem bs_ {α β : Type} (a : α) (f : α → Option β) : (some a).bind f = f a := rfl
theorem inb_nI {j n : Nat} (h : j < n) (hn : j < 2 ^ 31) : inb (nI j) n = true := by
  unfold inb
  rw [nI_toInt hn]
  simp
  exact h
theorem inb_0 {n : Nat} (h : 0 < n) : inb 0 n = true := inb_nI (j := 0) h (by decide)
theorem cl_nI {j : Nat} (h : j < 2 ^ 31) : (nI j).toNatClampNeg = j := nI_clamp h
theorem cl_0 : (0 : Int32).toNatClampNeg = 0 := rfl
theorem up2_s {α : Type} (f : Nat → Nat → α) (a j : Nat) (v : α) : up2 f a j v a j = v := up2_same f a j v
theorem up2_a {α : Type} {f : Nat → Nat → α} {a j : Nat} {v : α} {b i : Nat} (h : b ≠ a) : up2 f a j v b i = f b i := if_neg h
theorem up2_j {α : Type} {f : Nat → Nat → α} {a j : Nat} {v : α} {b i : Nat} (h : i ≠ j) : up2 f a j v b i = f b i := by
  unfold up2
  by_cases hb : b = a
  · rw [if_pos hb, if_neg h]
  · rw [if_neg hb]
theorem upR_s {α : Type} (f : Nat → Nat → α) (a : Nat) (h : Nat → α) (i : Nat) : upR f a h a i = h i := if_pos rfl
theorem upR_a {α : Type} {f : Nat → Nat → α} {a : Nat} {h : Nat → α} {b i : Nat} (hb : b ≠ a) : upR f a h b i = f b i := if_neg hb
/-- b of a truth -/
def bI (b : Bool) : Int32 := if b = true then 1 else 0
theorem bI_isb (b : Bool) : isb (bI b) = true := by cases b <;> rfl
theorem nI_neg1 {j : Nat} (h : j < 2 ^ 31) : nI j ≠ -1 := by
  intro q
  have h1 := congrArg Int32.toInt q
  rw [nI_toInt h] at h1
  have h2 : (-1 : Int32).toInt = -1 := by decide
  omega
/-- what lasts from call to call -/
def pers (a : Nat) : Prop := (1 ≤ a ∧ a ≤ 4) ∨ (7 ≤ a ∧ a ≤ 33) ∨ (69 ≤ a ∧ a ≤ 77) ∨ 101 ≤ a
