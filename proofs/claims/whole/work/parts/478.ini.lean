/-! the start's worlds -/
def w0_ (N : Nat) (xs : Nat → Int32) : w_T := ((6, fun k => if k < 5 then 13 else 19, fun k => if k = 0 then N else [0, 5, 19, 57, 57].getD k 0), fun a j => if a = 0 then xs j else nI (([[], rtF, rtN, rtL, rtM].getD a []).getD j 0), fun _ _ => 0, fun _ _ => none)
def inB_ : List (Nat × Nat) := [(7, 1), (7, 2), (9, 0), (9, 1), (9, 2), (9, 3), (70, 0), (71, 0), (73, 0), (73, 1), (73, 2), (73, 3), (101, 0), (101, 1), (101, 2)]
def noB_ : List (Nat × Nat) := [(11, 0), (11, 1), (34, 0), (34, 1), (34, 2)]
set_option maxRecDepth 1000000 in
theorem iniA (N : Nat) (xs : Nat → Int32) : ∃ r, D_X10_init (alo (w0_ N xs) 10 0) 6 = some r ∧ r.1.1 = 68 ∧ r.1.2.1 6 = 10 ∧ rlL.map (fun t => if t.1 < 68 then r.2.2.2 t.1 t.2.1 else none) = rlL.map (fun t => if t.1 < 68 then some t.2.2 else none) ∧ noB_.map (fun t => r.2.2.2 t.1 t.2) = noB_.map (fun _ => none) ∧ (r.2.2.2 51 1 = some 53 ∧ r.2.2.2 51 2 = some 54 ∧ r.2.2.2 59 1 = some 61 ∧ r.2.2.2 59 2 = some 62) := ⟨_, rfl, rfl, rfl, rfl, rfl, rfl, rfl, rfl, rfl⟩
set_option maxRecDepth 1000000 in
theorem iniA2 (N : Nat) (xs : Nat → Int32) : ∃ r, D_X10_init (alo (w0_ N xs) 10 0) 6 = some r ∧ zlL.map (fun t => if t.1 < 69 then r.1.2.2 t.1 else 0) = zlL.map (fun t => if t.1 < 69 then t.2 else 0) := ⟨_, rfl, rfl⟩
set_option maxRecDepth 1000000 in
theorem iniA3 (N : Nat) (xs : Nat → Int32) : ∃ r, D_X10_init (alo (w0_ N xs) 10 0) 6 = some r ∧ inB_.map (fun t => if t.1 < 69 then r.2.1 t.1 t.2 else 0) = inB_.map (fun _ => 0) ∧ r.2.1 7 3 = -1 ∧ (r.1.2.2 1 = 5 ∧ r.1.2.2 2 = 19 ∧ r.1.2.2 3 = 57 ∧ r.1.2.2 4 = 57) := ⟨_, rfl, rfl, rfl, rfl, rfl, rfl, rfl⟩
set_option maxRecDepth 1000000 in
theorem iniA4 (N : Nat) (xs : Nat → Int32) : ∃ r, D_X10_init (alo (w0_ N xs) 10 0) 6 = some r ∧ (∀ j, r.2.1 1 j = nI (rtF.getD j 0)) ∧ (∀ j, r.2.1 2 j = nI (rtN.getD j 0)) ∧ (∀ j, r.2.1 3 j = nI (rtL.getD j 0)) ∧ ∀ j, r.2.1 4 j = nI (rtM.getD j 0) := ⟨_, rfl, fun _ => rfl, fun _ => rfl, fun _ => rfl, fun _ => rfl⟩
set_option maxRecDepth 1000000 in
theorem iniB (S Z : Nat → Nat) (I : I_T) (L : L_T) (R : R_T) : ∃ r, D_X11_init (alo ((68, S, Z), I, L, R) 11 0) 68 = some r ∧ r.1.1 = 102 ∧ r.1.2.1 6 = S 6 ∧ r.1.2.1 68 = 11 ∧ rlL.map (fun t => r.2.2.2 t.1 t.2.1) = rlL.map (fun t => if t.1 < 68 then R t.1 t.2.1 else some t.2.2) ∧ noB_.map (fun t => r.2.2.2 t.1 t.2) = noB_.map (fun t => R t.1 t.2) ∧ (r.2.2.2 51 1 = R 51 1 ∧ r.2.2.2 51 2 = R 51 2 ∧ r.2.2.2 59 1 = R 59 1 ∧ r.2.2.2 59 2 = R 59 2) := ⟨_, rfl, rfl, rfl, rfl, rfl, rfl, rfl, rfl, rfl, rfl⟩
set_option maxRecDepth 1000000 in
theorem iniB2 (S Z : Nat → Nat) (I : I_T) (L : L_T) (R : R_T) : ∃ r, D_X11_init (alo ((68, S, Z), I, L, R) 11 0) 68 = some r ∧ zlL.map (fun t => r.1.2.2 t.1) = zlL.map (fun t => if t.1 < 69 then Z t.1 else t.2) ∧ (r.1.2.2 1 = Z 1 ∧ r.1.2.2 2 = Z 2 ∧ r.1.2.2 3 = Z 3 ∧ r.1.2.2 4 = Z 4) ∧ inB_.map (fun t => r.2.1 t.1 t.2) = inB_.map (fun t => if t.1 < 69 then I t.1 t.2 else 0) ∧ r.2.1 7 3 = I 7 3 ∧ r.2.1 72 0 = -1 := ⟨_, rfl, rfl, ⟨rfl, rfl, rfl, rfl⟩, rfl, rfl, rfl⟩
set_option maxRecDepth 1000000 in
theorem iniB3 (S Z : Nat → Nat) (I : I_T) (L : L_T) (R : R_T) : ∃ r, D_X11_init (alo ((68, S, Z), I, L, R) 11 0) 68 = some r ∧ r.2.1 1 = I 1 ∧ r.2.1 2 = I 2 ∧ r.2.1 3 = I 3 ∧ r.2.1 4 = I 4 := ⟨_, rfl, rfl, rfl, rfl, rfl⟩
