/-! THE LAW'S START: its classes, its world -/
theorem st_cls {args : Array Value} {s : State} (hts : ∀ w ∈ lw_tbl, w.before args s = true) : ∃ D : va_G, ∀ (k : Nat) (q : vw_C), vwCl[k]? = some q → u_Kn s q.1 q.2.1 q.2.2 (D.1 k) (D.2 k) := by
  have h0 : ∀ k : Nat, ∃ q : ClassId × (Nat → Nat), ∀ r : vw_C, vwCl[k]? = some r → u_Kn s r.1 r.2.1 r.2.2 q.1 q.2 := by
    intro k
    have gi : ∀ {C : String} {T : u_T} {N : Nat}, (∀ w ∈ u_ws C T N, w ∈ gt) → Cond.instantiable C N ∈ lw_tbl → ∃ q : ClassId × (Nat → Nat), u_Kn s C T N q.1 q.2 := by
      intro C T N h1 h2
      obtain ⟨c, i, h⟩ := u_known (C := C) (T := T) (N := N) hts (fun w hw => gt_in (h1 w hw)) (hts _ h2)
      exact ⟨(c, i), h⟩
    match k with
    | 0 => obtain ⟨q, h⟩ := gi igX0 (by decide +kernel); exact ⟨q, fun r hr => by cases hr; exact h⟩
    | 1 => obtain ⟨q, h⟩ := gi igX1 (by decide +kernel); exact ⟨q, fun r hr => by cases hr; exact h⟩
    | 2 => obtain ⟨q, h⟩ := gi igX2 (by decide +kernel); exact ⟨q, fun r hr => by cases hr; exact h⟩
    | 3 => obtain ⟨q, h⟩ := gi igX3 (by decide +kernel); exact ⟨q, fun r hr => by cases hr; exact h⟩
    | 4 => obtain ⟨q, h⟩ := gi igX4 (by decide +kernel); exact ⟨q, fun r hr => by cases hr; exact h⟩
    | 5 => obtain ⟨q, h⟩ := gi igX5 (by decide +kernel); exact ⟨q, fun r hr => by cases hr; exact h⟩
    | 6 => obtain ⟨q, h⟩ := gi igX6 (by decide +kernel); exact ⟨q, fun r hr => by cases hr; exact h⟩
    | 7 => obtain ⟨q, h⟩ := gi igX7 (by decide +kernel); exact ⟨q, fun r hr => by cases hr; exact h⟩
    | 8 => obtain ⟨q, h⟩ := gi igX8 (by decide +kernel); exact ⟨q, fun r hr => by cases hr; exact h⟩
    | 9 => obtain ⟨q, h⟩ := gi igX9 (by decide +kernel); exact ⟨q, fun r hr => by cases hr; exact h⟩
    | 10 => obtain ⟨q, h⟩ := gi igX10 (by decide +kernel); exact ⟨q, fun r hr => by cases hr; exact h⟩
    | 11 => obtain ⟨q, h⟩ := gi igX11 (by decide +kernel); exact ⟨q, fun r hr => by cases hr; exact h⟩
    | k + 12 => exact ⟨(0, fun _ => 0), fun r hr => nomatch hr⟩
  obtain ⟨ad, had⟩ := Classical.axiomOfChoice h0
  exact ⟨(fun k => (ad k).1, fun k => (ad k).2), fun k q hq => had k q hq⟩
theorem st_tys {args : Array Value} {s : State} (hts : ∀ w ∈ lw_tbl, w.before args s = true) : ∃ dA : Nat → ClassId, ∀ (D : va_G) (b : Nat) (X : Nat → Nat) (k : Nat) (q : ClassId × FieldType), (tysL (D, dA, b, X))[k]? = some q → ArrOfT s q.1 q.2 ∧ va_RA s q.1 q.2 := by
  obtain ⟨c12, a12, b12⟩ := st_arr (ty := .byte) (hts _ (by decide +kernel))
  obtain ⟨c13, a13, b13⟩ := st_arr (ty := .int) (hts _ (by decide +kernel))
  obtain ⟨c14, a14, b14⟩ := st_arr (ty := .long) (hts _ (by decide +kernel))
  obtain ⟨c15, a15, b15⟩ := st_arr (ty := .boolean) (hts _ (by decide +kernel))
  obtain ⟨c16, a16, b16⟩ := st_over (C := "FerryLand$Land") (hts _ (by decide +kernel))
  obtain ⟨c17, a17, b17⟩ := st_over (C := "FerryLand$Script") (hts _ (by decide +kernel))
  obtain ⟨c18, a18, b18⟩ := st_over (C := "FerryLand$Told") (hts _ (by decide +kernel))
  refine ⟨fun k => if k = 12 then c12 else if k = 13 then c13 else if k = 14 then c14 else if k = 15 then c15 else if k = 16 then c16 else if k = 17 then c17 else c18, fun D b X k q hq => ?_⟩
  match k, hq with
  | 0, hq => cases hq; exact ⟨a12, b12⟩
  | 1, hq => cases hq; exact ⟨a13, b13⟩
  | 2, hq => cases hq; exact ⟨a14, b14⟩
  | 3, hq => cases hq; exact ⟨a15, b15⟩
  | 4, hq => cases hq; exact ⟨a16, b16⟩
  | 5, hq => cases hq; exact ⟨a17, b17⟩
  | 6, hq => cases hq; exact ⟨a18, b18⟩
  | k + 7, hq => exact nomatch hq
/-- the world at the start -/
theorem st_world {p : Program} {s : State} {m : MethodId} {meth : Method} {c : Code} {b N : Nat} {xs : Nat → Int32} (C0 : lw_At p s m meth c b N xs) : ∃ g : g_T, g.2.2.1 = s.heap.size ∧ g.2.2.2 0 = b ∧ CK g s s.heap ∧ Rep g (w0_ N xs) s.heap := by
  obtain ⟨hx, hb, hr, hml, hown, hts, hX, hbl, hlocks, hgv⟩ := C0
  have hs := flat_of_before _ hgv
  obtain ⟨D, hD⟩ := st_cls hts
  obtain ⟨dA, hA⟩ := st_tys hts
  obtain ⟨t1, t2, t3, t4, ⟨l1, z1, f1⟩, ⟨l2, z2, f2⟩, ⟨l3, z3, f3⟩, ⟨l4, z4, f4⟩⟩ := st_four hts hgv
  obtain ⟨t5, v5, l5, z5, f5⟩ := st_text hts hgv
  have nA : ∀ a : Nat, a < s.heap.size → ¬ (fun q : Nat => s.heap.size ≤ q) a := fun a h => Nat.not_le.mpr h
  have zC : va_Z "java/lang/String" "COMPACT_STRINGS" "Z" (.int 1) (fun q => s.heap.size ≤ q) s s.heap := va_Zof (hts _ (by decide +kernel)) (hts _ (by decide +kernel)) (va_eqi (hs _ (by decide +kernel))) nA
  have zP : va_Zq "jdk/internal/util/Preconditions" "SIOOBE_FORMATTER" "Ljava/util/function/BiFunction;" (fun q => s.heap.size ≤ q) s s.heap := va_Zqof (hts _ (by decide +kernel)) (hts _ (by decide +kernel)) (hs _ (by decide +kernel)) nA
  obtain ⟨scr, x1, x2, x3, x4, x5⟩ := hX
  refine ⟨(D, dA, s.heap.size, fun k => [b, t1, t2, t3, t4, t5, 0, v5].getD k 0), rfl, rfl, ⟨⟨hD, hA D _ _⟩, fun k hk => ?_, ⟨z1, z2, z3, z4, z5, zC, zP, fun k hk => ?_⟩, fun own i y h hm => va_Nw.of rfl (hts _ hm), f5, fun C hC => va_AO.of (hts _ hC)⟩, Nat.le_refl 6, rfl, fun k hk => if_pos hk, rfl, fun k hk => ?_, fun k q h => ?_, fun a j q h6 hN _ => ?_⟩
  · match k, hk with
    | 0, _ => exact hbl
    | 1, _ => exact l1
    | 2, _ => exact l2
    | 3, _ => exact l3
    | 4, _ => exact l4
    | 5, _ => exact l5
    | k + 6, hk => omega
  · match k, hk with
    | 0, _ => exact ⟨scr, x1, x2, Nat.not_le.mpr hbl⟩
    | 1, _ => obtain ⟨c, y1, y2, y3, y4, y5, y6, y7⟩ := f1; exact ⟨c, y1, y2, y7⟩
    | 2, _ => obtain ⟨c, y1, y2, y3, y4, y5, y6, y7⟩ := f2; exact ⟨c, y1, y2, y7⟩
    | 3, _ => obtain ⟨c, y1, y2, y3, y4, y5, y6, y7⟩ := f3; exact ⟨c, y1, y2, y7⟩
    | 4, _ => obtain ⟨c, y1, y2, y3, y4, y5, y6, y7⟩ := f4; exact ⟨c, y1, y2, y7⟩
    | k + 5, hk => omega
  · match k, hk with
    | 0, _ => exact ⟨scr, x1, x3, Nat.le_of_eq x4.symm, by rw [x4]; rfl, fun _ => x4, x5⟩
    | 1, _ => obtain ⟨c, y1, y2, y3, y4, y5, y6, y7⟩ := f1; exact ⟨c, y1, y3, y4, y5, fun h => by omega, y6⟩
    | 2, _ => obtain ⟨c, y1, y2, y3, y4, y5, y6, y7⟩ := f2; exact ⟨c, y1, y3, y4, y5, fun h => by omega, y6⟩
    | 3, _ => obtain ⟨c, y1, y2, y3, y4, y5, y6, y7⟩ := f3; exact ⟨c, y1, y3, y4, y5, fun h => by omega, y6⟩
    | 4, _ => obtain ⟨c, y1, y2, y3, y4, y5, y6, y7⟩ := f4; exact ⟨c, y1, y3, y4, y5, fun h => by omega, y6⟩
    | k + 5, hk => omega
  · have h1 := (wsI_some h).1
    have h2 : (w0_ N xs).1.1 = 6 := rfl
    omega
  · have h2 : (w0_ N xs).1.1 = 6 := rfl
    omega
