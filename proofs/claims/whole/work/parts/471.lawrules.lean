/-! THE LAW: what stands while it runs, its own rows -/
abbrev k_law : cx_T := (x, code, maxLocals, ret, 0)
/-- a start of the law: its script, and nothing of ours yet -/
def Gd (g : g_T) (N : Nat) (xs : Nat → Int32) (s : State) (args : Array Value) : Prop := args = #[Value.ref (g.2.2.2 0)] ∧ s.heap.size = g.2.2.1 ∧ g.2.2.2 0 < g.2.2.1 ∧ va_X (g.2.2.2 0) N xs s s.heap
def E_law (g : g_T) (N : Nat) (xs : Nat → Int32) : E_T := fun below args s t => Gd g N xs s args → lw_Z below #[Value.ref (g.2.2.2 0)] s t
section
variable {l : Launch} {g : g_T} {Rm : Room} {N : Nat} {xs : Nat → Int32} {pc : Nat} {ls : List (Nat × Value)} {st : List Value} {n z : Nat} {w : w_T}
/-- the script is as it was -/
theorem Wp.know (k : (w.1.1 = w.1.1 → w.1.2.2 0 = N) → (w.1.2.1 0 = 13) → (∀ j, j < N → w.2.1 0 j = xs j) → Wp l g k_law Rm (E_law g N xs) pc ls st n z w) : Wp l g k_law Rm (E_law g N xs) pc ls st n z w := by
  intro p e s m args below meth c H locs rl C hR hS hL
  by_cases hG : Gd g N xs s args
  · obtain ⟨h1, h2, h3, scr, h4, h5, h6, h7, h8⟩ := hG
    obtain ⟨cell, c1, c2, c3, c4, c5, c6⟩ := hR.2.2.2.2.1 0 (by omega)
    rw [hS.2.1 _ (by omega) (by omega), h4] at c1
    cases Option.some.inj c1
    have sz : w.1.2.2 0 = N := (c5 rfl).symm.trans h7
    refine k (fun _ => sz) (hR.2.2.1 0 (by omega)) (fun j hj => ?_) p e s m args below meth c H locs rl C hR hS hL
    have := h8 j hj
    rw [c6 j (by omega)] at this
    exact Value.int.inj (Option.some.inj this)
  · exact fun T _ _ => ⟨_, Steps.refl _, fun h => (hG h).elim⟩
/-- the law's end -/
theorem Wp.fin (d : decode code pc = .ok (.ireturn, 1)) (hn : n ≤ 600000) (hz : z ≤ 7302250) : Wp l g k_law room_1 (E_law g N xs) pc ls [.int 1] n z w := by
  intro p e s m args below meth c H locs rl C hR hS hL
  by_cases hG : Gd g N xs s args
  · obtain ⟨h1, h2, h3, h4⟩ := id hG
    subst h1
    intro T hT X
    obtain ⟨t, t1, t2⟩ := (va_forget (l := l) (Q := lw_Z below #[Value.ref (g.2.2.2 0)] s) (fun q hq => by rw [h2]; exact hS.2.2 q hq) (W.widen hn hz (lw_ret C.1 C.2.1 C.2.2.1 C.2.2.2.2.2.2.1 d))) T hT X
    exact ⟨t, t1, fun _ => t2⟩
  · exact fun T _ _ => ⟨_, Steps.refl _, fun h => (hG h).elim⟩
/-- an argument out of the script -/
theorem Wp.arg {sh : sh_T} {I : I_T} {L : L_T} {R : R_T} {E : E_T} {i k : Nat} {a : Int} {l0 : List (Nat × Value)} (hl0 : ls = (3, .int (nI i)) :: l0) (hl : ls[3]? = some (0, .ref 0)) (hN : sh.2.2 0 = N) (h13 : sh.2.1 0 = 13) (h0 : 6 ≤ sh.1) (hxs : ∀ j, j < N → I 0 j = xs j) (hN2 : N ≤ 3072) (hik : i + k < N) (ha : Int32.ofInt a = nI k) (d1 : decode code pc = .ok (.aload_n 0, 1)) (d2 : decode code (pc + 1) = .ok (.iload_n 3, 1)) (d3 : decode code (pc + 2) = .ok (.iconst a, 1)) (d4 : decode code (pc + 3) = .ok (.iadd, 1)) (d5 : decode code (pc + 4) = .ok (.iaload, 1)) (kk : Wp l g k_law Rm E (pc + 5) ls (.int (xs (i + k)) :: st) n z (sh, I, L, R)) : Wp l g k_law Rm E pc ls st n z (sh, I, L, R) := by
  refine Wp.aload_n 3 d1 rfl hl ?_
  refine Wp.iload_n 0 d2 rfl (by rw [hl0]; rfl) ?_
  refine Wp.iconst d3 ha ?_
  refine Wp.iadd d4 ?_
  refine Wp.topI (nI_add i k) ?_
  refine Wq.iald ⟨by omega, h13⟩ d5 (inb_nI (by omega) (by omega)) ?_
  refine Wp.topI (y := xs (i + k)) (by rw [cl_nI (by omega)]; exact hxs _ hik) ?_
  exact kk
/-- a truth out of a number -/
def trv (y : Int32) : Int32 := if y = 0 then 0 else 1
theorem Wp.tru {E : E_T} {y : Int32} (d1 : decode code pc = .ok (.ifCond .eq 7, 3)) (d2 : decode code (pc + 3) = .ok (.iconst 1, 1)) (d3 : decode code (pc + 4) = .ok (.goto 4, 3)) (d4 : decode code (pc + 7) = .ok (.iconst 0, 1)) (kk : Wp l g k_law Rm E (pc + 8) ls (.int (trv y) :: st) n z w) : Wp l g k_law Rm E pc ls (.int y :: st) n z w := by
  refine Wp.if_eq (tgt := pc + 7) d1 (by omega) (fun h => ?_) (fun h => ?_)
  · refine Wp.iconst (v := 0) d4 rfl ?_
    have e : trv y = 0 := if_pos h
    rw [e] at kk
    exact kk
  · refine Wp.iconst (v := 1) d2 rfl ?_
    refine Wp.goto (tgt := pc + 8) d3 (by omega) ?_
    have e : trv y = 1 := if_neg h
    rw [e] at kk
    exact kk
end
theorem lg_same (x : Int64) : lg_cmp x x = 0 := by
  unfold lg_cmp
  simp
