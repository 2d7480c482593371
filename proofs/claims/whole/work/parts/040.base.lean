/-! THE ABSTRACT MACHINE: objects by their numbers (0 to 5 are cells that were there before: the script, four static rows, a text; from 6 on in the order of their making); what they hold as functions of number and place. -/
abbrev g_T : Type := va_G × (Nat → ClassId) × Nat × (Nat → Nat)
abbrev I_T : Type := Nat → Nat → Int32
abbrev L_T : Type := Nat → Nat → Int64
abbrev R_T : Type := Nat → Nat → Option Nat
abbrev sh_T : Type := Nat × (Nat → Nat) × (Nat → Nat)
abbrev w_T : Type := sh_T × I_T × L_T × R_T
abbrev cx_T : Type := MethodName × ByteArray × Nat × Option FieldType × Nat
def adr (g : g_T) (k : Nat) : Nat := if k < 6 then g.2.2.2 k else g.2.2.1 + (k - 6)
def cv (g : g_T) : Value → Value
  | .ref k => .ref (adr g k)
  | v => v
def up2 {α : Type} (f : Nat → Nat → α) (a j : Nat) (v : α) : Nat → Nat → α := fun b i => if b = a then (if i = j then v else f b i) else f b i
def upR {α : Type} (f : Nat → Nat → α) (a : Nat) (h : Nat → α) : Nat → Nat → α := fun b i => if b = a then h i else f b i
theorem cv_cat (g : g_T) (v : Value) : (cv g v).category = v.category := by cases v <;> rfl
theorem cv_rf (g : g_T) (o : Option Nat) : cv g (va_rf o) = va_rf (o.map (adr g)) := by cases o <;> rfl
def vl_ (g : g_T) (M : I_T × L_T × R_T) (k t j : Nat) : Value := if t = 0 then .int (M.1 k j) else if t = 1 then .long (M.2.1 k j) else va_rf ((M.2.2 k j).map (adr g))
def ob_ (g : g_T) (M : I_T × L_T × R_T) (k : Nat) (ts : List Nat) : List Value := (List.range ts.length).map (fun j => vl_ g M k (ts.getD j 0) j)
def cont (g : g_T) (w : w_T) (k : Nat) : va_E :=
  if w.1.2.1 k < 12 then .inr (w.1.2.1 k, ob_ g w.2 k (fl_ (w.1.2.1 k)))
  else if w.1.2.1 k = 14 then .inl (g.2.1 14, w.1.2.2 k, .inr (.inl (w.2.2.1 k)))
  else if w.1.2.1 k < 16 then .inl (g.2.1 (w.1.2.1 k), w.1.2.2 k, .inl (w.2.1 k))
  else .inl (g.2.1 (w.1.2.1 k), w.1.2.2 k, .inr (.inr (.inr (.inr (fun i => (w.2.2.2 k i).map (adr g))))))
def tysL (g : g_T) : List (ClassId × FieldType) := [(g.2.1 12, .byte), (g.2.1 13, .int), (g.2.1 14, .long), (g.2.1 15, .boolean), (g.2.1 16, .object "FerryLand$Land"), (g.2.1 17, .object "FerryLand$Script"), (g.2.1 18, .object "FerryLand$Told")]
def wsI (g : g_T) (w : w_T) : va_W := (List.range (w.1.1 - 6)).map (fun k => (g.2.2.1 + k, cont g w (k + 6)))
/-- the five rows of ints that were there before: what they hold -/
def XE (g : g_T) (w : w_T) (H : Heap) : Prop := ∀ k, k < 5 → ∃ cell : Cell, H[g.2.2.2 k]? = some cell ∧ cell.vm ≠ .unknown ∧ w.1.2.2 k ≤ cell.slots.size ∧ cell.slots.size.toInt32 = Int32.ofNat (w.1.2.2 k) ∧ (k = 0 → cell.slots.size = w.1.2.2 k) ∧ ∀ j, j < w.1.2.2 k → cell.slots[j]? = some (.int (w.2.1 k j))
def Ty (sh : sh_T) (a c : Nat) : Prop := a < sh.1 ∧ sh.2.1 a = c
def Tw (sh : sh_T) (a c : Nat) : Prop := 6 ≤ a ∧ a < sh.1 ∧ sh.2.1 a = c
theorem Tw.ty {sh : sh_T} {a c : Nat} (h : Tw sh a c) : Ty sh a c := h.2
def WT (w : w_T) : Prop := ∀ a j b, 6 ≤ a → a < w.1.1 → w.2.2.2 a j = some b → Tw w.1 b (rt_ (w.1.2.1 a) j)
def Rep (g : g_T) (w : w_T) (H : Heap) : Prop := 6 ≤ w.1.1 ∧ H.size = g.2.2.1 + (w.1.1 - 6) ∧ (∀ k, k < 5 → w.1.2.1 k = 13) ∧ w.1.2.1 5 = 19 ∧ XE g w H ∧ va_P g.1 vwCl (wsI g w) H ∧ WT w
/-- the tables' words that ride -/
def gt : List Cond := lw_tbl.filter goodWord
theorem gt_in {w : Cond} (h : w ∈ gt) : w ∈ lw_tbl := (List.mem_filter.mp h).1
theorem gt_mem (i : Nat) {w : Cond} (h : lw_tbl[i]? = some w) (h2 : goodWord w = true) : w ∈ gt := List.mem_filter.mpr ⟨List.mem_of_getElem? h, h2⟩
theorem gt_good {w : Cond} (h : w ∈ gt) : (w.onTables && w.keeps) = true ∨ ∃ ty, w = .arrayClass ty := good_of_word (List.mem_filter.mp h).2
def cxws (cx : cx_T) : List Cond := Cond.code cx.1 cx.2.1 cx.2.2.1 cx.2.2.2.1 :: gt
/-- the five rows that were there before are rows of ints -/
def AK (g : g_T) (U : State) (H : Heap) : Prop := ∀ k, k < 5 → ∃ cell : Cell, H[g.2.2.2 k]? = some cell ∧ U.isArrayOf cell .int ∧ ¬ g.2.2.1 ≤ g.2.2.2 k
theorem AK.moved {g : g_T} {u U : State} {H : Heap} (hvm : u.vm.Alike U.vm) (h : AK g u H) : AK g U H := fun k hk => by
  obtain ⟨c, h1, h2, h3⟩ := h k hk
  exact ⟨c, h1, State.isArrayOf_alike hvm h2, h3⟩
theorem AK.kept {g : g_T} {U : State} {H H1 : Heap} (h : AK g U H) (hq : ∀ a : Nat, a < H.size → ¬ g.2.2.1 ≤ a → H1[a]? = H[a]?) : AK g U H1 := fun k hk => by
  obtain ⟨c, h1, h2, h3⟩ := h k hk
  exact ⟨c, by rw [hq _ (Array.getElem?_eq_some_iff.mp h1).1 h3]; exact h1, h2, h3⟩
/-- the statics and the text that Reader reads -/
def SK (g : g_T) (U : State) (H : Heap) : Prop :=
  va_Z "FerryLand$Reader" "FIRST" "[I" (.ref (g.2.2.2 1)) (fun q => g.2.2.1 ≤ q) U H ∧ va_Z "FerryLand$Reader" "NUMBERS" "[I" (.ref (g.2.2.2 2)) (fun q => g.2.2.1 ≤ q) U H ∧ va_Z "FerryLand$Reader" "LEAST" "[I" (.ref (g.2.2.2 3)) (fun q => g.2.2.1 ≤ q) U H ∧ va_Z "FerryLand$Reader" "MOST" "[I" (.ref (g.2.2.2 4)) (fun q => g.2.2.1 ≤ q) U H ∧ vk_S 1 [tx_bytes.length] [tx_bytes] (fun _ => g.2.2.2 5) (fun _ => g.2.2.2 7) (fun q => g.2.2.1 ≤ q) U H ∧ va_Z "java/lang/String" "COMPACT_STRINGS" "Z" (.int 1) (fun q => g.2.2.1 ≤ q) U H ∧ va_Zq "jdk/internal/util/Preconditions" "SIOOBE_FORMATTER" "Ljava/util/function/BiFunction;" (fun q => g.2.2.1 ≤ q) U H ∧ AK g U H
/-- links within the nest, and of the text: they ride by warmth -/
def NK (g : g_T) (U : State) : Prop := (∀ (own : String) (i : Nat) (y : MethodName) (h : String), Cond.methodLinkNest own i y h ∈ lw_tbl → va_Nw (.methodLinkNest own i y h) U) ∧ vk_R "FerryLand$Reader" tx_index tx_text (g.2.2.2 5) U ∧ ∀ C : String, Cond.arrayOver (.object C) ∈ lw_tbl → va_AO C U
def CK (g : g_T) (U : State) (H : Heap) : Prop := va_K g.1 vwCl (tysL g) U ∧ (∀ k, k < 6 → g.2.2.2 k < g.2.2.1) ∧ SK g U H ∧ NK g U
theorem SK.moved {g : g_T} {u U : State} {H : Heap} (hvm : u.vm.Alike U.vm) (h : SK g u H) : SK g U H := ⟨h.1.moved hvm, h.2.1.moved hvm, h.2.2.1.moved hvm, h.2.2.2.1.moved hvm, h.2.2.2.2.1.moved hvm, h.2.2.2.2.2.1.moved hvm, h.2.2.2.2.2.2.1.moved hvm, h.2.2.2.2.2.2.2.moved hvm⟩
theorem SK.kept {g : g_T} {U : State} {H H1 : Heap} (h : SK g U H) (hq : ∀ a : Nat, a < H.size → ¬ g.2.2.1 ≤ a → H1[a]? = H[a]?) : SK g U H1 := ⟨h.1.kept hq, h.2.1.kept hq, h.2.2.1.kept hq, h.2.2.2.1.kept hq, h.2.2.2.2.1.kept hq, h.2.2.2.2.2.1.kept hq, h.2.2.2.2.2.2.1.kept hq, h.2.2.2.2.2.2.2.kept hq⟩
theorem NK.warm {g : g_T} {s U : State} (hW : s.WarmedH U.vm) (h : NK g s) : NK g U := ⟨fun own i y h9 hm => (h.1 own i y h9 hm).warmM hW, h.2.1.warm hW, fun C hC => (h.2.2 C hC).moved hW.alike⟩
theorem NK.same {g : g_T} {u U : State} (hv : U.vm = u.vm) (h : NK g u) : NK g U := ⟨fun own i y h9 hm => (h.1 own i y h9 hm).same rfl hv.symm, h.2.1.same hv, fun C hC => (h.2.2 C hC).moved (by rw [hv]; exact Vm.Alike.refl _)⟩
theorem CK.warm {g : g_T} {s U : State} {H : Heap} (hW : s.WarmedH U.vm) (h : CK g s H) : CK g U H := ⟨va_K.moved hW.alike h.1, h.2.1, h.2.2.1.moved hW.alike, h.2.2.2.warm hW⟩
theorem CK.same {g : g_T} {u U : State} {H : Heap} (hv : U.vm = u.vm) (h : CK g u H) : CK g U H := by
  have hA : u.vm.Alike U.vm := by rw [hv]; exact Vm.Alike.refl _
  exact ⟨va_K.moved hA h.1, h.2.1, h.2.2.1.moved hA, h.2.2.2.same hv⟩
theorem CK.kept {g : g_T} {U : State} {H H1 : Heap} (h : CK g U H) (hq : ∀ a : Nat, a < H.size → ¬ g.2.2.1 ≤ a → H1[a]? = H[a]?) : CK g U H1 := ⟨h.1, h.2.1, h.2.2.1.kept hq, h.2.2.2⟩
def Sp (l : Launch) (g : g_T) (cx : cx_T) (fr lo mc ms : Nat) (A : List Value) (w : w_T) (v : Option Value) (w' : w_T) : Prop :=
  Met l cx.1 (cxws cx) ({ frames := fr, cells := mc, slots := ms, locals := lo } : Room)
    (fun x U => x = (A.map (cv g)).toArray ∧ Rep g w U.heap ∧ CK g U U.heap ∧ g.2.2.1 ≤ U.heap.size)
    (fun _ st o t => o = .returned (v.map (cv g)) ∧ Rep g w' t.heap ∧ (∀ b, v = some (.ref b) → Tw w'.1 b cx.2.2.2.2) ∧ va_F (fun q => g.2.2.1 ≤ q) st t) mc ms (fun q => g.2.2.1 ≤ q)
/-- what stands fixed while a method runs -/
def Cxt (g : g_T) (cx : cx_T) (p : Program) (s : State) (m : MethodId) (args : Array Value) (meth : Method) (c : Code) : Prop :=
  p.tables.exec = Jvm.exec ∧ c.code = cx.2.1 ∧ meth.sig.returnType = cx.2.2.2.1 ∧ c.maxLocals = cx.2.2.1 ∧ s.vm.findClass cx.1.cls = some m.cls ∧ (∀ w ∈ gt, w.before args s = true) ∧ meth.locks = false ∧ CK g s s.heap ∧ g.2.2.1 ≤ s.heap.size ∧ (cx.1.name = "<init>" → meth.name = "<init>")
abbrev E_T : Type := List Frame → Array Value → State → State → Prop
def lcv (g : g_T) (ls : List (Nat × Value)) : List (Nat × Value) := ls.map (fun q => (q.1, cv g q.2))
def Wp (l : Launch) (g : g_T) (cx : cx_T) (Rm : Room) (E : E_T) (pc : Nat) (ls : List (Nat × Value)) (stk : List Value) (n z : Nat) (w : w_T) : Prop :=
  ∀ (p : Program) (e : Env) (s : State) (m : MethodId) (args : Array Value) (below : List Frame) (meth : Method) (c : Code) (H : Heap) (locs : List Loc) (rl : Array Slot),
    Cxt g cx p s m args meth c → Rep g w H → va_S (fun q => g.2.2.1 ≤ q) s.heap H locs → lv_has rl cx.2.2.1 (lcv g ls) →
    W p l e Rm s m args below meth c H locs n z (E below args s) (F0 m pc rl (stk.map (cv g)))
/-- a method's own end: it answers v, and the world is w' -/
def ME (g : g_T) (cx : cx_T) (mc ms : Nat) (v : Option Value) (w' : w_T) : E_T := fun below args s =>
  MQ below (fun _ st o t => o = .returned (v.map (cv g)) ∧ Rep g w' t.heap ∧ (∀ b, v = some (.ref b) → Tw w'.1 b cx.2.2.2.2) ∧ va_F (fun q => g.2.2.1 ≤ q) st t) args s mc ms (fun q => g.2.2.1 ≤ q)
theorem lv_args_cv (g : g_T) : ∀ (i : Nat) (A : List Value), lv_args i (A.map (cv g)) = lcv g (lv_args i A)
  | _, [] => rfl
  | i, v :: vs => by
    show (i, cv g v) :: lv_args (if (cv g v).category = 2 then i + 2 else i + 1) (vs.map (cv g)) = (i, cv g v) :: lcv g (lv_args (if v.category = 2 then i + 2 else i + 1) vs)
    rw [cv_cat, lv_args_cv g _ vs]
theorem lg_sl_cv (g : g_T) : ∀ (A : List Value), (lg_sl (A.map (cv g))).length = (lg_sl A).length
  | [] => rfl
  | v :: vs => by
    have h := lg_sl_cv g vs
    simp only [lg_sl] at h ⊢
    simp only [List.map_cons, List.flatMap_cons, List.length_append, cv_cat, h]
    split <;> rfl
/-- a contract out of a walk -/
theorem Sp.of {l : Launch} {g : g_T} {cx : cx_T} {fr lo mc ms : Nat} {A : List Value} {ls : List (Nat × Value)} {w w' : w_T} {v : Option Value} (hy : plainName cx.1.cls = true) (hA : (lg_sl A).length ≤ cx.2.2.1) (hl : lv_args 0 A = ls)
    (body : Wp l g cx { frames := fr, cells := mc, slots := ms, locals := lo } (ME g cx mc ms v w') 0 ls [] 0 0 w) : Sp l g cx fr lo mc ms A w v w' := by
  refine Met.ofW (cc := cx.2.1) (maxL := cx.2.2.1) (ret := cx.2.2.2.1) hy rfl ?_
  intro p e s m args below meth c s₁ B hml hv
  obtain ⟨rfl, hR, hC, hn⟩ := hv
  have hts := atoms_spec (ws := cxws cx) B.pre
  have hl2 := lv_entry (A.map (cv g)) (n := cx.2.2.1) (by rw [lg_sl_cv]; exact hA)
  rw [lg_entry_eq]
  rw [lv_args_cv, hl] at hl2
  exact body p e s m _ below meth c s.heap [] _ ⟨B.exec, B.bytes, B.returns, hml, findClass_of_methodNamed B.named, fun w hw => hts w (List.mem_cons_of_mem _ hw), B.notSynchronized, hC, hn, fun h => ((name_of_methodNamed B.named B.method).1).trans h⟩ hR va_S.rf hl2
