abbrev kt_J0_length_8abf5 : cx_T := (yJ0_length_8abf5, cJ0_length_8abf5, 1, (some .int), 0)
theorem dJ0_length_8abf5_0 : decode cJ0_length_8abf5 0 = .ok (.aload_n 0, 1) := by decide +kernel
theorem dJ0_length_8abf5_1 : decode cJ0_length_8abf5 1 = .ok (.getfield 9, 3) := by decide +kernel
theorem dJ0_length_8abf5_4 : decode cJ0_length_8abf5 4 = .ok (.arraylength, 1) := by decide +kernel
theorem dJ0_length_8abf5_5 : decode cJ0_length_8abf5 5 = .ok (.aload_n 0, 1) := by decide +kernel
theorem dJ0_length_8abf5_6 : decode cJ0_length_8abf5 6 = .ok (.invokevirtual 335, 3) := by decide +kernel
theorem dJ0_length_8abf5_9 : decode cJ0_length_8abf5 9 = .ok (.ishr, 1) := by decide +kernel
theorem dJ0_length_8abf5_10 : decode cJ0_length_8abf5 10 = .ok (.ireturn, 1) := by decide +kernel
abbrev kt_J0_charAt_5068e : cx_T := (yJ0_charAt_5068e, cJ0_charAt_5068e, 2, (some .char), 0)
theorem dJ0_charAt_5068e_0 : decode cJ0_charAt_5068e 0 = .ok (.aload_n 0, 1) := by decide +kernel
theorem dJ0_charAt_5068e_1 : decode cJ0_charAt_5068e 1 = .ok (.invokevirtual 492, 3) := by decide +kernel
theorem dJ0_charAt_5068e_4 : decode cJ0_charAt_5068e 4 = .ok (.ifCond .eq 12, 3) := by decide +kernel
theorem dJ0_charAt_5068e_7 : decode cJ0_charAt_5068e 7 = .ok (.aload_n 0, 1) := by decide +kernel
theorem dJ0_charAt_5068e_8 : decode cJ0_charAt_5068e 8 = .ok (.getfield 9, 3) := by decide +kernel
theorem dJ0_charAt_5068e_11 : decode cJ0_charAt_5068e 11 = .ok (.iload_n 1, 1) := by decide +kernel
theorem dJ0_charAt_5068e_12 : decode cJ0_charAt_5068e 12 = .ok (.invokestatic 495, 3) := by decide +kernel
theorem dJ0_charAt_5068e_15 : decode cJ0_charAt_5068e 15 = .ok (.ireturn, 1) := by decide +kernel
theorem dJ0_charAt_5068e_16 : decode cJ0_charAt_5068e 16 = .ok (.aload_n 0, 1) := by decide +kernel
theorem dJ0_charAt_5068e_17 : decode cJ0_charAt_5068e 17 = .ok (.getfield 9, 3) := by decide +kernel
theorem dJ0_charAt_5068e_20 : decode cJ0_charAt_5068e 20 = .ok (.iload_n 1, 1) := by decide +kernel
theorem dJ0_charAt_5068e_21 : decode cJ0_charAt_5068e 21 = .ok (.invokestatic 498, 3) := by decide +kernel
theorem dJ0_charAt_5068e_24 : decode cJ0_charAt_5068e 24 = .ok (.ireturn, 1) := by decide +kernel
abbrev kt_J0_coder_7d493 : cx_T := (yJ0_coder_7d493, cJ0_coder_7d493, 1, (some .byte), 0)
theorem dJ0_coder_7d493_0 : decode cJ0_coder_7d493 0 = .ok (.getstatic 38, 3) := by decide +kernel
theorem dJ0_coder_7d493_3 : decode cJ0_coder_7d493 3 = .ok (.ifCond .eq 10, 3) := by decide +kernel
theorem dJ0_coder_7d493_6 : decode cJ0_coder_7d493 6 = .ok (.aload_n 0, 1) := by decide +kernel
theorem dJ0_coder_7d493_7 : decode cJ0_coder_7d493 7 = .ok (.getfield 15, 3) := by decide +kernel
theorem dJ0_coder_7d493_10 : decode cJ0_coder_7d493 10 = .ok (.goto 4, 3) := by decide +kernel
theorem dJ0_coder_7d493_13 : decode cJ0_coder_7d493 13 = .ok (.iconst 1, 1) := by decide +kernel
theorem dJ0_coder_7d493_14 : decode cJ0_coder_7d493 14 = .ok (.ireturn, 1) := by decide +kernel
abbrev kt_J0_isLatin1_aae02 : cx_T := (yJ0_isLatin1_aae02, cJ0_isLatin1_aae02, 1, (some .boolean), 0)
theorem dJ0_isLatin1_aae02_0 : decode cJ0_isLatin1_aae02 0 = .ok (.getstatic 38, 3) := by decide +kernel
theorem dJ0_isLatin1_aae02_3 : decode cJ0_isLatin1_aae02 3 = .ok (.ifCond .eq 14, 3) := by decide +kernel
theorem dJ0_isLatin1_aae02_6 : decode cJ0_isLatin1_aae02 6 = .ok (.aload_n 0, 1) := by decide +kernel
theorem dJ0_isLatin1_aae02_7 : decode cJ0_isLatin1_aae02 7 = .ok (.getfield 15, 3) := by decide +kernel
theorem dJ0_isLatin1_aae02_10 : decode cJ0_isLatin1_aae02 10 = .ok (.ifCond .ne 7, 3) := by decide +kernel
theorem dJ0_isLatin1_aae02_13 : decode cJ0_isLatin1_aae02 13 = .ok (.iconst 1, 1) := by decide +kernel
theorem dJ0_isLatin1_aae02_14 : decode cJ0_isLatin1_aae02 14 = .ok (.goto 4, 3) := by decide +kernel
theorem dJ0_isLatin1_aae02_17 : decode cJ0_isLatin1_aae02 17 = .ok (.iconst 0, 1) := by decide +kernel
theorem dJ0_isLatin1_aae02_18 : decode cJ0_isLatin1_aae02 18 = .ok (.ireturn, 1) := by decide +kernel
abbrev kt_J0_checkIndex_df160 : cx_T := (yJ0_checkIndex_df160, cJ0_checkIndex_df160, 2, none, 0)
theorem dJ0_checkIndex_df160_0 : decode cJ0_checkIndex_df160 0 = .ok (.iload_n 0, 1) := by decide +kernel
theorem dJ0_checkIndex_df160_1 : decode cJ0_checkIndex_df160 1 = .ok (.iload_n 1, 1) := by decide +kernel
theorem dJ0_checkIndex_df160_2 : decode cJ0_checkIndex_df160 2 = .ok (.getstatic 1053, 3) := by decide +kernel
theorem dJ0_checkIndex_df160_5 : decode cJ0_checkIndex_df160 5 = .ok (.invokestatic 1059, 3) := by decide +kernel
theorem dJ0_checkIndex_df160_8 : decode cJ0_checkIndex_df160 8 = .ok (.pop, 1) := by decide +kernel
theorem dJ0_checkIndex_df160_9 : decode cJ0_checkIndex_df160 9 = .ok (.return_, 1) := by decide +kernel
abbrev kt_J1_charAt_3b067 : cx_T := (yJ1_charAt_3b067, cJ1_charAt_3b067, 2, (some .char), 0)
theorem dJ1_charAt_3b067_0 : decode cJ1_charAt_3b067 0 = .ok (.iload_n 1, 1) := by decide +kernel
theorem dJ1_charAt_3b067_1 : decode cJ1_charAt_3b067 1 = .ok (.aload_n 0, 1) := by decide +kernel
theorem dJ1_charAt_3b067_2 : decode cJ1_charAt_3b067 2 = .ok (.arraylength, 1) := by decide +kernel
theorem dJ1_charAt_3b067_3 : decode cJ1_charAt_3b067 3 = .ok (.invokestatic 9, 3) := by decide +kernel
theorem dJ1_charAt_3b067_6 : decode cJ1_charAt_3b067 6 = .ok (.aload_n 0, 1) := by decide +kernel
theorem dJ1_charAt_3b067_7 : decode cJ1_charAt_3b067 7 = .ok (.iload_n 1, 1) := by decide +kernel
theorem dJ1_charAt_3b067_8 : decode cJ1_charAt_3b067 8 = .ok (.baload, 1) := by decide +kernel
theorem dJ1_charAt_3b067_9 : decode cJ1_charAt_3b067 9 = .ok (.sipush 255, 3) := by decide +kernel
theorem dJ1_charAt_3b067_12 : decode cJ1_charAt_3b067 12 = .ok (.iand, 1) := by decide +kernel
theorem dJ1_charAt_3b067_13 : decode cJ1_charAt_3b067 13 = .ok (.i2c, 1) := by decide +kernel
theorem dJ1_charAt_3b067_14 : decode cJ1_charAt_3b067 14 = .ok (.ireturn, 1) := by decide +kernel
abbrev kt_J3_checkIndex_8e157 : cx_T := (yJ3_checkIndex_8e157, cJ3_checkIndex_8e157, 3, (some .int), 0)
theorem dJ3_checkIndex_8e157_0 : decode cJ3_checkIndex_8e157 0 = .ok (.iload_n 0, 1) := by decide +kernel
theorem dJ3_checkIndex_8e157_1 : decode cJ3_checkIndex_8e157 1 = .ok (.ifCond .lt 8, 3) := by decide +kernel
theorem dJ3_checkIndex_8e157_4 : decode cJ3_checkIndex_8e157 4 = .ok (.iload_n 0, 1) := by decide +kernel
theorem dJ3_checkIndex_8e157_5 : decode cJ3_checkIndex_8e157 5 = .ok (.iload_n 1, 1) := by decide +kernel
theorem dJ3_checkIndex_8e157_6 : decode cJ3_checkIndex_8e157 6 = .ok (.if_icmp .lt 10, 3) := by decide +kernel
theorem dJ3_checkIndex_8e157_9 : decode cJ3_checkIndex_8e157 9 = .ok (.aload_n 2, 1) := by decide +kernel
theorem dJ3_checkIndex_8e157_10 : decode cJ3_checkIndex_8e157 10 = .ok (.iload_n 0, 1) := by decide +kernel
theorem dJ3_checkIndex_8e157_11 : decode cJ3_checkIndex_8e157 11 = .ok (.iload_n 1, 1) := by decide +kernel
theorem dJ3_checkIndex_8e157_16 : decode cJ3_checkIndex_8e157 16 = .ok (.iload_n 0, 1) := by decide +kernel
theorem dJ3_checkIndex_8e157_17 : decode cJ3_checkIndex_8e157 17 = .ok (.ireturn, 1) := by decide +kernel
theorem tc_J0_length_8abf5 : Cond.code yJ0_length_8abf5 cJ0_length_8abf5 1 (some .int) ∈ gt := gtm3 32 (by decide +kernel) rfl
theorem tc_J0_charAt_5068e : Cond.code yJ0_charAt_5068e cJ0_charAt_5068e 2 (some .char) ∈ gt := gtm3 42 (by decide +kernel) rfl
theorem tc_J0_coder_7d493 : Cond.code yJ0_coder_7d493 cJ0_coder_7d493 1 (some .byte) ∈ gt := gtm3 36 (by decide +kernel) rfl
theorem tc_J0_isLatin1_aae02 : Cond.code yJ0_isLatin1_aae02 cJ0_isLatin1_aae02 1 (some .boolean) ∈ gt := gtm3 46 (by decide +kernel) rfl
theorem tc_J0_checkIndex_df160 : Cond.code yJ0_checkIndex_df160 cJ0_checkIndex_df160 2 none ∈ gt := gtm3 52 (by decide +kernel) rfl
theorem tc_J1_charAt_3b067 : Cond.code yJ1_charAt_3b067 cJ1_charAt_3b067 2 (some .char) ∈ gt := gtm3 49 (by decide +kernel) rfl
theorem tc_J3_checkIndex_8e157 : Cond.code yJ3_checkIndex_8e157 cJ3_checkIndex_8e157 3 (some .int) ∈ gt := gtm3 57 (by decide +kernel) rfl
theorem ts_J0_checkIndex_df160 : Cond.static yJ0_checkIndex_df160 ∈ gt := gtm3 51 (by decide +kernel) rfl
theorem ts_J1_charAt_3b067 : Cond.static yJ1_charAt_3b067 ∈ gt := gtm3 48 (by decide +kernel) rfl
theorem ts_J3_checkIndex_8e157 : Cond.static yJ3_checkIndex_8e157 ∈ gt := gtm3 56 (by decide +kernel) rfl
theorem ti_J0_length_8abf5 : Cond.instanceMethod yJ0_length_8abf5 ∈ gt := gtm3 30 (by decide +kernel) rfl
theorem tl_J0_length_8abf5 : Cond.selects RJ0 yJ0_length_8abf5 yJ0_length_8abf5 ∈ gt := gtm3 31 (by decide +kernel) rfl
theorem ti_J0_charAt_5068e : Cond.instanceMethod yJ0_charAt_5068e ∈ gt := gtm3 40 (by decide +kernel) rfl
theorem tl_J0_charAt_5068e : Cond.selects RJ0 yJ0_charAt_5068e yJ0_charAt_5068e ∈ gt := gtm3 41 (by decide +kernel) rfl
theorem ti_J0_coder_7d493 : Cond.instanceMethod yJ0_coder_7d493 ∈ gt := gtm3 34 (by decide +kernel) rfl
theorem tl_J0_coder_7d493 : Cond.selects RJ0 yJ0_coder_7d493 yJ0_coder_7d493 ∈ gt := gtm3 35 (by decide +kernel) rfl
theorem ti_J0_isLatin1_aae02 : Cond.instanceMethod yJ0_isLatin1_aae02 ∈ gt := gtm3 44 (by decide +kernel) rfl
theorem tl_J0_isLatin1_aae02 : Cond.selects RJ0 yJ0_isLatin1_aae02 yJ0_isLatin1_aae02 ∈ gt := gtm3 45 (by decide +kernel) rfl
theorem tn_RJ0 : Cond.initialized RJ0 ∈ gt := gtm1 15 (by decide +kernel) rfl
theorem tn_RJ1 : Cond.initialized RJ1 ∈ gt := gtm1 16 (by decide +kernel) rfl
theorem tn_RJ3 : Cond.initialized RJ3 ∈ gt := gtm1 17 (by decide +kernel) rfl
theorem tm_coder : Cond.methodLink RJ0 335 yJ0_coder_7d493 ∈ gt := gtm3 33 (by decide +kernel) rfl
theorem tm_isL : Cond.methodLink RJ0 492 yJ0_isLatin1_aae02 ∈ gt := gtm3 43 (by decide +kernel) rfl
theorem tm_lc : Cond.methodLink RJ0 495 yJ1_charAt_3b067 ∈ gt := gtm3 47 (by decide +kernel) rfl
theorem tm_ci : Cond.methodLink RJ1 9 yJ0_checkIndex_df160 ∈ gt := gtm3 50 (by decide +kernel) rfl
theorem tm_pc : Cond.methodLink RJ0 1059 yJ3_checkIndex_8e157 ∈ gt := gtm3 55 (by decide +kernel) rfl
theorem tm_Rlength : Cond.methodLink RX5 197 yJ0_length_8abf5 ∈ gt := gtm3 29 (by decide +kernel) rfl
-- length 197
theorem tm_RcharAt : Cond.methodLink RX5 202 yJ0_charAt_5068e ∈ gt := gtm3 39 (by decide +kernel) rfl
-- charAt 202
theorem tf_value : Cond.fieldLink RJ0 9 "java/lang/String" "value" "[B" ∈ gt := gtm8 178 (by decide +kernel) rfl
theorem tf_coder : Cond.fieldLink RJ0 15 "java/lang/String" "coder" "B" ∈ gt := gtm8 179 (by decide +kernel) rfl
theorem tf_cs : Cond.fieldLink RJ0 38 "java/lang/String" "COMPACT_STRINGS" "Z" ∈ gt := gtm3 37 (by decide +kernel) rfl
theorem tf_sf : Cond.fieldLink RJ0 1053 "jdk/internal/util/Preconditions" "SIOOBE_FORMATTER" "Ljava/util/function/BiFunction;" ∈ gt := gtm3 53 (by decide +kernel) rfl
theorem tx_nar (b : Int32) : narrow .char (.int (((b &&& 255).toUInt32 % 65536).toInt32)) = .int (((b &&& 255).toUInt32 % 65536).toInt32) := by
  have h : ((b &&& 255).toUInt32 % 65536).toNat < 65536 := by
    rw [UInt32.toNat_mod]
    exact Nat.mod_lt _ (by decide)
  generalize (b &&& 255).toUInt32 % 65536 = u at h
  show Value.int (u.toInt32.toUInt32 % 65536).toInt32 = .int u.toInt32
  congr 2
  rw [UInt32.toUInt32_toInt32]
  exact UInt32.toNat_inj.mp (by rw [UInt32.toNat_mod]; exact Nat.mod_eq_of_lt h)
/-- a method of a text: any answer r, nothing changes -/
def Ms (l : Launch) (g : g_T) (cx : cx_T) (fr lo : Nat) (A : List Value) (r : Option Value) : Prop :=
  Met l cx.1 (cxws cx) ({ frames := fr, cells := 0, slots := 0, locals := lo } : Room) (fun x U => x = A.toArray ∧ CK g U U.heap ∧ g.2.2.1 ≤ U.heap.size) (fun _ st o t => o = .returned r ∧ t.heap = st.heap) 0 0 (fun _ => False)
abbrev Mz (r : Option Value) : E_T := fun below args s => MQ below (fun _ st o t => o = .returned r ∧ t.heap = st.heap) args s 0 0 (fun _ => False)
theorem Ms.of {l : Launch} {g : g_T} {cx : cx_T} {fr lo : Nat} {A : List Value} {ls : List (Nat × Value)} {r : Option Value} (hy : plainName cx.1.cls = true) (hA : (lg_sl A).length ≤ cx.2.2.1) (hl : lv_args 0 A = ls)
    (body : ∀ (p : Program) (e : Env) (s : State) (m : MethodId) (args : Array Value) (below : List Frame) (meth : Method) (c : Code) (rl : Array Slot), Cxt g cx p s m args meth c → lv_has rl cx.2.2.1 ls → W p l e { frames := fr, cells := 0, slots := 0, locals := lo } s m args below meth c s.heap [] 0 0 (Mz r below args s) (F0 m 0 rl [])) : Ms l g cx fr lo A r := by
  refine Met.ofW (cc := cx.2.1) (maxL := cx.2.2.1) (ret := cx.2.2.2.1) hy rfl ?_
  intro p e s m args below meth c s₁ B hml hv
  obtain ⟨rfl, hC, hn⟩ := hv
  have hts := atoms_spec (ws := cxws cx) B.pre
  have hl2 := lv_entry A (n := cx.2.2.1) hA
  rw [lg_entry_eq]
  rw [hl] at hl2
  exact body p e s m _ below meth c _ ⟨B.exec, B.bytes, B.returns, hml, findClass_of_methodNamed B.named, fun w hw => hts w (List.mem_cons_of_mem _ hw), B.notSynchronized, hC, hn, fun h => ((name_of_methodNamed B.named B.method).1).trans h⟩ hl2
theorem ms_blind {g : g_T} (X : Array Value) : FrameBlind (fun x U => x = X ∧ CK g U U.heap ∧ g.2.2.1 ≤ U.heap.size) := fun a U gq mk q => ⟨q.1, CK.same (u := U) (U := U.calling gq mk a) rfl q.2.1, q.2.2⟩
section MSS
variable {l : Launch} {g : g_T} {cx cy : cx_T} {Rm : Room} {p : Program} {e : Env} {s : State} {m : MethodId} {args : Array Value} {below : List Frame} {meth : Method} {c0 : Code} {rl : Array Slot} {Q : State → Prop} {pc n z idx fr lo : Nat} {A st rest : List Value} {r : Option Value} {H : Heap} {locs : List Loc} {a : Nat}
theorem ms_pre (C : Cxt g cx p s m args meth c0) (hS : va_S (fun q => g.2.2.1 ≤ q) s.heap H locs) : ∀ U : State, U.heap = H → s.WarmedH U.vm → CK g U U.heap ∧ g.2.2.1 ≤ U.heap.size := by
  intro U hU hW
  rw [hU]
  exact ⟨(C.2.2.2.2.2.2.2.1.warm hW).kept (fun a h1 h2 => hS.2.1 a h1 h2), Nat.le_trans C.2.2.2.2.2.2.2.2.1 hS.1⟩
theorem Ms.go (hr : va_Run p l e Rm s m args below meth c0 H locs n z 0 0 (F0 m pc rl st) rest (fun st0 o t => o = .returned r ∧ t.heap = st0.heap) (fun _ => False)) (k : W p l e Rm s m args below meth c0 H locs n z Q (F0 m (pc + 3) rl (r.toList ++ rest))) : W p l e Rm s m args below meth c0 H locs n z Q (F0 m pc rl st) := by
  intro T hT X
  obtain ⟨v', st₀, t, T', L, h0, X', hL', e1, -, ⟨hv, hh⟩, stp⟩ := hr T hT X
  cases hv
  have hLn : L = [] := by
    cases L with
    | nil => rfl
    | cons q qs => exact (hL' q List.mem_cons_self).elim
  rw [hLn, List.append_nil] at X'
  obtain ⟨t2, a1, b1⟩ := k T' (by rw [e1, hh, h0]) X'
  exact ⟨t2, stp t2 a1, b1⟩
theorem Ms.callS (hM : Ms l g cy fr lo A r) (C : Cxt g cx p s m args meth c0) (hS : va_S (fun q => g.2.2.1 ≤ q) s.heap H locs) (K1 : Cond.methodLink cx.1.cls idx cy.1 ∈ gt) (K2 : Cond.static cy.1 ∈ gt) (K3 : LKa cy A.length) (hsz : rl.size = cx.2.2.1) (d : decode cx.2.1 pc = .ok (.invokestatic idx, 3)) (hs : A.reverse ++ rest = st) (hw : (rest.map fun v => v.category).sum ≤ 8) (h1 : fr + 1 ≤ Rm.frames) (h2 : 8 + (cy.2.2.1 + 11) + lo ≤ Rm.locals) (h3 : n ≤ Rm.cells) (h4 : z ≤ Rm.slots)
    (k : W p l e Rm s m args below meth c0 H locs n z Q (F0 m (pc + 3) rl (r.toList ++ rest))) : W p l e Rm s m args below meth c0 H locs n z Q (F0 m pc rl st) := by
  subst hs
  obtain ⟨k3, k4, k5⟩ := K3
  have hts := C.2.2.2.2.2.1
  exact Ms.go (va_runS (As := A) (rest := rest) (Ts := gt) ⟨C.1, C.2.1, C.2.2.2.1, C.2.2.2.2.1, hts⟩ hM ⟨callB_of A.length hts (gt_ws k4) rfl rfl rfl (hts _ k3) (hts _ K1) k5 ⟨h1, h2⟩, hts _ K2⟩ ⟨ms_blind _, fun U hU hW => ⟨rfl, ms_pre C hS U hU hW⟩⟩ rfl rfl hsz rfl (lv_room hw) d ⟨h3, h4⟩) k
theorem Ms.callV (hM : Ms l g cy fr lo (.ref (g.2.2.2 5) :: A) r) (hcls : cy.1.cls = "java/lang/String") (C : Cxt g cx p s m args meth c0) (hS : va_S (fun q => g.2.2.1 ≤ q) s.heap H locs) (K1 : Cond.methodLink cx.1.cls idx cy.1 ∈ gt) (K2 : Cond.instanceMethod cy.1 ∈ gt) (K4 : Cond.selects cy.1.cls cy.1 cy.1 ∈ gt) (K3 : LKa cy A.length) (hsz : rl.size = cx.2.2.1) (d : decode cx.2.1 pc = .ok (.invokevirtual idx, 3)) (hs : A.reverse ++ .ref (g.2.2.2 5) :: rest = st) (hw : (rest.map fun v => v.category).sum ≤ 8) (h1 : fr + 1 ≤ Rm.frames) (h2 : 8 + (cy.2.2.1 + 11) + lo ≤ Rm.locals) (h3 : n ≤ Rm.cells) (h4 : z ≤ Rm.slots)
    (k : W p l e Rm s m args below meth c0 H locs n z Q (F0 m (pc + 3) rl (r.toList ++ rest))) : W p l e Rm s m args below meth c0 H locs n z Q (F0 m pc rl st) := by
  subst hs
  obtain ⟨k3, k4, k5⟩ := K3
  have hts := C.2.2.2.2.2.1
  have hrecv := vk_recv C.2.2.2.2.2.2.2.1.2.2.1.2.2.2.2.1 (i := 0) (by decide) hS
  exact Ms.go (va_runV (C := cy.1.cls) (b := g.2.2.2 5) (As := A) (rest := rest) (Ts := gt) ⟨C.1, C.2.1, C.2.2.2.1, C.2.2.2.2.1, hts⟩ hM ⟨callB_of A.length hts (gt_ws k4) rfl rfl rfl (hts _ k3) (hts _ K1) k5 ⟨h1, h2⟩, hts _ K2, hts _ K4⟩ ⟨ms_blind _, by rw [hcls]; exact hrecv, fun U hU hW => ⟨rfl, ms_pre C hS U hU hW⟩⟩ rfl rfl hsz rfl (lv_room hw) d ⟨h3, h4⟩) k
theorem Mz.iret {x : Int32} {ty : FieldType} (C : Cxt g cx p s m args meth c0) (hr : cx.2.2.2.1 = some ty) (hx : narrow ty (.int x) = .int x) (d : decode cx.2.1 pc = .ok (.ireturn, 1)) : W p l e Rm s m args below meth c0 s.heap [] 0 0 (Mz (some (.int x)) below args s) (F0 m pc rl [.int x]) :=
  W.zret C.1 C.2.1 (C.2.2.1.trans hr) hx (fun t ht _ => ⟨rfl, ht⟩) (fun _ h => by cases h) d C.2.2.2.2.2.2.1
end MSS
theorem tk_J0_length_8abf5 : LKa kt_J0_length_8abf5 0 := ⟨tn_RJ0, tc_J0_length_8abf5, by decide +kernel, by decide +kernel, by decide +kernel⟩
theorem tk_J0_charAt_5068e : LKa kt_J0_charAt_5068e 1 := ⟨tn_RJ0, tc_J0_charAt_5068e, by decide +kernel, by decide +kernel, by decide +kernel⟩
theorem tk_J0_coder_7d493 : LKa kt_J0_coder_7d493 0 := ⟨tn_RJ0, tc_J0_coder_7d493, by decide +kernel, by decide +kernel, by decide +kernel⟩
theorem tk_J0_isLatin1_aae02 : LKa kt_J0_isLatin1_aae02 0 := ⟨tn_RJ0, tc_J0_isLatin1_aae02, by decide +kernel, by decide +kernel, by decide +kernel⟩
theorem tk_J0_checkIndex_df160 : LKa kt_J0_checkIndex_df160 2 := ⟨tn_RJ0, tc_J0_checkIndex_df160, by decide +kernel, by decide +kernel, by decide +kernel⟩
theorem tk_J1_charAt_3b067 : LKa kt_J1_charAt_3b067 2 := ⟨tn_RJ1, tc_J1_charAt_3b067, by decide +kernel, by decide +kernel, by decide +kernel⟩
theorem tk_J3_checkIndex_8e157 : LKa kt_J3_checkIndex_8e157 3 := ⟨tn_RJ3, tc_J3_checkIndex_8e157, by decide +kernel, by decide +kernel, by decide +kernel⟩
theorem t_coder (l : Launch) (g : g_T) : Ms l g kt_J0_coder_7d493 0 0 [.ref (g.2.2.2 5)] (some (.int 0)) := by
  refine Ms.of (by decide) (Nat.le_of_ble_eq_true rfl) rfl ?_
  intro p e s m args below meth c rl C hl
  have hts := C.2.2.2.2.2.1
  have hSK := C.2.2.2.2.2.2.2.1.2.2.1
  obtain ⟨hO, hF, hV, hTt⟩ := hSK.2.2.2.2.1.1 0 (by decide)
  refine va_gets C.1 C.2.1 hSK.2.2.2.2.2.1 va_S.rf C.2.2.2.2.1 (hts _ tf_cs) (fun _ h => h) dJ0_coder_7d493_0 ?_
  refine lv_if_eq (tgt := 13) C.1 C.2.1 dJ0_coder_7d493_3 rfl (fun z => absurd z (by decide)) (fun _ => ?_)
  refine lv_aload_n C.1 C.2.1 dJ0_coder_7d493_6 rfl (lv_at hl 0 rfl) ?_
  refine vk_getf C.1 C.2.1 hF va_S.rf C.2.2.2.2.1 (hts _ tf_coder) (fun _ h => h) dJ0_coder_7d493_7 ?_
  refine lv_goto (tgt := 14) C.1 C.2.1 dJ0_coder_7d493_10 rfl ?_
  exact Mz.iret C rfl rfl dJ0_coder_7d493_14
theorem t_isLatin1 (l : Launch) (g : g_T) : Ms l g kt_J0_isLatin1_aae02 0 0 [.ref (g.2.2.2 5)] (some (.int 1)) := by
  refine Ms.of (by decide) (Nat.le_of_ble_eq_true rfl) rfl ?_
  intro p e s m args below meth c rl C hl
  have hts := C.2.2.2.2.2.1
  have hSK := C.2.2.2.2.2.2.2.1.2.2.1
  obtain ⟨hO, hF, hV, hTt⟩ := hSK.2.2.2.2.1.1 0 (by decide)
  refine va_gets C.1 C.2.1 hSK.2.2.2.2.2.1 va_S.rf C.2.2.2.2.1 (hts _ tf_cs) (fun _ h => h) dJ0_isLatin1_aae02_0 ?_
  refine lv_if_eq (tgt := 17) C.1 C.2.1 dJ0_isLatin1_aae02_3 rfl (fun z => absurd z (by decide)) (fun _ => ?_)
  refine lv_aload_n C.1 C.2.1 dJ0_isLatin1_aae02_6 rfl (lv_at hl 0 rfl) ?_
  refine vk_getf C.1 C.2.1 hF va_S.rf C.2.2.2.2.1 (hts _ tf_coder) (fun _ h => h) dJ0_isLatin1_aae02_7 ?_
  refine lv_if_ne (tgt := 17) C.1 C.2.1 dJ0_isLatin1_aae02_10 rfl (fun z => absurd rfl z) (fun _ => ?_)
  refine lv_iconst (v := 1) C.1 C.2.1 dJ0_isLatin1_aae02_13 rfl ?_
  refine lv_goto (tgt := 18) C.1 C.2.1 dJ0_isLatin1_aae02_14 rfl ?_
  exact Mz.iret C rfl rfl dJ0_isLatin1_aae02_18
theorem t_length (l : Launch) (g : g_T) : Ms l g kt_J0_length_8abf5 1 20 [.ref (g.2.2.2 5)] (some (.int 97)) := by
  refine Ms.of (by decide) (Nat.le_of_ble_eq_true rfl) rfl ?_
  intro p e s m args below meth c rl C hl
  have hts := C.2.2.2.2.2.1
  have hSK := C.2.2.2.2.2.2.2.1.2.2.1
  obtain ⟨hO, hF, hV, hTt⟩ := hSK.2.2.2.2.1.1 0 (by decide)
  refine lv_aload_n C.1 C.2.1 dJ0_length_8abf5_0 rfl (lv_at hl 0 rfl) ?_
  refine vk_getf C.1 C.2.1 hV va_S.rf C.2.2.2.2.1 (hts _ tf_value) (fun _ h => h) dJ0_length_8abf5_1 ?_
  refine va_tlen (v := 97) C.1 C.2.1 hTt va_S.rf rfl dJ0_length_8abf5_4 ?_
  refine lv_aload_n C.1 C.2.1 dJ0_length_8abf5_5 rfl (lv_at hl 0 rfl) ?_
  refine Ms.callV (A := []) (rest := [.int 97]) (t_coder l g) rfl C va_S.rf tm_coder ti_J0_coder_7d493 tl_J0_coder_7d493 tk_J0_coder_7d493 hl.1 dJ0_length_8abf5_6 rfl (by decide) (by decide) (by decide) (by decide) (by decide) ?_
  refine lv_ishr C.1 C.2.1 dJ0_length_8abf5_9 ?_
  exact Mz.iret C rfl rfl dJ0_length_8abf5_10
theorem t_pcheck (l : Launch) (g : g_T) (i : Int32) (o : Value) (ho : o = .null ∨ ∃ q, o = .ref q) (hi : inb i 97 = true) : Ms l g kt_J3_checkIndex_8e157 0 0 [.int i, .int 97, o] (some (.int i)) := by
  refine Ms.of (by decide) (by rcases ho with rfl | ⟨q, rfl⟩ <;> exact Nat.le_of_ble_eq_true rfl) rfl ?_
  intro p e s m args below meth c rl C hl
  have h9 := inb_vp hi
  have h8 := vp_in_iff.mp h9
  refine lv_iload_n C.1 C.2.1 dJ3_checkIndex_8e157_0 rfl (lv_at hl 0 rfl) ?_
  refine lv_if_lt (tgt := 9) C.1 C.2.1 dJ3_checkIndex_8e157_1 rfl (fun z => absurd (Or.inl z) h9) (fun _ => ?_)
  refine lv_iload_n C.1 C.2.1 dJ3_checkIndex_8e157_4 rfl (lv_at hl 0 rfl) ?_
  refine lv_iload_n C.1 C.2.1 dJ3_checkIndex_8e157_5 rfl (lv_at hl 1 rfl) ?_
  refine lv_icmp_lt (tgt := 16) C.1 C.2.1 dJ3_checkIndex_8e157_6 rfl (fun _ => ?_) (fun z => absurd (Int32.lt_iff_toInt_lt.mpr h8.2) z)
  refine lv_iload_n C.1 C.2.1 dJ3_checkIndex_8e157_16 rfl (lv_at hl 0 rfl) ?_
  exact Mz.iret C rfl rfl dJ3_checkIndex_8e157_17
theorem t_check (l : Launch) (g : g_T) (i : Int32) (hi : inb i 97 = true) : Ms l g kt_J0_checkIndex_df160 1 22 [.int i, .int 97] none := by
  refine Ms.of (by decide) (Nat.le_of_ble_eq_true rfl) rfl ?_
  intro p e s m args below meth c rl C hl
  have hts := C.2.2.2.2.2.1
  have hSK := C.2.2.2.2.2.2.2.1.2.2.1
  refine lv_iload_n C.1 C.2.1 dJ0_checkIndex_df160_0 rfl (lv_at hl 0 rfl) ?_
  refine lv_iload_n C.1 C.2.1 dJ0_checkIndex_df160_1 rfl (lv_at hl 1 rfl) ?_
  have key : ∀ o : Value, (o = .null ∨ ∃ q, o = .ref q) → va_Z "jdk/internal/util/Preconditions" "SIOOBE_FORMATTER" "Ljava/util/function/BiFunction;" o (fun q => g.2.2.1 ≤ q) s s.heap → W p l e { frames := 1, cells := 0, slots := 0, locals := 22 } s m args below meth c s.heap [] 0 0 (Mz none below args s) (F0 m 2 rl [.int 97, .int i]) := by
    intro o ho hZ
    refine va_gets C.1 C.2.1 hZ va_S.rf C.2.2.2.2.1 (hts _ tf_sf) (fun _ h => h) dJ0_checkIndex_df160_2 ?_
    refine Ms.callS (A := [.int i, .int 97, o]) (rest := []) (t_pcheck l g i o ho hi) C va_S.rf tm_pc ts_J3_checkIndex_8e157 tk_J3_checkIndex_8e157 hl.1 dJ0_checkIndex_df160_5 rfl (by decide) (by decide) (by decide) (by decide) (by decide) ?_
    refine lv_pop C.1 C.2.1 dJ0_checkIndex_df160_8 rfl ?_
    exact W.vret C.1 C.2.1 (C.2.2.1.trans rfl) (fun t ht _ => ⟨rfl, ht⟩) (fun _ h => by cases h) dJ0_checkIndex_df160_9 C.2.2.2.2.2.2.1
  rcases hSK.2.2.2.2.2.2.1 with h | ⟨q, h⟩
  · exact key .null (Or.inl rfl) h
  · exact key (.ref q) (Or.inr ⟨q, rfl⟩) h
/-- the sign at a place -/
def tx_ch (i : Int32) : Int32 := (((tx_bytes.getD i.toNatClampNeg 0) &&& 255).toUInt32 % 65536).toInt32
theorem t_lcharAt (l : Launch) (g : g_T) (i : Int32) (hi : inb i 97 = true) : Ms l g kt_J1_charAt_3b067 2 43 [.ref (g.2.2.2 7), .int i] (some (.int (tx_ch i))) := by
  refine Ms.of (by decide) (Nat.le_of_ble_eq_true rfl) rfl ?_
  intro p e s m args below meth c rl C hl
  have hts := C.2.2.2.2.2.1
  have hSK := C.2.2.2.2.2.2.2.1.2.2.1
  obtain ⟨hO, hF, hV, hTt⟩ := hSK.2.2.2.2.1.1 0 (by decide)
  refine lv_iload_n C.1 C.2.1 dJ1_charAt_3b067_0 rfl (lv_at hl 1 rfl) ?_
  refine lv_aload_n C.1 C.2.1 dJ1_charAt_3b067_1 rfl (lv_at hl 0 rfl) ?_
  refine va_tlen (v := 97) C.1 C.2.1 hTt va_S.rf rfl dJ1_charAt_3b067_2 ?_
  refine Ms.callS (A := [.int i, .int 97]) (rest := []) (t_check l g i hi) C va_S.rf tm_ci ts_J0_checkIndex_df160 tk_J0_checkIndex_df160 hl.1 dJ1_charAt_3b067_3 rfl (by decide) (by decide) (by decide) (by decide) (by decide) ?_
  refine lv_aload_n C.1 C.2.1 dJ1_charAt_3b067_6 rfl (lv_at hl 0 rfl) ?_
  refine lv_iload_n C.1 C.2.1 dJ1_charAt_3b067_7 rfl (lv_at hl 1 rfl) ?_
  refine va_tb C.1 C.2.1 hTt va_S.rf (inb_vp hi) rfl dJ1_charAt_3b067_8 ?_
  refine lv_sipush (v := 255) C.1 C.2.1 dJ1_charAt_3b067_9 rfl ?_
  refine lv_iand C.1 C.2.1 dJ1_charAt_3b067_12 ?_
  refine lv_i2c (v := tx_ch i) C.1 C.2.1 dJ1_charAt_3b067_13 rfl ?_
  exact Mz.iret C rfl (by
    unfold tx_ch
    generalize (tx_bytes.getD i.toNatClampNeg 0) = b
    rw [tx_nar]) dJ1_charAt_3b067_14
theorem t_charAt (l : Launch) (g : g_T) (i : Int32) (hi : inb i 97 = true) : Ms l g kt_J0_charAt_5068e 3 64 [.ref (g.2.2.2 5), .int i] (some (.int (tx_ch i))) := by
  refine Ms.of (by decide) (Nat.le_of_ble_eq_true rfl) rfl ?_
  intro p e s m args below meth c rl C hl
  have hts := C.2.2.2.2.2.1
  have hSK := C.2.2.2.2.2.2.2.1.2.2.1
  obtain ⟨hO, hF, hV, hTt⟩ := hSK.2.2.2.2.1.1 0 (by decide)
  refine lv_aload_n C.1 C.2.1 dJ0_charAt_5068e_0 rfl (lv_at hl 0 rfl) ?_
  refine Ms.callV (A := []) (rest := []) (t_isLatin1 l g) rfl C va_S.rf tm_isL ti_J0_isLatin1_aae02 tl_J0_isLatin1_aae02 tk_J0_isLatin1_aae02 hl.1 dJ0_charAt_5068e_1 rfl (by decide) (by decide) (by decide) (by decide) (by decide) ?_
  refine lv_if_eq (tgt := 16) C.1 C.2.1 dJ0_charAt_5068e_4 rfl (fun z => absurd z (by decide)) (fun _ => ?_)
  refine lv_aload_n C.1 C.2.1 dJ0_charAt_5068e_7 rfl (lv_at hl 0 rfl) ?_
  refine vk_getf C.1 C.2.1 hV va_S.rf C.2.2.2.2.1 (hts _ tf_value) (fun _ h => h) dJ0_charAt_5068e_8 ?_
  refine lv_iload_n C.1 C.2.1 dJ0_charAt_5068e_11 rfl (lv_at hl 1 rfl) ?_
  refine Ms.callS (A := [.ref (g.2.2.2 7), .int i]) (rest := []) (t_lcharAt l g i hi) C va_S.rf tm_lc ts_J1_charAt_3b067 tk_J1_charAt_3b067 hl.1 dJ0_charAt_5068e_12 rfl (by decide) (by decide) (by decide) (by decide) (by decide) ?_
  exact Mz.iret C rfl (by
    unfold tx_ch
    generalize (tx_bytes.getD i.toNatClampNeg 0) = b
    rw [tx_nar]) dJ0_charAt_5068e_15
section TXR
variable {l : Launch} {g : g_T} {cx : cx_T} {Rm : Room} {E : E_T} {pc : Nat} {ls : List (Nat × Value)} {st : List Value} {n z : Nat} {w : w_T}
theorem Wp.ldcS (h1 : cx.1.cls = "FerryLand$Reader") (d : decode cx.2.1 pc = .ok (.ldc tx_index, 2)) (k : Wp l g cx Rm E (pc + 2) ls (.ref 5 :: st) n z w) : Wp l g cx Rm E pc ls st n z w := by
  intro p e s m args below meth c0 H locs rl C hR hS hL
  have h2 := C.2.2.2.2.1
  rw [h1] at h2
  exact va_ldcS C.1 C.2.1 h2 C.2.2.2.2.2.2.2.1.2.2.2.2.1 d (k p e s m args below meth c0 H locs rl C hR hS hL)
theorem Wp.strlen {idx : Nat} (K : Cond.methodLink cx.1.cls idx yJ0_length_8abf5 ∈ gt) (d : decode cx.2.1 pc = .ok (.invokevirtual idx, 3)) (hw : (st.map fun v => v.category).sum ≤ 8) (h1 : 2 ≤ Rm.frames) (h2 : 40 ≤ Rm.locals) (h3 : n ≤ Rm.cells) (h4 : z ≤ Rm.slots) (k : Wp l g cx Rm E (pc + 3) ls (.int 97 :: st) n z w) : Wp l g cx Rm E pc ls (.ref 5 :: st) n z w := by
  intro p e s m args below meth c0 H locs rl C hR hS hL
  exact Ms.callV (A := []) (rest := st.map (cv g)) (t_length l g) rfl C hS K ti_J0_length_8abf5 tl_J0_length_8abf5 tk_J0_length_8abf5 hL.1 d rfl (by rw [cv_sum]; exact hw) h1 (by exact h2) h3 h4 (k p e s m args below meth c0 H locs rl C hR hS hL)
theorem Wp.charAt {idx : Nat} {i : Int32} (K : Cond.methodLink cx.1.cls idx yJ0_charAt_5068e ∈ gt) (hi : inb i 97 = true) (d : decode cx.2.1 pc = .ok (.invokevirtual idx, 3)) (hw : (st.map fun v => v.category).sum ≤ 8) (h1 : 4 ≤ Rm.frames) (h2 : 85 ≤ Rm.locals) (h3 : n ≤ Rm.cells) (h4 : z ≤ Rm.slots) (k : Wp l g cx Rm E (pc + 3) ls (.int (tx_ch i) :: st) n z w) : Wp l g cx Rm E pc ls (.int i :: .ref 5 :: st) n z w := by
  intro p e s m args below meth c0 H locs rl C hR hS hL
  exact Ms.callV (A := [.int i]) (rest := st.map (cv g)) (t_charAt l g i hi) rfl C hS K ti_J0_charAt_5068e tl_J0_charAt_5068e tk_J0_charAt_5068e hL.1 d rfl (by rw [cv_sum]; exact hw) h1 (by exact h2) h3 h4 (k p e s m args below meth c0 H locs rl C hR hS hL)
end TXR
