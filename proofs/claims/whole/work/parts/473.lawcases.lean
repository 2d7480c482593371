/-! THE LAW: its cases -/
abbrev lsI (i : Nat) : List (Nat × Value) := [(3, .int (nI i)), (2, .ref 68), (1, .ref 6), (0, .ref 0)]
theorem Inv.tw6 {sh : sh_T} {I : I_T} {L : L_T} {R : R_T} (h : Inv sh I L R) : Tw sh 6 10 := ⟨Nat.le_refl _, by have := h.1; omega, h.2.1⟩
theorem Inv.tw68 {sh : sh_T} {I : I_T} {L : L_T} {R : R_T} (h : Inv sh I L R) : Tw sh 68 11 := ⟨by omega, by have := h.1; omega, h.2.2.1⟩
theorem lc_feed {l : Launch} {g : g_T} {N i n z : Nat} {xs : Nat → Int32} {sh : sh_T} {I : I_T} {L : L_T} {R : R_T} (hN2 : N ≤ 3072) (hi : i + 6 ≤ N) (h : Inv sh I L R) (hn : n + 27 ≤ 600000) (hz : z + 1427 ≤ 7302250) (kk : ∀ (sh' : sh_T) (I' : I_T) (L' : L_T) (R' : R_T) (n' z' : Nat), Inv sh' I' L' R' → n' ≤ n + 27 → z' ≤ z + 1427 → Wp l g k_law room_1 (E_law g N xs) 1552 (lsI i) [] n' z' (sh', I', L', R')) : Wp l g k_law room_1 (E_law g N xs) 172 (lsI i) [] n z (sh, I, L, R) := by
  refine Wp.know (w := (sh, I, L, R)) fun k1 k2 k3 => ?_
  have k1 := k1 rfl
  have h0 : 6 ≤ sh.1 := by have := h.1; omega
  refine Wp.aload_n 2 dl_172 rfl rfl ?_
  refine Wp.arg (i := i) (k := 1) rfl rfl k1 k2 h0 k3 hN2 (by omega) rfl dl_173 dl_174 dl_175 dl_176 dl_177 ?_
  refine Wp.arg (i := i) (k := 2) rfl rfl k1 k2 h0 k3 hN2 (by omega) rfl dl_178 dl_179 dl_180 dl_181 dl_182 ?_
  refine Wp.arg (i := i) (k := 3) rfl rfl k1 k2 h0 k3 hN2 (by omega) rfl dl_183 dl_184 dl_185 dl_186 dl_187 ?_
  refine Wp.arg (i := i) (k := 4) rfl rfl k1 k2 h0 k3 hN2 (by omega) rfl dl_188 dl_189 dl_190 dl_191 dl_192 ?_
  refine Wp.arg (i := i) (k := 5) rfl rfl k1 k2 h0 k3 hN2 (by omega) rfl dl_193 dl_194 dl_195 dl_196 dl_197 ?_
  obtain ⟨r, I1, I2, e1, e2, h'⟩ := q_feed h (xs (i + 1)) (xs (i + 2)) (xs (i + 3)) (xs (i + 4)) (xs (i + 5))
  refine Wp.callV (A := [.int (xs (i + 1)), .int (xs (i + 2)), .int (xs (i + 3)), .int (xs (i + 4)), .int (xs (i + 5))]) (rest := []) (c_X10_feed h.tw6 e1) lk_law_13 h.tw6 dl_198 rfl (Nat.le_of_ble_eq_true rfl) (Nat.le_of_ble_eq_true rfl) (Nat.le_of_ble_eq_true rfl) (show n + 0 ≤ 600000 by omega) (show z + 0 ≤ 7302250 by omega) (fun _ => ?_)
  refine Wp.nz (n' := n) (z' := z) rfl rfl ?_
  refine Wp.sk (st' := [.int r]) rfl ?_
  refine Wp.wd (w' := (sh, I1, L, R)) rfl ?_
  refine Wp.know (w := (sh, I1, L, R)) fun k1 k2 k3 => ?_
  have k1 := k1 rfl
  refine Wp.aload_n 1 dl_201 rfl rfl ?_
  refine Wp.arg (i := i) (k := 1) rfl rfl k1 k2 h0 k3 hN2 (by omega) rfl dl_202 dl_203 dl_204 dl_205 dl_206 ?_
  refine Wp.arg (i := i) (k := 2) rfl rfl k1 k2 h0 k3 hN2 (by omega) rfl dl_207 dl_208 dl_209 dl_210 dl_211 ?_
  refine Wp.arg (i := i) (k := 3) rfl rfl k1 k2 h0 k3 hN2 (by omega) rfl dl_212 dl_213 dl_214 dl_215 dl_216 ?_
  refine Wp.arg (i := i) (k := 4) rfl rfl k1 k2 h0 k3 hN2 (by omega) rfl dl_217 dl_218 dl_219 dl_220 dl_221 ?_
  refine Wp.arg (i := i) (k := 5) rfl rfl k1 k2 h0 k3 hN2 (by omega) rfl dl_222 dl_223 dl_224 dl_225 dl_226 ?_
  refine Wp.callV (A := [.int (xs (i + 1)), .int (xs (i + 2)), .int (xs (i + 3)), .int (xs (i + 4)), .int (xs (i + 5))]) (rest := [.int r]) (c_X11_feed h.tw68 e2) lk_law_17 h.tw68 dl_227 rfl (Nat.le_of_ble_eq_true rfl) (Nat.le_of_ble_eq_true rfl) (Nat.le_of_ble_eq_true rfl) (show n + 0 ≤ 600000 by omega) (show z + 0 ≤ 7302250 by omega) (fun _ => ?_)
  refine Wp.nz (n' := n) (z' := z) rfl rfl ?_
  refine Wp.sk (st' := [.int r, .int r]) rfl ?_
  refine Wp.wd (w' := (sh, I2, L, R)) rfl ?_
  refine Wp.icmp_eq (tgt := 1552) dl_230 rfl (fun _ => ?_) (fun hne => (hne rfl).elim)
  exact kk _ _ _ _ _ _ h' (by omega) (by omega)
theorem lc_end {l : Launch} {g : g_T} {N i n z : Nat} {xs : Nat → Int32} {sh : sh_T} {I : I_T} {L : L_T} {R : R_T} (hN2 : N ≤ 3072) (hi : i + 6 ≤ N) (h : Inv sh I L R) (hn : n + 27 ≤ 600000) (hz : z + 1427 ≤ 7302250) (kk : ∀ (sh' : sh_T) (I' : I_T) (L' : L_T) (R' : R_T) (n' z' : Nat), Inv sh' I' L' R' → n' ≤ n + 27 → z' ≤ z + 1427 → Wp l g k_law room_1 (E_law g N xs) 1552 (lsI i) [] n' z' (sh', I', L', R')) : Wp l g k_law room_1 (E_law g N xs) 235 (lsI i) [] n z (sh, I, L, R) := by
  refine Wp.know (w := (sh, I, L, R)) fun k1 k2 k3 => ?_
  have k1 := k1 rfl
  have h0 : 6 ≤ sh.1 := by have := h.1; omega
  refine Wp.aload_n 2 dl_235 rfl rfl ?_
  refine Wp.arg (i := i) (k := 1) rfl rfl k1 k2 h0 k3 hN2 (by omega) rfl dl_236 dl_237 dl_238 dl_239 dl_240 ?_
  obtain ⟨r, I1, I2, e1, e2, h'⟩ := q_end h (xs (i + 1))
  refine Wp.callV (A := [.int (xs (i + 1))]) (rest := []) (c_X10_end h.tw6 e1) lk_law_18 h.tw6 dl_241 rfl (Nat.le_of_ble_eq_true rfl) (Nat.le_of_ble_eq_true rfl) (Nat.le_of_ble_eq_true rfl) (show n + 0 ≤ 600000 by omega) (show z + 0 ≤ 7302250 by omega) (fun _ => ?_)
  refine Wp.nz (n' := n) (z' := z) rfl rfl ?_
  refine Wp.sk (st' := [.int r]) rfl ?_
  refine Wp.wd (w' := (sh, I1, L, R)) rfl ?_
  refine Wp.know (w := (sh, I1, L, R)) fun k1 k2 k3 => ?_
  have k1 := k1 rfl
  refine Wp.aload_n 1 dl_244 rfl rfl ?_
  refine Wp.arg (i := i) (k := 1) rfl rfl k1 k2 h0 k3 hN2 (by omega) rfl dl_245 dl_246 dl_247 dl_248 dl_249 ?_
  refine Wp.callV (A := [.int (xs (i + 1))]) (rest := [.int r]) (c_X11_end h.tw68 e2) lk_law_22 h.tw68 dl_250 rfl (Nat.le_of_ble_eq_true rfl) (Nat.le_of_ble_eq_true rfl) (Nat.le_of_ble_eq_true rfl) (show n + 0 ≤ 600000 by omega) (show z + 0 ≤ 7302250 by omega) (fun _ => ?_)
  refine Wp.nz (n' := n) (z' := z) rfl rfl ?_
  refine Wp.sk (st' := [.int r, .int r]) rfl ?_
  refine Wp.wd (w' := (sh, I2, L, R)) rfl ?_
  refine Wp.icmp_eq (tgt := 1552) dl_253 rfl (fun _ => ?_) (fun hne => (hne rfl).elim)
  exact kk _ _ _ _ _ _ h' (by omega) (by omega)
theorem lc_text {l : Launch} {g : g_T} {N i n z : Nat} {xs : Nat → Int32} {sh : sh_T} {I : I_T} {L : L_T} {R : R_T} (hN2 : N ≤ 3072) (hi : i + 6 ≤ N) (h : Inv sh I L R) (hn : n + 27 ≤ 600000) (hz : z + 1427 ≤ 7302250) (kk : ∀ (sh' : sh_T) (I' : I_T) (L' : L_T) (R' : R_T) (n' z' : Nat), Inv sh' I' L' R' → n' ≤ n + 27 → z' ≤ z + 1427 → Wp l g k_law room_1 (E_law g N xs) 1552 (lsI i) [] n' z' (sh', I', L', R')) : Wp l g k_law room_1 (E_law g N xs) 258 (lsI i) [] n z (sh, I, L, R) := by
  refine Wp.know (w := (sh, I, L, R)) fun k1 k2 k3 => ?_
  have k1 := k1 rfl
  have h0 : 6 ≤ sh.1 := by have := h.1; omega
  refine Wp.aload_n 2 dl_258 rfl rfl ?_
  refine Wp.arg (i := i) (k := 1) rfl rfl k1 k2 h0 k3 hN2 (by omega) rfl dl_259 dl_260 dl_261 dl_262 dl_263 ?_
  refine Wp.arg (i := i) (k := 2) rfl rfl k1 k2 h0 k3 hN2 (by omega) rfl dl_264 dl_265 dl_266 dl_267 dl_268 ?_
  obtain ⟨r, I1, L1, I2, L2, e1, e2, h'⟩ := q_text h (xs (i + 1)) (xs (i + 2))
  refine Wp.callV (A := [.int (xs (i + 1)), .int (xs (i + 2))]) (rest := []) (c_X10_text h.tw6 e1) lk_law_23 h.tw6 dl_269 rfl (Nat.le_of_ble_eq_true rfl) (Nat.le_of_ble_eq_true rfl) (Nat.le_of_ble_eq_true rfl) (show n + 0 ≤ 600000 by omega) (show z + 0 ≤ 7302250 by omega) (fun _ => ?_)
  refine Wp.nz (n' := n) (z' := z) rfl rfl ?_
  refine Wp.sk (st' := [.int r]) rfl ?_
  refine Wp.wd (w' := (sh, I1, L1, R)) rfl ?_
  refine Wp.know (w := (sh, I1, L1, R)) fun k1 k2 k3 => ?_
  have k1 := k1 rfl
  refine Wp.aload_n 1 dl_272 rfl rfl ?_
  refine Wp.arg (i := i) (k := 1) rfl rfl k1 k2 h0 k3 hN2 (by omega) rfl dl_273 dl_274 dl_275 dl_276 dl_277 ?_
  refine Wp.arg (i := i) (k := 2) rfl rfl k1 k2 h0 k3 hN2 (by omega) rfl dl_278 dl_279 dl_280 dl_281 dl_282 ?_
  refine Wp.callV (A := [.int (xs (i + 1)), .int (xs (i + 2))]) (rest := [.int r]) (c_X11_text h.tw68 e2) lk_law_27 h.tw68 dl_283 rfl (Nat.le_of_ble_eq_true rfl) (Nat.le_of_ble_eq_true rfl) (Nat.le_of_ble_eq_true rfl) (show n + 0 ≤ 600000 by omega) (show z + 0 ≤ 7302250 by omega) (fun _ => ?_)
  refine Wp.nz (n' := n) (z' := z) rfl rfl ?_
  refine Wp.sk (st' := [.int r, .int r]) rfl ?_
  refine Wp.wd (w' := (sh, I2, L2, R)) rfl ?_
  refine Wp.icmp_eq (tgt := 1552) dl_286 rfl (fun _ => ?_) (fun hne => (hne rfl).elim)
  exact kk _ _ _ _ _ _ h' (by omega) (by omega)
theorem lc_fault {l : Launch} {g : g_T} {N i n z : Nat} {xs : Nat → Int32} {sh : sh_T} {I : I_T} {L : L_T} {R : R_T} (hN2 : N ≤ 3072) (hi : i + 6 ≤ N) (h : Inv sh I L R) (hn : n + 27 ≤ 600000) (hz : z + 1427 ≤ 7302250) (kk : ∀ (sh' : sh_T) (I' : I_T) (L' : L_T) (R' : R_T) (n' z' : Nat), Inv sh' I' L' R' → n' ≤ n + 27 → z' ≤ z + 1427 → Wp l g k_law room_1 (E_law g N xs) 1552 (lsI i) [] n' z' (sh', I', L', R')) : Wp l g k_law room_1 (E_law g N xs) 291 (lsI i) [] n z (sh, I, L, R) := by
  refine Wp.know (w := (sh, I, L, R)) fun k1 k2 k3 => ?_
  have k1 := k1 rfl
  have h0 : 6 ≤ sh.1 := by have := h.1; omega
  refine Wp.aload_n 2 dl_291 rfl rfl ?_
  refine Wp.arg (i := i) (k := 1) rfl rfl k1 k2 h0 k3 hN2 (by omega) rfl dl_292 dl_293 dl_294 dl_295 dl_296 ?_
  obtain ⟨r, I2, e1, e2, h'⟩ := q_fault h (xs (i + 1))
  refine Wp.callV (A := [.int (xs (i + 1))]) (rest := []) (c_X10_fault h.tw6 e1) lk_law_28 h.tw6 dl_297 rfl (Nat.le_of_ble_eq_true rfl) (Nat.le_of_ble_eq_true rfl) (Nat.le_of_ble_eq_true rfl) (show n + 0 ≤ 600000 by omega) (show z + 0 ≤ 7302250 by omega) (fun _ => ?_)
  refine Wp.nz (n' := n) (z' := z) rfl rfl ?_
  refine Wp.sk (st' := [.int r]) rfl ?_
  refine Wp.wd (w' := (sh, I, L, R)) rfl ?_
  refine Wp.know (w := (sh, I, L, R)) fun k1 k2 k3 => ?_
  have k1 := k1 rfl
  refine Wp.aload_n 1 dl_300 rfl rfl ?_
  refine Wp.arg (i := i) (k := 1) rfl rfl k1 k2 h0 k3 hN2 (by omega) rfl dl_301 dl_302 dl_303 dl_304 dl_305 ?_
  refine Wp.callV (A := [.int (xs (i + 1))]) (rest := [.int r]) (c_X11_fault h.tw68 e2) lk_law_31 h.tw68 dl_306 rfl (Nat.le_of_ble_eq_true rfl) (Nat.le_of_ble_eq_true rfl) (Nat.le_of_ble_eq_true rfl) (show n + 0 ≤ 600000 by omega) (show z + 0 ≤ 7302250 by omega) (fun _ => ?_)
  refine Wp.nz (n' := n) (z' := z) rfl rfl ?_
  refine Wp.sk (st' := [.int r, .int r]) rfl ?_
  refine Wp.wd (w' := (sh, I2, L, R)) rfl ?_
  refine Wp.icmp_eq (tgt := 1552) dl_309 rfl (fun _ => ?_) (fun hne => (hne rfl).elim)
  exact kk _ _ _ _ _ _ h' (by omega) (by omega)
theorem lc_land {l : Launch} {g : g_T} {N i n z : Nat} {xs : Nat → Int32} {sh : sh_T} {I : I_T} {L : L_T} {R : R_T} (hN2 : N ≤ 3072) (hi : i + 6 ≤ N) (h : Inv sh I L R) (hn : n + 27 ≤ 600000) (hz : z + 1427 ≤ 7302250) (kk : ∀ (sh' : sh_T) (I' : I_T) (L' : L_T) (R' : R_T) (n' z' : Nat), Inv sh' I' L' R' → n' ≤ n + 27 → z' ≤ z + 1427 → Wp l g k_law room_1 (E_law g N xs) 1552 (lsI i) [] n' z' (sh', I', L', R')) : Wp l g k_law room_1 (E_law g N xs) 314 (lsI i) [] n z (sh, I, L, R) := by
  refine Wp.know (w := (sh, I, L, R)) fun k1 k2 k3 => ?_
  have k1 := k1 rfl
  have h0 : 6 ≤ sh.1 := by have := h.1; omega
  refine Wp.aload_n 2 dl_314 rfl rfl ?_
  refine Wp.arg (i := i) (k := 1) rfl rfl k1 k2 h0 k3 hN2 (by omega) rfl dl_315 dl_316 dl_317 dl_318 dl_319 ?_
  refine Wp.arg (i := i) (k := 2) rfl rfl k1 k2 h0 k3 hN2 (by omega) rfl dl_320 dl_321 dl_322 dl_323 dl_324 ?_
  obtain ⟨r, I2, e1, e2, h'⟩ := q_land h (xs (i + 1)) (xs (i + 2))
  refine Wp.callV (A := [.int (xs (i + 1)), .int (xs (i + 2))]) (rest := []) (c_X10_land h.tw6 e1) lk_law_32 h.tw6 dl_325 rfl (Nat.le_of_ble_eq_true rfl) (Nat.le_of_ble_eq_true rfl) (Nat.le_of_ble_eq_true rfl) (show n + 0 ≤ 600000 by omega) (show z + 0 ≤ 7302250 by omega) (fun _ => ?_)
  refine Wp.nz (n' := n) (z' := z) rfl rfl ?_
  refine Wp.sk (st' := [.int r]) rfl ?_
  refine Wp.wd (w' := (sh, I, L, R)) rfl ?_
  refine Wp.know (w := (sh, I, L, R)) fun k1 k2 k3 => ?_
  have k1 := k1 rfl
  refine Wp.aload_n 1 dl_328 rfl rfl ?_
  refine Wp.arg (i := i) (k := 1) rfl rfl k1 k2 h0 k3 hN2 (by omega) rfl dl_329 dl_330 dl_331 dl_332 dl_333 ?_
  refine Wp.arg (i := i) (k := 2) rfl rfl k1 k2 h0 k3 hN2 (by omega) rfl dl_334 dl_335 dl_336 dl_337 dl_338 ?_
  refine Wp.callV (A := [.int (xs (i + 1)), .int (xs (i + 2))]) (rest := [.int r]) (c_X11_land h.tw68 e2) lk_law_35 h.tw68 dl_339 rfl (Nat.le_of_ble_eq_true rfl) (Nat.le_of_ble_eq_true rfl) (Nat.le_of_ble_eq_true rfl) (show n + 0 ≤ 600000 by omega) (show z + 0 ≤ 7302250 by omega) (fun _ => ?_)
  refine Wp.nz (n' := n) (z' := z) rfl rfl ?_
  refine Wp.sk (st' := [.int r, .int r]) rfl ?_
  refine Wp.wd (w' := (sh, I2, L, R)) rfl ?_
  refine Wp.icmp_eq (tgt := 1552) dl_342 rfl (fun _ => ?_) (fun hne => (hne rfl).elim)
  exact kk _ _ _ _ _ _ h' (by omega) (by omega)
theorem lc_cell {l : Launch} {g : g_T} {N i n z : Nat} {xs : Nat → Int32} {sh : sh_T} {I : I_T} {L : L_T} {R : R_T} (hN2 : N ≤ 3072) (hi : i + 6 ≤ N) (h : Inv sh I L R) (hn : n + 27 ≤ 600000) (hz : z + 1427 ≤ 7302250) (kk : ∀ (sh' : sh_T) (I' : I_T) (L' : L_T) (R' : R_T) (n' z' : Nat), Inv sh' I' L' R' → n' ≤ n + 27 → z' ≤ z + 1427 → Wp l g k_law room_1 (E_law g N xs) 1552 (lsI i) [] n' z' (sh', I', L', R')) : Wp l g k_law room_1 (E_law g N xs) 347 (lsI i) [] n z (sh, I, L, R) := by
  refine Wp.know (w := (sh, I, L, R)) fun k1 k2 k3 => ?_
  have k1 := k1 rfl
  have h0 : 6 ≤ sh.1 := by have := h.1; omega
  refine Wp.aload_n 2 dl_347 rfl rfl ?_
  refine Wp.arg (i := i) (k := 1) rfl rfl k1 k2 h0 k3 hN2 (by omega) rfl dl_348 dl_349 dl_350 dl_351 dl_352 ?_
  refine Wp.arg (i := i) (k := 2) rfl rfl k1 k2 h0 k3 hN2 (by omega) rfl dl_353 dl_354 dl_355 dl_356 dl_357 ?_
  refine Wp.arg (i := i) (k := 3) rfl rfl k1 k2 h0 k3 hN2 (by omega) rfl dl_358 dl_359 dl_360 dl_361 dl_362 ?_
  refine Wp.tru dl_363 dl_366 dl_367 dl_370 ?_
  obtain ⟨r, I2, e1, e2, h'⟩ := q_cell h (xs (i + 1)) (xs (i + 2)) (trv (xs (i + 3)))
  refine Wp.callV (A := [.int (xs (i + 1)), .int (xs (i + 2)), .int (trv (xs (i + 3)))]) (rest := []) (c_X10_cell h.tw6 e1) lk_law_36 h.tw6 dl_371 rfl (Nat.le_of_ble_eq_true rfl) (Nat.le_of_ble_eq_true rfl) (Nat.le_of_ble_eq_true rfl) (show n + 0 ≤ 600000 by omega) (show z + 0 ≤ 7302250 by omega) (fun _ => ?_)
  refine Wp.nz (n' := n) (z' := z) rfl rfl ?_
  refine Wp.sk (st' := [.int r]) rfl ?_
  refine Wp.wd (w' := (sh, I, L, R)) rfl ?_
  refine Wp.know (w := (sh, I, L, R)) fun k1 k2 k3 => ?_
  have k1 := k1 rfl
  refine Wp.aload_n 1 dl_374 rfl rfl ?_
  refine Wp.arg (i := i) (k := 1) rfl rfl k1 k2 h0 k3 hN2 (by omega) rfl dl_375 dl_376 dl_377 dl_378 dl_379 ?_
  refine Wp.arg (i := i) (k := 2) rfl rfl k1 k2 h0 k3 hN2 (by omega) rfl dl_380 dl_381 dl_382 dl_383 dl_384 ?_
  refine Wp.arg (i := i) (k := 3) rfl rfl k1 k2 h0 k3 hN2 (by omega) rfl dl_385 dl_386 dl_387 dl_388 dl_389 ?_
  refine Wp.tru dl_390 dl_393 dl_394 dl_397 ?_
  refine Wp.callV (A := [.int (xs (i + 1)), .int (xs (i + 2)), .int (trv (xs (i + 3)))]) (rest := [.int r]) (c_X11_cell h.tw68 e2) lk_law_40 h.tw68 dl_398 rfl (Nat.le_of_ble_eq_true rfl) (Nat.le_of_ble_eq_true rfl) (Nat.le_of_ble_eq_true rfl) (show n + 0 ≤ 600000 by omega) (show z + 0 ≤ 7302250 by omega) (fun _ => ?_)
  refine Wp.nz (n' := n) (z' := z) rfl rfl ?_
  refine Wp.sk (st' := [.int r, .int r]) rfl ?_
  refine Wp.wd (w' := (sh, I2, L, R)) rfl ?_
  refine Wp.icmp_eq (tgt := 1552) dl_401 rfl (fun _ => ?_) (fun hne => (hne rfl).elim)
  exact kk _ _ _ _ _ _ h' (by omega) (by omega)
theorem lc_deed {l : Launch} {g : g_T} {N i n z : Nat} {xs : Nat → Int32} {sh : sh_T} {I : I_T} {L : L_T} {R : R_T} (hN2 : N ≤ 3072) (hi : i + 6 ≤ N) (h : Inv sh I L R) (hn : n + 27 ≤ 600000) (hz : z + 1427 ≤ 7302250) (kk : ∀ (sh' : sh_T) (I' : I_T) (L' : L_T) (R' : R_T) (n' z' : Nat), Inv sh' I' L' R' → n' ≤ n + 27 → z' ≤ z + 1427 → Wp l g k_law room_1 (E_law g N xs) 1552 (lsI i) [] n' z' (sh', I', L', R')) : Wp l g k_law room_1 (E_law g N xs) 406 (lsI i) [] n z (sh, I, L, R) := by
  refine Wp.know (w := (sh, I, L, R)) fun k1 k2 k3 => ?_
  have k1 := k1 rfl
  have h0 : 6 ≤ sh.1 := by have := h.1; omega
  refine Wp.aload_n 2 dl_406 rfl rfl ?_
  refine Wp.arg (i := i) (k := 1) rfl rfl k1 k2 h0 k3 hN2 (by omega) rfl dl_407 dl_408 dl_409 dl_410 dl_411 ?_
  refine Wp.arg (i := i) (k := 2) rfl rfl k1 k2 h0 k3 hN2 (by omega) rfl dl_412 dl_413 dl_414 dl_415 dl_416 ?_
  refine Wp.arg (i := i) (k := 3) rfl rfl k1 k2 h0 k3 hN2 (by omega) rfl dl_417 dl_418 dl_419 dl_420 dl_421 ?_
  obtain ⟨r, I2, e1, e2, h'⟩ := q_deed h (xs (i + 1)) (xs (i + 2)) (xs (i + 3))
  refine Wp.callV (A := [.int (xs (i + 1)), .int (xs (i + 2)), .int (xs (i + 3))]) (rest := []) (c_X10_deed h.tw6 e1) lk_law_41 h.tw6 dl_422 rfl (Nat.le_of_ble_eq_true rfl) (Nat.le_of_ble_eq_true rfl) (Nat.le_of_ble_eq_true rfl) (show n + 0 ≤ 600000 by omega) (show z + 0 ≤ 7302250 by omega) (fun _ => ?_)
  refine Wp.nz (n' := n) (z' := z) rfl rfl ?_
  refine Wp.sk (st' := [.int r]) rfl ?_
  refine Wp.wd (w' := (sh, I, L, R)) rfl ?_
  refine Wp.know (w := (sh, I, L, R)) fun k1 k2 k3 => ?_
  have k1 := k1 rfl
  refine Wp.aload_n 1 dl_425 rfl rfl ?_
  refine Wp.arg (i := i) (k := 1) rfl rfl k1 k2 h0 k3 hN2 (by omega) rfl dl_426 dl_427 dl_428 dl_429 dl_430 ?_
  refine Wp.arg (i := i) (k := 2) rfl rfl k1 k2 h0 k3 hN2 (by omega) rfl dl_431 dl_432 dl_433 dl_434 dl_435 ?_
  refine Wp.arg (i := i) (k := 3) rfl rfl k1 k2 h0 k3 hN2 (by omega) rfl dl_436 dl_437 dl_438 dl_439 dl_440 ?_
  refine Wp.callV (A := [.int (xs (i + 1)), .int (xs (i + 2)), .int (xs (i + 3))]) (rest := [.int r]) (c_X11_deed h.tw68 e2) lk_law_45 h.tw68 dl_441 rfl (Nat.le_of_ble_eq_true rfl) (Nat.le_of_ble_eq_true rfl) (Nat.le_of_ble_eq_true rfl) (show n + 0 ≤ 600000 by omega) (show z + 0 ≤ 7302250 by omega) (fun _ => ?_)
  refine Wp.nz (n' := n) (z' := z) rfl rfl ?_
  refine Wp.sk (st' := [.int r, .int r]) rfl ?_
  refine Wp.wd (w' := (sh, I2, L, R)) rfl ?_
  refine Wp.icmp_eq (tgt := 1552) dl_444 rfl (fun _ => ?_) (fun hne => (hne rfl).elim)
  exact kk _ _ _ _ _ _ h' (by omega) (by omega)
theorem lc_stop {l : Launch} {g : g_T} {N i n z : Nat} {xs : Nat → Int32} {sh : sh_T} {I : I_T} {L : L_T} {R : R_T} (hN2 : N ≤ 3072) (hi : i + 6 ≤ N) (h : Inv sh I L R) (hn : n + 27 ≤ 600000) (hz : z + 1427 ≤ 7302250) (kk : ∀ (sh' : sh_T) (I' : I_T) (L' : L_T) (R' : R_T) (n' z' : Nat), Inv sh' I' L' R' → n' ≤ n + 27 → z' ≤ z + 1427 → Wp l g k_law room_1 (E_law g N xs) 1552 (lsI i) [] n' z' (sh', I', L', R')) : Wp l g k_law room_1 (E_law g N xs) 449 (lsI i) [] n z (sh, I, L, R) := by
  refine Wp.know (w := (sh, I, L, R)) fun k1 k2 k3 => ?_
  have k1 := k1 rfl
  have h0 : 6 ≤ sh.1 := by have := h.1; omega
  refine Wp.aload_n 2 dl_449 rfl rfl ?_
  refine Wp.arg (i := i) (k := 1) rfl rfl k1 k2 h0 k3 hN2 (by omega) rfl dl_450 dl_451 dl_452 dl_453 dl_454 ?_
  refine Wp.arg (i := i) (k := 2) rfl rfl k1 k2 h0 k3 hN2 (by omega) rfl dl_455 dl_456 dl_457 dl_458 dl_459 ?_
  obtain ⟨r, I1, L1, I2, e1, e2, h'⟩ := q_stop h (xs (i + 1)) (xs (i + 2))
  refine Wp.callV (A := [.int (xs (i + 1)), .int (xs (i + 2))]) (rest := []) (c_X10_stop h.tw6 e1) lk_law_46 h.tw6 dl_460 rfl (Nat.le_of_ble_eq_true rfl) (Nat.le_of_ble_eq_true rfl) (Nat.le_of_ble_eq_true rfl) (show n + 0 ≤ 600000 by omega) (show z + 0 ≤ 7302250 by omega) (fun _ => ?_)
  refine Wp.nz (n' := n) (z' := z) rfl rfl ?_
  refine Wp.sk (st' := [.int r]) rfl ?_
  refine Wp.wd (w' := (sh, I1, L1, R)) rfl ?_
  refine Wp.know (w := (sh, I1, L1, R)) fun k1 k2 k3 => ?_
  have k1 := k1 rfl
  refine Wp.aload_n 1 dl_463 rfl rfl ?_
  refine Wp.arg (i := i) (k := 1) rfl rfl k1 k2 h0 k3 hN2 (by omega) rfl dl_464 dl_465 dl_466 dl_467 dl_468 ?_
  refine Wp.arg (i := i) (k := 2) rfl rfl k1 k2 h0 k3 hN2 (by omega) rfl dl_469 dl_470 dl_471 dl_472 dl_473 ?_
  refine Wp.callV (A := [.int (xs (i + 1)), .int (xs (i + 2))]) (rest := [.int r]) (c_X11_stop h.tw68 e2) lk_law_49 h.tw68 dl_474 rfl (Nat.le_of_ble_eq_true rfl) (Nat.le_of_ble_eq_true rfl) (Nat.le_of_ble_eq_true rfl) (show n + 0 ≤ 600000 by omega) (show z + 0 ≤ 7302250 by omega) (fun _ => ?_)
  refine Wp.nz (n' := n) (z' := z) rfl rfl ?_
  refine Wp.sk (st' := [.int r, .int r]) rfl ?_
  refine Wp.wd (w' := (sh, I2, L1, R)) rfl ?_
  refine Wp.icmp_eq (tgt := 1552) dl_477 rfl (fun _ => ?_) (fun hne => (hne rfl).elim)
  exact kk _ _ _ _ _ _ h' (by omega) (by omega)
