/-! ===== the law, call by call ===== -/
set_option maxRecDepth 20000 in
set_option maxHeartbeats 4000000 in
theorem LC_0 {p : Program} {l : Launch} {e : Env} {s : State} {m : MethodId} {args : Array Value} {below : List Frame} {meth : Method} {c : Code} {H : Heap} {locs : List Loc} {c0 s0 : Nat} {Q : State → Prop} {ls : Array Slot} {Z : ZT} {I : Mem} {b0 L i : Nat} {xs : Nat → Int32} (b : BB p s m args c RL cL_law 9 Z) (hfl : l.stackTraces = false) (hX : va_X b0 L xs s s.heap) (hbl : b0 < s.heap.size) (hZ : zB Z = s.heap.size ∧ zH Z = s.heap) (hi : i + 6 ≤ L) (hL : L < 100000) (hH : HH Z I H) (hlo : ∀ q ∈ locs, zN Z q.base) (hl : lv_has ls 9 [(0, .ref b0), (1, vr Z 0 0), (2, vr Z 26 0), (3, vr Z 29 0), (4, vi (i : Int))]) {r1 : Int} {r2 : Int} {J K : Mem} (h1 : f_PR_feed ((xs (i + 1)).toInt) ((xs (i + 2)).toInt) ((xs (i + 3)).toInt) ((xs (i + 4)).toInt) ((xs (i + 5)).toInt) I = some (r1, J)) (h2 : f_M_feed ((xs (i + 1)).toInt) ((xs (i + 2)).toInt) ((xs (i + 3)).toInt) ((xs (i + 4)).toInt) ((xs (i + 5)).toInt) J = some (r2, K)) (hmc : c0 + dC I K ≤ 601024) (hms : s0 + dS I K ≤ 7293034)
    (kk : ∀ (H : Heap) (locs : List Loc) (ls : Array Slot), HH Z K H → (∀ q ∈ locs, zN Z q.base) → lv_has ls 9 [(0, .ref b0), (1, vr Z 0 0), (2, vr Z 26 0), (3, vr Z 29 0), (4, vi (i : Int))] → W p l e room_1 s m args below meth c H locs (c0 + dC I K) (s0 + dS I K) Q (F0 m 1210 ls [])) : W p l e room_1 s m args below meth c H locs c0 s0 Q (F0 m 212 ls []) := by
  have hcK : cle J K := (R_M_feed Z ((xs (i + 1)).toInt) ((xs (i + 2)).toInt) ((xs (i + 3)).toInt) ((xs (i + 4)).toInt) ((xs (i + 5)).toInt) J _ _ h2).1
  refine lv_aload_n b.1 b.2.1 dL_law_212 rfl (lv_at hl 1 rfl) ?_
  refine lv_aload_n b.1 b.2.1 dL_law_213 rfl (lv_at hl 0 rfl) ?_
  refine lv_iload b.1 b.2.1 dL_law_214 (lv_at hl 4 rfl) ?_
  refine lv_iconst (v := Int32.ofInt 1) b.1 b.2.1 dL_law_216 rfl ?_
  refine lx_iadd b dL_law_217 ?_
  refine lx_sld (q := i + 1) b hX hbl hZ hH hlo (w32_of (by omega) (by omega)) (by omega) dL_law_218 ?_
  refine lv_aload_n b.1 b.2.1 dL_law_219 rfl (lv_at hl 0 rfl) ?_
  refine lv_iload b.1 b.2.1 dL_law_220 (lv_at hl 4 rfl) ?_
  refine lv_iconst (v := Int32.ofInt 2) b.1 b.2.1 dL_law_222 rfl ?_
  refine lx_iadd b dL_law_223 ?_
  refine lx_sld (q := i + 2) b hX hbl hZ hH hlo (w32_of (by omega) (by omega)) (by omega) dL_law_224 ?_
  refine lv_aload_n b.1 b.2.1 dL_law_225 rfl (lv_at hl 0 rfl) ?_
  refine lv_iload b.1 b.2.1 dL_law_226 (lv_at hl 4 rfl) ?_
  refine lv_iconst (v := Int32.ofInt 3) b.1 b.2.1 dL_law_228 rfl ?_
  refine lx_iadd b dL_law_229 ?_
  refine lx_sld (q := i + 3) b hX hbl hZ hH hlo (w32_of (by omega) (by omega)) (by omega) dL_law_230 ?_
  refine lv_aload_n b.1 b.2.1 dL_law_231 rfl (lv_at hl 0 rfl) ?_
  refine lv_iload b.1 b.2.1 dL_law_232 (lv_at hl 4 rfl) ?_
  refine lv_iconst (v := Int32.ofInt 4) b.1 b.2.1 dL_law_234 rfl ?_
  refine lx_iadd b dL_law_235 ?_
  refine lx_sld (q := i + 4) b hX hbl hZ hH hlo (w32_of (by omega) (by omega)) (by omega) dL_law_236 ?_
  refine lv_aload_n b.1 b.2.1 dL_law_237 rfl (lv_at hl 0 rfl) ?_
  refine lv_iload b.1 b.2.1 dL_law_238 (lv_at hl 4 rfl) ?_
  refine lv_iconst (v := Int32.ofInt 5) b.1 b.2.1 dL_law_240 rfl ?_
  refine lx_iadd b dL_law_241 ?_
  refine lx_sld (q := i + 5) b hX hbl hZ hH hlo (w32_of (by omega) (by omega)) (by omega) dL_law_242 ?_
  have R1 := R_PR_feed Z ((xs (i + 1)).toInt) ((xs (i + 2)).toInt) ((xs (i + 3)).toInt) ((xs (i + 4)).toInt) ((xs (i + 5)).toInt) I _ _ h1
  have hc1 : cle I J := R1.1
  refine lx_callV (n := 5) (As := [vi (xs (i + 1)).toInt, vi (xs (i + 2)).toInt, vi (xs (i + 3)).toInt, vi (xs (i + 4)).toInt, vi (xs (i + 5)).toInt]) (rest := []) b hfl hl.1 hH R1 ⟨(li_2 134 (by decide +kernel) (by decide +kernel)), (li_2 132 (by decide +kernel) (by decide +kernel)), (li_2 133 (by decide +kernel) (by decide +kernel)), (li_1 1 (by decide +kernel) (by decide +kernel)), by decide +kernel⟩ (fun gr => ob_0) rfl rfl ⟨Nat.le_of_ble_eq_true rfl, Nat.le_of_ble_eq_true rfl⟩ (Nat.le_of_ble_eq_true rfl) ⟨show c0 + dC I J ≤ 601024 by have q1 := dC_add hc1 hcK; have q2 := dC_self K; omega, show s0 + dS I J ≤ 7293034 by have q1 := dC_add hc1 hcK; have q2 := dC_self K; omega⟩ (li_2 131 (by decide +kernel) (by decide +kernel)) hlo dL_law_243 (fun H locs hH hlo => ?_)
  refine lv_pop b.1 b.2.1 dL_law_246 rfl ?_
  refine lv_aload_n b.1 b.2.1 dL_law_247 rfl (lv_at hl 2 rfl) ?_
  refine lv_aload_n b.1 b.2.1 dL_law_248 rfl (lv_at hl 0 rfl) ?_
  refine lv_iload b.1 b.2.1 dL_law_249 (lv_at hl 4 rfl) ?_
  refine lv_iconst (v := Int32.ofInt 1) b.1 b.2.1 dL_law_251 rfl ?_
  refine lx_iadd b dL_law_252 ?_
  refine lx_sld (q := i + 1) b hX hbl hZ hH hlo (w32_of (by omega) (by omega)) (by omega) dL_law_253 ?_
  refine lv_aload_n b.1 b.2.1 dL_law_254 rfl (lv_at hl 0 rfl) ?_
  refine lv_iload b.1 b.2.1 dL_law_255 (lv_at hl 4 rfl) ?_
  refine lv_iconst (v := Int32.ofInt 2) b.1 b.2.1 dL_law_257 rfl ?_
  refine lx_iadd b dL_law_258 ?_
  refine lx_sld (q := i + 2) b hX hbl hZ hH hlo (w32_of (by omega) (by omega)) (by omega) dL_law_259 ?_
  refine lv_aload_n b.1 b.2.1 dL_law_260 rfl (lv_at hl 0 rfl) ?_
  refine lv_iload b.1 b.2.1 dL_law_261 (lv_at hl 4 rfl) ?_
  refine lv_iconst (v := Int32.ofInt 3) b.1 b.2.1 dL_law_263 rfl ?_
  refine lx_iadd b dL_law_264 ?_
  refine lx_sld (q := i + 3) b hX hbl hZ hH hlo (w32_of (by omega) (by omega)) (by omega) dL_law_265 ?_
  refine lv_aload_n b.1 b.2.1 dL_law_266 rfl (lv_at hl 0 rfl) ?_
  refine lv_iload b.1 b.2.1 dL_law_267 (lv_at hl 4 rfl) ?_
  refine lv_iconst (v := Int32.ofInt 4) b.1 b.2.1 dL_law_269 rfl ?_
  refine lx_iadd b dL_law_270 ?_
  refine lx_sld (q := i + 4) b hX hbl hZ hH hlo (w32_of (by omega) (by omega)) (by omega) dL_law_271 ?_
  refine lv_aload_n b.1 b.2.1 dL_law_272 rfl (lv_at hl 0 rfl) ?_
  refine lv_iload b.1 b.2.1 dL_law_273 (lv_at hl 4 rfl) ?_
  refine lv_iconst (v := Int32.ofInt 5) b.1 b.2.1 dL_law_275 rfl ?_
  refine lx_iadd b dL_law_276 ?_
  refine lx_sld (q := i + 5) b hX hbl hZ hH hlo (w32_of (by omega) (by omega)) (by omega) dL_law_277 ?_
  have R2 := R_M_feed Z ((xs (i + 1)).toInt) ((xs (i + 2)).toInt) ((xs (i + 3)).toInt) ((xs (i + 4)).toInt) ((xs (i + 5)).toInt) J _ _ h2
  have hc2 : cle J K := R2.1
  refine lx_callV (n := 5) (As := [vi (xs (i + 1)).toInt, vi (xs (i + 2)).toInt, vi (xs (i + 3)).toInt, vi (xs (i + 4)).toInt, vi (xs (i + 5)).toInt]) (rest := []) b hfl hl.1 hH R2 ⟨(li_7 190 (by decide +kernel) (by decide +kernel)), (li_7 188 (by decide +kernel) (by decide +kernel)), (li_7 189 (by decide +kernel) (by decide +kernel)), (li_1 16 (by decide +kernel) (by decide +kernel)), by decide +kernel⟩ (fun gr => ob_26) rfl rfl ⟨Nat.le_of_ble_eq_true rfl, Nat.le_of_ble_eq_true rfl⟩ (Nat.le_of_ble_eq_true rfl) ⟨show c0 + dC I J + dC J K ≤ 601024 by have q1 := dC_add hc1 hc2; have q2 := dC_self K; omega, show s0 + dS I J + dS J K ≤ 7293034 by have q1 := dC_add hc1 hc2; have q2 := dC_self K; omega⟩ (li_7 187 (by decide +kernel) (by decide +kernel)) hlo dL_law_278 (fun H locs hH hlo => ?_)
  refine lv_pop b.1 b.2.1 dL_law_281 rfl ?_
  refine lv_goto (tgt := 1210) b.1 b.2.1 dL_law_282 (by decide) ?_
  refine W.widen (k := c0 + dC I K) (n := s0 + dS I K) (show c0 + dC I J + dC J K ≤ c0 + dC I K by have q1 := dC_add hc1 hc2; have q2 := dC_self K; omega) (show s0 + dS I J + dS J K ≤ s0 + dS I K by have q1 := dC_add hc1 hc2; have q2 := dC_self K; omega) ?_
  exact kk H locs ls hH hlo (lv_sub hl [0, 1, 2, 3, 4] rfl)
set_option maxRecDepth 20000 in
set_option maxHeartbeats 4000000 in
theorem LC_1 {p : Program} {l : Launch} {e : Env} {s : State} {m : MethodId} {args : Array Value} {below : List Frame} {meth : Method} {c : Code} {H : Heap} {locs : List Loc} {c0 s0 : Nat} {Q : State → Prop} {ls : Array Slot} {Z : ZT} {I : Mem} {b0 L i : Nat} {xs : Nat → Int32} (b : BB p s m args c RL cL_law 9 Z) (hfl : l.stackTraces = false) (hX : va_X b0 L xs s s.heap) (hbl : b0 < s.heap.size) (hZ : zB Z = s.heap.size ∧ zH Z = s.heap) (hi : i + 6 ≤ L) (hL : L < 100000) (hH : HH Z I H) (hlo : ∀ q ∈ locs, zN Z q.base) (hl : lv_has ls 9 [(0, .ref b0), (1, vr Z 0 0), (2, vr Z 26 0), (3, vr Z 29 0), (4, vi (i : Int))]) {r1 : Int} {r2 : Int} {J K : Mem} (h1 : f_PR_load  I = some (r1, J)) (h2 : f_M_load  J = some (r2, K)) (hmc : c0 + dC I K ≤ 601024) (hms : s0 + dS I K ≤ 7293034)
    (kk : ∀ (H : Heap) (locs : List Loc) (ls : Array Slot), HH Z K H → (∀ q ∈ locs, zN Z q.base) → lv_has ls 9 [(0, .ref b0), (1, vr Z 0 0), (2, vr Z 26 0), (3, vr Z 29 0), (4, vi (i : Int))] → W p l e room_1 s m args below meth c H locs (c0 + dC I K) (s0 + dS I K) Q (F0 m 1210 ls [])) : W p l e room_1 s m args below meth c H locs c0 s0 Q (F0 m 285 ls []) := by
  have hcK : cle J K := (R_M_load Z  J _ _ h2).1
  refine lv_aload_n b.1 b.2.1 dL_law_285 rfl (lv_at hl 1 rfl) ?_
  have R1 := R_PR_load Z  I _ _ h1
  have hc1 : cle I J := R1.1
  refine lx_callV (n := 0) (As := []) (rest := []) b hfl hl.1 hH R1 ⟨(li_2 154 (by decide +kernel) (by decide +kernel)), (li_2 152 (by decide +kernel) (by decide +kernel)), (li_2 153 (by decide +kernel) (by decide +kernel)), (li_1 1 (by decide +kernel) (by decide +kernel)), by decide +kernel⟩ (fun gr => ob_0) rfl rfl ⟨Nat.le_of_ble_eq_true rfl, Nat.le_of_ble_eq_true rfl⟩ (Nat.le_of_ble_eq_true rfl) ⟨show c0 + dC I J ≤ 601024 by have q1 := dC_add hc1 hcK; have q2 := dC_self K; omega, show s0 + dS I J ≤ 7293034 by have q1 := dC_add hc1 hcK; have q2 := dC_self K; omega⟩ (li_2 151 (by decide +kernel) (by decide +kernel)) hlo dL_law_286 (fun H locs hH hlo => ?_)
  refine lv_pop b.1 b.2.1 dL_law_289 rfl ?_
  refine lv_aload_n b.1 b.2.1 dL_law_290 rfl (lv_at hl 2 rfl) ?_
  have R2 := R_M_load Z  J _ _ h2
  have hc2 : cle J K := R2.1
  refine lx_callV (n := 0) (As := []) (rest := []) b hfl hl.1 hH R2 ⟨(li_7 201 (by decide +kernel) (by decide +kernel)), (li_7 199 (by decide +kernel) (by decide +kernel)), (li_7 200 (by decide +kernel) (by decide +kernel)), (li_1 16 (by decide +kernel) (by decide +kernel)), by decide +kernel⟩ (fun gr => ob_26) rfl rfl ⟨Nat.le_of_ble_eq_true rfl, Nat.le_of_ble_eq_true rfl⟩ (Nat.le_of_ble_eq_true rfl) ⟨show c0 + dC I J + dC J K ≤ 601024 by have q1 := dC_add hc1 hc2; have q2 := dC_self K; omega, show s0 + dS I J + dS J K ≤ 7293034 by have q1 := dC_add hc1 hc2; have q2 := dC_self K; omega⟩ (li_7 198 (by decide +kernel) (by decide +kernel)) hlo dL_law_291 (fun H locs hH hlo => ?_)
  refine lv_pop b.1 b.2.1 dL_law_294 rfl ?_
  refine lv_goto (tgt := 1210) b.1 b.2.1 dL_law_295 (by decide) ?_
  refine W.widen (k := c0 + dC I K) (n := s0 + dS I K) (show c0 + dC I J + dC J K ≤ c0 + dC I K by have q1 := dC_add hc1 hc2; have q2 := dC_self K; omega) (show s0 + dS I J + dS J K ≤ s0 + dS I K by have q1 := dC_add hc1 hc2; have q2 := dC_self K; omega) ?_
  exact kk H locs ls hH hlo (lv_sub hl [0, 1, 2, 3, 4] rfl)
set_option maxRecDepth 20000 in
set_option maxHeartbeats 4000000 in
theorem LC_2 {p : Program} {l : Launch} {e : Env} {s : State} {m : MethodId} {args : Array Value} {below : List Frame} {meth : Method} {c : Code} {H : Heap} {locs : List Loc} {c0 s0 : Nat} {Q : State → Prop} {ls : Array Slot} {Z : ZT} {I : Mem} {b0 L i : Nat} {xs : Nat → Int32} (b : BB p s m args c RL cL_law 9 Z) (hfl : l.stackTraces = false) (hX : va_X b0 L xs s s.heap) (hbl : b0 < s.heap.size) (hZ : zB Z = s.heap.size ∧ zH Z = s.heap) (hi : i + 6 ≤ L) (hL : L < 100000) (hH : HH Z I H) (hlo : ∀ q ∈ locs, zN Z q.base) (hl : lv_has ls 9 [(0, .ref b0), (1, vr Z 0 0), (2, vr Z 26 0), (3, vr Z 29 0), (4, vi (i : Int))]) {r1 : Int} {r2 : Int} {J K : Mem} (h1 : f_PR_play  I = some (r1, J)) (h2 : f_M_play  J = some (r2, K)) (h3 : w32 r1 = w32 r2) (hmc : c0 + dC I K ≤ 601024) (hms : s0 + dS I K ≤ 7293034)
    (kk : ∀ (H : Heap) (locs : List Loc) (ls : Array Slot), HH Z K H → (∀ q ∈ locs, zN Z q.base) → lv_has ls 9 [(0, .ref b0), (1, vr Z 0 0), (2, vr Z 26 0), (3, vr Z 29 0), (4, vi (i : Int))] → W p l e room_1 s m args below meth c H locs (c0 + dC I K) (s0 + dS I K) Q (F0 m 1210 ls [])) : W p l e room_1 s m args below meth c H locs c0 s0 Q (F0 m 298 ls []) := by
  have hcK : cle J K := (R_M_play Z  J _ _ h2).1
  refine lv_aload_n b.1 b.2.1 dL_law_298 rfl (lv_at hl 1 rfl) ?_
  have R1 := R_PR_play Z  I _ _ h1
  have hc1 : cle I J := R1.1
  refine lx_callV (n := 0) (As := []) (rest := []) b hfl hl.1 hH R1 ⟨(li_3 185 (by decide +kernel) (by decide +kernel)), (li_3 183 (by decide +kernel) (by decide +kernel)), (li_3 184 (by decide +kernel) (by decide +kernel)), (li_1 1 (by decide +kernel) (by decide +kernel)), by decide +kernel⟩ (fun gr => ob_0) rfl rfl ⟨Nat.le_of_ble_eq_true rfl, Nat.le_of_ble_eq_true rfl⟩ (Nat.le_of_ble_eq_true rfl) ⟨show c0 + dC I J ≤ 601024 by have q1 := dC_add hc1 hcK; have q2 := dC_self K; omega, show s0 + dS I J ≤ 7293034 by have q1 := dC_add hc1 hcK; have q2 := dC_self K; omega⟩ (li_3 182 (by decide +kernel) (by decide +kernel)) hlo dL_law_299 (fun H locs hH hlo => ?_)
  refine lv_aload_n b.1 b.2.1 dL_law_302 rfl (lv_at hl 2 rfl) ?_
  have R2 := R_M_play Z  J _ _ h2
  have hc2 : cle J K := R2.1
  refine lx_callV (n := 0) (As := []) (rest := [vi r1]) b hfl hl.1 hH R2 ⟨(li_8 78 (by decide +kernel) (by decide +kernel)), (li_8 76 (by decide +kernel) (by decide +kernel)), (li_8 77 (by decide +kernel) (by decide +kernel)), (li_1 16 (by decide +kernel) (by decide +kernel)), by decide +kernel⟩ (fun gr => ob_26) rfl rfl ⟨Nat.le_of_ble_eq_true rfl, Nat.le_of_ble_eq_true rfl⟩ (Nat.le_of_ble_eq_true rfl) ⟨show c0 + dC I J + dC J K ≤ 601024 by have q1 := dC_add hc1 hc2; have q2 := dC_self K; omega, show s0 + dS I J + dS J K ≤ 7293034 by have q1 := dC_add hc1 hc2; have q2 := dC_self K; omega⟩ (li_8 75 (by decide +kernel) (by decide +kernel)) hlo dL_law_303 (fun H locs hH hlo => ?_)
  refine lx_eq (tgt := 1210) b h3 dL_law_306 (by decide) ?_
  refine W.widen (k := c0 + dC I K) (n := s0 + dS I K) (show c0 + dC I J + dC J K ≤ c0 + dC I K by have q1 := dC_add hc1 hc2; have q2 := dC_self K; omega) (show s0 + dS I J + dS J K ≤ s0 + dS I K by have q1 := dC_add hc1 hc2; have q2 := dC_self K; omega) ?_
  exact kk H locs ls hH hlo (lv_sub hl [0, 1, 2, 3, 4] rfl)
set_option maxRecDepth 20000 in
set_option maxHeartbeats 4000000 in
theorem LC_3 {p : Program} {l : Launch} {e : Env} {s : State} {m : MethodId} {args : Array Value} {below : List Frame} {meth : Method} {c : Code} {H : Heap} {locs : List Loc} {c0 s0 : Nat} {Q : State → Prop} {ls : Array Slot} {Z : ZT} {I : Mem} {b0 L i : Nat} {xs : Nat → Int32} (b : BB p s m args c RL cL_law 9 Z) (hfl : l.stackTraces = false) (hX : va_X b0 L xs s s.heap) (hbl : b0 < s.heap.size) (hZ : zB Z = s.heap.size ∧ zH Z = s.heap) (hi : i + 6 ≤ L) (hL : L < 100000) (hH : HH Z I H) (hlo : ∀ q ∈ locs, zN Z q.base) (hl : lv_has ls 9 [(0, .ref b0), (1, vr Z 0 0), (2, vr Z 26 0), (3, vr Z 29 0), (4, vi (i : Int))]) {r1 : Int} {r2 : Int} {J K : Mem} (h1 : f_PR_errorPosition  I = some (r1, J)) (h2 : f_M_errorPosition  J = some (r2, K)) (hmc : c0 + dC I K ≤ 601024) (hms : s0 + dS I K ≤ 7293034)
    (kk : ∀ (H : Heap) (locs : List Loc) (ls : Array Slot), HH Z K H → (∀ q ∈ locs, zN Z q.base) → lv_has ls 9 [(0, .ref b0), (1, vr Z 0 0), (2, vr Z 26 0), (3, vr Z 29 0), (4, vi (i : Int))] → W p l e room_1 s m args below meth c H locs (c0 + dC I K) (s0 + dS I K) Q (F0 m 1210 ls [])) : W p l e room_1 s m args below meth c H locs c0 s0 Q (F0 m 311 ls []) := by
  have hcK : cle J K := (R_M_errorPosition Z  J _ _ h2).1
  refine lv_aload_n b.1 b.2.1 dL_law_311 rfl (lv_at hl 1 rfl) ?_
  have R1 := R_PR_errorPosition Z  I _ _ h1
  have hc1 : cle I J := R1.1
  refine lx_callV (n := 0) (As := []) (rest := []) b hfl hl.1 hH R1 ⟨(li_5 5 (by decide +kernel) (by decide +kernel)), (li_5 3 (by decide +kernel) (by decide +kernel)), (li_5 4 (by decide +kernel) (by decide +kernel)), (li_1 1 (by decide +kernel) (by decide +kernel)), by decide +kernel⟩ (fun gr => ob_0) rfl rfl ⟨Nat.le_of_ble_eq_true rfl, Nat.le_of_ble_eq_true rfl⟩ (Nat.le_of_ble_eq_true rfl) ⟨show c0 + dC I J ≤ 601024 by have q1 := dC_add hc1 hcK; have q2 := dC_self K; omega, show s0 + dS I J ≤ 7293034 by have q1 := dC_add hc1 hcK; have q2 := dC_self K; omega⟩ (li_5 2 (by decide +kernel) (by decide +kernel)) hlo dL_law_312 (fun H locs hH hlo => ?_)
  refine lv_pop b.1 b.2.1 dL_law_315 rfl ?_
  refine lv_aload_n b.1 b.2.1 dL_law_316 rfl (lv_at hl 2 rfl) ?_
  have R2 := R_M_errorPosition Z  J _ _ h2
  have hc2 : cle J K := R2.1
  refine lx_callV (n := 0) (As := []) (rest := []) b hfl hl.1 hH R2 ⟨(li_8 74 (by decide +kernel) (by decide +kernel)), (li_8 72 (by decide +kernel) (by decide +kernel)), (li_8 73 (by decide +kernel) (by decide +kernel)), (li_1 16 (by decide +kernel) (by decide +kernel)), by decide +kernel⟩ (fun gr => ob_26) rfl rfl ⟨Nat.le_of_ble_eq_true rfl, Nat.le_of_ble_eq_true rfl⟩ (Nat.le_of_ble_eq_true rfl) ⟨show c0 + dC I J + dC J K ≤ 601024 by have q1 := dC_add hc1 hc2; have q2 := dC_self K; omega, show s0 + dS I J + dS J K ≤ 7293034 by have q1 := dC_add hc1 hc2; have q2 := dC_self K; omega⟩ (li_8 71 (by decide +kernel) (by decide +kernel)) hlo dL_law_317 (fun H locs hH hlo => ?_)
  refine lv_pop b.1 b.2.1 dL_law_320 rfl ?_
  refine lv_goto (tgt := 1210) b.1 b.2.1 dL_law_321 (by decide) ?_
  refine W.widen (k := c0 + dC I K) (n := s0 + dS I K) (show c0 + dC I J + dC J K ≤ c0 + dC I K by have q1 := dC_add hc1 hc2; have q2 := dC_self K; omega) (show s0 + dS I J + dS J K ≤ s0 + dS I K by have q1 := dC_add hc1 hc2; have q2 := dC_self K; omega) ?_
  exact kk H locs ls hH hlo (lv_sub hl [0, 1, 2, 3, 4] rfl)
set_option maxRecDepth 20000 in
set_option maxHeartbeats 4000000 in
theorem LC_4 {p : Program} {l : Launch} {e : Env} {s : State} {m : MethodId} {args : Array Value} {below : List Frame} {meth : Method} {c : Code} {H : Heap} {locs : List Loc} {c0 s0 : Nat} {Q : State → Prop} {ls : Array Slot} {Z : ZT} {I : Mem} {b0 L i : Nat} {xs : Nat → Int32} (b : BB p s m args c RL cL_law 9 Z) (hfl : l.stackTraces = false) (hX : va_X b0 L xs s s.heap) (hbl : b0 < s.heap.size) (hZ : zB Z = s.heap.size ∧ zH Z = s.heap) (hi : i + 6 ≤ L) (hL : L < 100000) (hH : HH Z I H) (hlo : ∀ q ∈ locs, zN Z q.base) (hl : lv_has ls 9 [(0, .ref b0), (1, vr Z 0 0), (2, vr Z 26 0), (3, vr Z 29 0), (4, vi (i : Int))]) {r1 : Int} {r2 : Int} {J K : Mem} (h1 : f_L_size ((xs (i + 1)).toInt) I = some (r1, J)) (h2 : f_M_size ((xs (i + 1)).toInt) J = some (r2, K)) (hmc : c0 + dC I K ≤ 601024) (hms : s0 + dS I K ≤ 7293034)
    (kk : ∀ (H : Heap) (locs : List Loc) (ls : Array Slot), HH Z K H → (∀ q ∈ locs, zN Z q.base) → lv_has ls 9 [(0, .ref b0), (1, vr Z 0 0), (2, vr Z 26 0), (3, vr Z 29 0), (4, vi (i : Int))] → W p l e room_1 s m args below meth c H locs (c0 + dC I K) (s0 + dS I K) Q (F0 m 1210 ls [])) : W p l e room_1 s m args below meth c H locs c0 s0 Q (F0 m 324 ls []) := by
  have hcK : cle J K := (R_M_size Z ((xs (i + 1)).toInt) J _ _ h2).1
  refine lv_aload_n b.1 b.2.1 dL_law_324 rfl (lv_at hl 1 rfl) ?_
  refine lv_aload_n b.1 b.2.1 dL_law_325 rfl (lv_at hl 0 rfl) ?_
  refine lv_iload b.1 b.2.1 dL_law_326 (lv_at hl 4 rfl) ?_
  refine lv_iconst (v := Int32.ofInt 1) b.1 b.2.1 dL_law_328 rfl ?_
  refine lx_iadd b dL_law_329 ?_
  refine lx_sld (q := i + 1) b hX hbl hZ hH hlo (w32_of (by omega) (by omega)) (by omega) dL_law_330 ?_
  refine lv_aload_n b.1 b.2.1 dL_law_331 rfl (lv_at hl 3 rfl) ?_
  have R1 := R_L_size Z ((xs (i + 1)).toInt) I _ _ h1
  have hc1 : cle I J := R1.1
  refine lx_callS (n := 3) (As := [vr Z 0 0, vi (xs (i + 1)).toInt, vr Z 29 0]) (rest := []) b hfl hl.1 hH R1 (li_5 136 (by decide +kernel) (by decide +kernel)) (li_5 135 (by decide +kernel) (by decide +kernel)) (li_1 0 (by decide +kernel) (by decide +kernel)) (by decide +kernel) rfl rfl ⟨Nat.le_of_ble_eq_true rfl, Nat.le_of_ble_eq_true rfl⟩ (Nat.le_of_ble_eq_true rfl) ⟨show c0 + dC I J ≤ 601024 by have q1 := dC_add hc1 hcK; have q2 := dC_self K; omega, show s0 + dS I J ≤ 7293034 by have q1 := dC_add hc1 hcK; have q2 := dC_self K; omega⟩ (li_5 134 (by decide +kernel) (by decide +kernel)) hlo dL_law_332 (fun H locs hH hlo => ?_)
  refine lv_istore (lv' := [(5, vi r1), (0, .ref b0), (1, vr Z 0 0), (2, vr Z 26 0), (3, vr Z 29 0), (4, vi (i : Int))]) b.1 b.2.1 dL_law_335 hl (by decide) rfl (fun ls hl => ?_)
  refine lv_aload_n b.1 b.2.1 dL_law_337 rfl (lv_at hl 3 rfl) ?_
  refine lv_aload_n b.1 b.2.1 dL_law_338 rfl (lv_at hl 1 rfl) ?_
  refine lv_iload b.1 b.2.1 dL_law_339 (lv_at hl 5 rfl) ?_
  refine lv_iconst (v := Int32.ofInt 1) b.1 b.2.1 dL_law_341 rfl ?_
  refine lx_iadd b dL_law_342 ?_
  refine lx_sld (q := i + 1) b hX hbl hZ hH hlo (w32_of (by omega) (by omega)) (by omega) dL_law_343 ?_
  have R2 := R_M_size Z ((xs (i + 1)).toInt) J _ _ h2
  have hc2 : cle J K := R2.1
  refine lx_callV (n := 1) (As := [vi (xs (i + 1)).toInt]) (rest := []) b hfl hl.1 hH R2 ⟨(li_8 235 (by decide +kernel) (by decide +kernel)), (li_8 233 (by decide +kernel) (by decide +kernel)), (li_8 234 (by decide +kernel) (by decide +kernel)), (li_1 16 (by decide +kernel) (by decide +kernel)), by decide +kernel⟩ (fun gr => ob_26) rfl rfl ⟨Nat.le_of_ble_eq_true rfl, Nat.le_of_ble_eq_true rfl⟩ (Nat.le_of_ble_eq_true rfl) ⟨show c0 + dC I J + dC J K ≤ 601024 by have q1 := dC_add hc1 hc2; have q2 := dC_self K; omega, show s0 + dS I J + dS J K ≤ 7293034 by have q1 := dC_add hc1 hc2; have q2 := dC_self K; omega⟩ (li_8 232 (by decide +kernel) (by decide +kernel)) hlo dL_law_344 (fun H locs hH hlo => ?_)
  refine lv_istore (lv' := [(6, vi r2), (5, vi r1), (0, .ref b0), (1, vr Z 0 0), (2, vr Z 26 0), (3, vr Z 29 0), (4, vi (i : Int))]) b.1 b.2.1 dL_law_347 hl (by decide) rfl (fun ls hl => ?_)
  refine lv_goto (tgt := 1210) b.1 b.2.1 dL_law_349 (by decide) ?_
  refine W.widen (k := c0 + dC I K) (n := s0 + dS I K) (show c0 + dC I J + dC J K ≤ c0 + dC I K by have q1 := dC_add hc1 hc2; have q2 := dC_self K; omega) (show s0 + dS I J + dS J K ≤ s0 + dS I K by have q1 := dC_add hc1 hc2; have q2 := dC_self K; omega) ?_
  exact kk H locs ls hH hlo (lv_sub hl [2, 3, 4, 5, 6] rfl)
set_option maxRecDepth 20000 in
set_option maxHeartbeats 4000000 in
theorem LC_5 {p : Program} {l : Launch} {e : Env} {s : State} {m : MethodId} {args : Array Value} {below : List Frame} {meth : Method} {c : Code} {H : Heap} {locs : List Loc} {c0 s0 : Nat} {Q : State → Prop} {ls : Array Slot} {Z : ZT} {I : Mem} {b0 L i : Nat} {xs : Nat → Int32} (b : BB p s m args c RL cL_law 9 Z) (hfl : l.stackTraces = false) (hX : va_X b0 L xs s s.heap) (hbl : b0 < s.heap.size) (hZ : zB Z = s.heap.size ∧ zH Z = s.heap) (hi : i + 6 ≤ L) (hL : L < 100000) (hH : HH Z I H) (hlo : ∀ q ∈ locs, zN Z q.base) (hl : lv_has ls 9 [(0, .ref b0), (1, vr Z 0 0), (2, vr Z 26 0), (3, vr Z 29 0), (4, vi (i : Int))]) {r1 : Int} {r2 : Int} {J K : Mem} (h1 : f_L_isRule ((xs (i + 1)).toInt) I = some (r1, J)) (h2 : f_M_isRule ((xs (i + 1)).toInt) J = some (r2, K)) (hmc : c0 + dC I K ≤ 601024) (hms : s0 + dS I K ≤ 7293034)
    (kk : ∀ (H : Heap) (locs : List Loc) (ls : Array Slot), HH Z K H → (∀ q ∈ locs, zN Z q.base) → lv_has ls 9 [(0, .ref b0), (1, vr Z 0 0), (2, vr Z 26 0), (3, vr Z 29 0), (4, vi (i : Int))] → W p l e room_1 s m args below meth c H locs (c0 + dC I K) (s0 + dS I K) Q (F0 m 1210 ls [])) : W p l e room_1 s m args below meth c H locs c0 s0 Q (F0 m 352 ls []) := by
  have hcK : cle J K := (R_M_isRule Z ((xs (i + 1)).toInt) J _ _ h2).1
  refine lv_aload_n b.1 b.2.1 dL_law_352 rfl (lv_at hl 1 rfl) ?_
  refine lv_aload_n b.1 b.2.1 dL_law_353 rfl (lv_at hl 0 rfl) ?_
  refine lv_iload b.1 b.2.1 dL_law_354 (lv_at hl 4 rfl) ?_
  refine lv_iconst (v := Int32.ofInt 1) b.1 b.2.1 dL_law_356 rfl ?_
  refine lx_iadd b dL_law_357 ?_
  refine lx_sld (q := i + 1) b hX hbl hZ hH hlo (w32_of (by omega) (by omega)) (by omega) dL_law_358 ?_
  refine lv_aload_n b.1 b.2.1 dL_law_359 rfl (lv_at hl 3 rfl) ?_
  have R1 := R_L_isRule Z ((xs (i + 1)).toInt) I _ _ h1
  have hc1 : cle I J := R1.1
  refine lx_callS (n := 3) (As := [vr Z 0 0, vi (xs (i + 1)).toInt, vr Z 29 0]) (rest := []) b hfl hl.1 hH R1 (li_6 12 (by decide +kernel) (by decide +kernel)) (li_6 11 (by decide +kernel) (by decide +kernel)) (li_1 0 (by decide +kernel) (by decide +kernel)) (by decide +kernel) rfl rfl ⟨Nat.le_of_ble_eq_true rfl, Nat.le_of_ble_eq_true rfl⟩ (Nat.le_of_ble_eq_true rfl) ⟨show c0 + dC I J ≤ 601024 by have q1 := dC_add hc1 hcK; have q2 := dC_self K; omega, show s0 + dS I J ≤ 7293034 by have q1 := dC_add hc1 hcK; have q2 := dC_self K; omega⟩ (li_6 10 (by decide +kernel) (by decide +kernel)) hlo dL_law_360 (fun H locs hH hlo => ?_)
  refine lv_istore (lv' := [(5, vi r1), (0, .ref b0), (1, vr Z 0 0), (2, vr Z 26 0), (3, vr Z 29 0), (4, vi (i : Int))]) b.1 b.2.1 dL_law_363 hl (by decide) rfl (fun ls hl => ?_)
  refine lv_aload_n b.1 b.2.1 dL_law_365 rfl (lv_at hl 3 rfl) ?_
  refine lv_aload_n b.1 b.2.1 dL_law_366 rfl (lv_at hl 1 rfl) ?_
  refine lv_iload b.1 b.2.1 dL_law_367 (lv_at hl 5 rfl) ?_
  refine lv_iconst (v := Int32.ofInt 1) b.1 b.2.1 dL_law_369 rfl ?_
  refine lx_iadd b dL_law_370 ?_
  refine lx_sld (q := i + 1) b hX hbl hZ hH hlo (w32_of (by omega) (by omega)) (by omega) dL_law_371 ?_
  have R2 := R_M_isRule Z ((xs (i + 1)).toInt) J _ _ h2
  have hc2 : cle J K := R2.1
  refine lx_callV (n := 1) (As := [vi (xs (i + 1)).toInt]) (rest := []) b hfl hl.1 hH R2 ⟨(li_9 31 (by decide +kernel) (by decide +kernel)), (li_9 29 (by decide +kernel) (by decide +kernel)), (li_9 30 (by decide +kernel) (by decide +kernel)), (li_1 16 (by decide +kernel) (by decide +kernel)), by decide +kernel⟩ (fun gr => ob_26) rfl rfl ⟨Nat.le_of_ble_eq_true rfl, Nat.le_of_ble_eq_true rfl⟩ (Nat.le_of_ble_eq_true rfl) ⟨show c0 + dC I J + dC J K ≤ 601024 by have q1 := dC_add hc1 hc2; have q2 := dC_self K; omega, show s0 + dS I J + dS J K ≤ 7293034 by have q1 := dC_add hc1 hc2; have q2 := dC_self K; omega⟩ (li_9 28 (by decide +kernel) (by decide +kernel)) hlo dL_law_372 (fun H locs hH hlo => ?_)
  refine lv_istore (lv' := [(6, vi r2), (5, vi r1), (0, .ref b0), (1, vr Z 0 0), (2, vr Z 26 0), (3, vr Z 29 0), (4, vi (i : Int))]) b.1 b.2.1 dL_law_375 hl (by decide) rfl (fun ls hl => ?_)
  refine lv_goto (tgt := 1210) b.1 b.2.1 dL_law_377 (by decide) ?_
  refine W.widen (k := c0 + dC I K) (n := s0 + dS I K) (show c0 + dC I J + dC J K ≤ c0 + dC I K by have q1 := dC_add hc1 hc2; have q2 := dC_self K; omega) (show s0 + dS I J + dS J K ≤ s0 + dS I K by have q1 := dC_add hc1 hc2; have q2 := dC_self K; omega) ?_
  exact kk H locs ls hH hlo (lv_sub hl [2, 3, 4, 5, 6] rfl)
set_option maxRecDepth 20000 in
set_option maxHeartbeats 4000000 in
theorem LC_6 {p : Program} {l : Launch} {e : Env} {s : State} {m : MethodId} {args : Array Value} {below : List Frame} {meth : Method} {c : Code} {H : Heap} {locs : List Loc} {c0 s0 : Nat} {Q : State → Prop} {ls : Array Slot} {Z : ZT} {I : Mem} {b0 L i : Nat} {xs : Nat → Int32} (b : BB p s m args c RL cL_law 9 Z) (hfl : l.stackTraces = false) (hX : va_X b0 L xs s s.heap) (hbl : b0 < s.heap.size) (hZ : zB Z = s.heap.size ∧ zH Z = s.heap) (hi : i + 6 ≤ L) (hL : L < 100000) (hH : HH Z I H) (hlo : ∀ q ∈ locs, zN Z q.base) (hl : lv_has ls 9 [(0, .ref b0), (1, vr Z 0 0), (2, vr Z 26 0), (3, vr Z 29 0), (4, vi (i : Int))]) {r1 : Int} {r2 : Int} {J K : Mem} (h1 : f_L_rule ((xs (i + 1)).toInt) ((xs (i + 2)).toInt) I = some (r1, J)) (h2 : f_M_rule ((xs (i + 1)).toInt) ((xs (i + 2)).toInt) J = some (r2, K)) (hmc : c0 + dC I K ≤ 601024) (hms : s0 + dS I K ≤ 7293034)
    (kk : ∀ (H : Heap) (locs : List Loc) (ls : Array Slot), HH Z K H → (∀ q ∈ locs, zN Z q.base) → lv_has ls 9 [(0, .ref b0), (1, vr Z 0 0), (2, vr Z 26 0), (3, vr Z 29 0), (4, vi (i : Int))] → W p l e room_1 s m args below meth c H locs (c0 + dC I K) (s0 + dS I K) Q (F0 m 1210 ls [])) : W p l e room_1 s m args below meth c H locs c0 s0 Q (F0 m 380 ls []) := by
  have hcK : cle J K := (R_M_rule Z ((xs (i + 1)).toInt) ((xs (i + 2)).toInt) J _ _ h2).1
  refine lv_aload_n b.1 b.2.1 dL_law_380 rfl (lv_at hl 1 rfl) ?_
  refine lv_aload_n b.1 b.2.1 dL_law_381 rfl (lv_at hl 0 rfl) ?_
  refine lv_iload b.1 b.2.1 dL_law_382 (lv_at hl 4 rfl) ?_
  refine lv_iconst (v := Int32.ofInt 1) b.1 b.2.1 dL_law_384 rfl ?_
  refine lx_iadd b dL_law_385 ?_
  refine lx_sld (q := i + 1) b hX hbl hZ hH hlo (w32_of (by omega) (by omega)) (by omega) dL_law_386 ?_
  refine lv_aload_n b.1 b.2.1 dL_law_387 rfl (lv_at hl 0 rfl) ?_
  refine lv_iload b.1 b.2.1 dL_law_388 (lv_at hl 4 rfl) ?_
  refine lv_iconst (v := Int32.ofInt 2) b.1 b.2.1 dL_law_390 rfl ?_
  refine lx_iadd b dL_law_391 ?_
  refine lx_sld (q := i + 2) b hX hbl hZ hH hlo (w32_of (by omega) (by omega)) (by omega) dL_law_392 ?_
  refine lv_aload_n b.1 b.2.1 dL_law_393 rfl (lv_at hl 3 rfl) ?_
  have R1 := R_L_rule Z ((xs (i + 1)).toInt) ((xs (i + 2)).toInt) I _ _ h1
  have hc1 : cle I J := R1.1
  refine lx_callS (n := 4) (As := [vr Z 0 0, vi (xs (i + 1)).toInt, vi (xs (i + 2)).toInt, vr Z 29 0]) (rest := []) b hfl hl.1 hH R1 (li_6 35 (by decide +kernel) (by decide +kernel)) (li_6 34 (by decide +kernel) (by decide +kernel)) (li_1 0 (by decide +kernel) (by decide +kernel)) (by decide +kernel) rfl rfl ⟨Nat.le_of_ble_eq_true rfl, Nat.le_of_ble_eq_true rfl⟩ (Nat.le_of_ble_eq_true rfl) ⟨show c0 + dC I J ≤ 601024 by have q1 := dC_add hc1 hcK; have q2 := dC_self K; omega, show s0 + dS I J ≤ 7293034 by have q1 := dC_add hc1 hcK; have q2 := dC_self K; omega⟩ (li_6 33 (by decide +kernel) (by decide +kernel)) hlo dL_law_394 (fun H locs hH hlo => ?_)
  refine lv_istore (lv' := [(5, vi r1), (0, .ref b0), (1, vr Z 0 0), (2, vr Z 26 0), (3, vr Z 29 0), (4, vi (i : Int))]) b.1 b.2.1 dL_law_397 hl (by decide) rfl (fun ls hl => ?_)
  refine lv_aload_n b.1 b.2.1 dL_law_399 rfl (lv_at hl 3 rfl) ?_
  refine lv_aload_n b.1 b.2.1 dL_law_400 rfl (lv_at hl 1 rfl) ?_
  refine lv_iload b.1 b.2.1 dL_law_401 (lv_at hl 5 rfl) ?_
  refine lv_iconst (v := Int32.ofInt 1) b.1 b.2.1 dL_law_403 rfl ?_
  refine lx_iadd b dL_law_404 ?_
  refine lx_sld (q := i + 1) b hX hbl hZ hH hlo (w32_of (by omega) (by omega)) (by omega) dL_law_405 ?_
  refine lv_aload_n b.1 b.2.1 dL_law_406 rfl (lv_at hl 1 rfl) ?_
  refine lv_iload b.1 b.2.1 dL_law_407 (lv_at hl 5 rfl) ?_
  refine lv_iconst (v := Int32.ofInt 2) b.1 b.2.1 dL_law_409 rfl ?_
  refine lx_iadd b dL_law_410 ?_
  refine lx_sld (q := i + 2) b hX hbl hZ hH hlo (w32_of (by omega) (by omega)) (by omega) dL_law_411 ?_
  have R2 := R_M_rule Z ((xs (i + 1)).toInt) ((xs (i + 2)).toInt) J _ _ h2
  have hc2 : cle J K := R2.1
  refine lx_callV (n := 2) (As := [vi (xs (i + 1)).toInt, vi (xs (i + 2)).toInt]) (rest := []) b hfl hl.1 hH R2 ⟨(li_9 39 (by decide +kernel) (by decide +kernel)), (li_9 37 (by decide +kernel) (by decide +kernel)), (li_9 38 (by decide +kernel) (by decide +kernel)), (li_1 16 (by decide +kernel) (by decide +kernel)), by decide +kernel⟩ (fun gr => ob_26) rfl rfl ⟨Nat.le_of_ble_eq_true rfl, Nat.le_of_ble_eq_true rfl⟩ (Nat.le_of_ble_eq_true rfl) ⟨show c0 + dC I J + dC J K ≤ 601024 by have q1 := dC_add hc1 hc2; have q2 := dC_self K; omega, show s0 + dS I J + dS J K ≤ 7293034 by have q1 := dC_add hc1 hc2; have q2 := dC_self K; omega⟩ (li_9 36 (by decide +kernel) (by decide +kernel)) hlo dL_law_412 (fun H locs hH hlo => ?_)
  refine lv_istore (lv' := [(6, vi r2), (5, vi r1), (0, .ref b0), (1, vr Z 0 0), (2, vr Z 26 0), (3, vr Z 29 0), (4, vi (i : Int))]) b.1 b.2.1 dL_law_415 hl (by decide) rfl (fun ls hl => ?_)
  refine lv_goto (tgt := 1210) b.1 b.2.1 dL_law_417 (by decide) ?_
  refine W.widen (k := c0 + dC I K) (n := s0 + dS I K) (show c0 + dC I J + dC J K ≤ c0 + dC I K by have q1 := dC_add hc1 hc2; have q2 := dC_self K; omega) (show s0 + dS I J + dS J K ≤ s0 + dS I K by have q1 := dC_add hc1 hc2; have q2 := dC_self K; omega) ?_
  exact kk H locs ls hH hlo (lv_sub hl [2, 3, 4, 5, 6] rfl)
set_option maxRecDepth 20000 in
set_option maxHeartbeats 4000000 in
theorem LC_7 {p : Program} {l : Launch} {e : Env} {s : State} {m : MethodId} {args : Array Value} {below : List Frame} {meth : Method} {c : Code} {H : Heap} {locs : List Loc} {c0 s0 : Nat} {Q : State → Prop} {ls : Array Slot} {Z : ZT} {I : Mem} {b0 L i : Nat} {xs : Nat → Int32} (b : BB p s m args c RL cL_law 9 Z) (hfl : l.stackTraces = false) (hX : va_X b0 L xs s s.heap) (hbl : b0 < s.heap.size) (hZ : zB Z = s.heap.size ∧ zH Z = s.heap) (hi : i + 6 ≤ L) (hL : L < 100000) (hH : HH Z I H) (hlo : ∀ q ∈ locs, zN Z q.base) (hl : lv_has ls 9 [(0, .ref b0), (1, vr Z 0 0), (2, vr Z 26 0), (3, vr Z 29 0), (4, vi (i : Int))]) {r1 : Int} {r2 : Int} {J K : Mem} (h1 : f_L_bodyAt ((xs (i + 1)).toInt) ((xs (i + 2)).toInt) I = some (r1, J)) (h2 : f_M_bodyAt ((xs (i + 1)).toInt) ((xs (i + 2)).toInt) J = some (r2, K)) (hmc : c0 + dC I K ≤ 601024) (hms : s0 + dS I K ≤ 7293034)
    (kk : ∀ (H : Heap) (locs : List Loc) (ls : Array Slot), HH Z K H → (∀ q ∈ locs, zN Z q.base) → lv_has ls 9 [(0, .ref b0), (1, vr Z 0 0), (2, vr Z 26 0), (3, vr Z 29 0), (4, vi (i : Int))] → W p l e room_1 s m args below meth c H locs (c0 + dC I K) (s0 + dS I K) Q (F0 m 1210 ls [])) : W p l e room_1 s m args below meth c H locs c0 s0 Q (F0 m 420 ls []) := by
  have hcK : cle J K := (R_M_bodyAt Z ((xs (i + 1)).toInt) ((xs (i + 2)).toInt) J _ _ h2).1
  refine lv_aload_n b.1 b.2.1 dL_law_420 rfl (lv_at hl 1 rfl) ?_
  refine lv_aload_n b.1 b.2.1 dL_law_421 rfl (lv_at hl 0 rfl) ?_
  refine lv_iload b.1 b.2.1 dL_law_422 (lv_at hl 4 rfl) ?_
  refine lv_iconst (v := Int32.ofInt 1) b.1 b.2.1 dL_law_424 rfl ?_
  refine lx_iadd b dL_law_425 ?_
  refine lx_sld (q := i + 1) b hX hbl hZ hH hlo (w32_of (by omega) (by omega)) (by omega) dL_law_426 ?_
  refine lv_aload_n b.1 b.2.1 dL_law_427 rfl (lv_at hl 0 rfl) ?_
  refine lv_iload b.1 b.2.1 dL_law_428 (lv_at hl 4 rfl) ?_
  refine lv_iconst (v := Int32.ofInt 2) b.1 b.2.1 dL_law_430 rfl ?_
  refine lx_iadd b dL_law_431 ?_
  refine lx_sld (q := i + 2) b hX hbl hZ hH hlo (w32_of (by omega) (by omega)) (by omega) dL_law_432 ?_
  refine lv_aload_n b.1 b.2.1 dL_law_433 rfl (lv_at hl 3 rfl) ?_
  have R1 := R_L_bodyAt Z ((xs (i + 1)).toInt) ((xs (i + 2)).toInt) I _ _ h1
  have hc1 : cle I J := R1.1
  refine lx_callS (n := 4) (As := [vr Z 0 0, vi (xs (i + 1)).toInt, vi (xs (i + 2)).toInt, vr Z 29 0]) (rest := []) b hfl hl.1 hH R1 (li_6 54 (by decide +kernel) (by decide +kernel)) (li_6 53 (by decide +kernel) (by decide +kernel)) (li_1 0 (by decide +kernel) (by decide +kernel)) (by decide +kernel) rfl rfl ⟨Nat.le_of_ble_eq_true rfl, Nat.le_of_ble_eq_true rfl⟩ (Nat.le_of_ble_eq_true rfl) ⟨show c0 + dC I J ≤ 601024 by have q1 := dC_add hc1 hcK; have q2 := dC_self K; omega, show s0 + dS I J ≤ 7293034 by have q1 := dC_add hc1 hcK; have q2 := dC_self K; omega⟩ (li_6 52 (by decide +kernel) (by decide +kernel)) hlo dL_law_434 (fun H locs hH hlo => ?_)
  refine lv_istore (lv' := [(5, vi r1), (0, .ref b0), (1, vr Z 0 0), (2, vr Z 26 0), (3, vr Z 29 0), (4, vi (i : Int))]) b.1 b.2.1 dL_law_437 hl (by decide) rfl (fun ls hl => ?_)
  refine lv_aload_n b.1 b.2.1 dL_law_439 rfl (lv_at hl 3 rfl) ?_
  refine lv_aload_n b.1 b.2.1 dL_law_440 rfl (lv_at hl 1 rfl) ?_
  refine lv_iload b.1 b.2.1 dL_law_441 (lv_at hl 5 rfl) ?_
  refine lv_iconst (v := Int32.ofInt 1) b.1 b.2.1 dL_law_443 rfl ?_
  refine lx_iadd b dL_law_444 ?_
  refine lx_sld (q := i + 1) b hX hbl hZ hH hlo (w32_of (by omega) (by omega)) (by omega) dL_law_445 ?_
  refine lv_aload_n b.1 b.2.1 dL_law_446 rfl (lv_at hl 1 rfl) ?_
  refine lv_iload b.1 b.2.1 dL_law_447 (lv_at hl 5 rfl) ?_
  refine lv_iconst (v := Int32.ofInt 2) b.1 b.2.1 dL_law_449 rfl ?_
  refine lx_iadd b dL_law_450 ?_
  refine lx_sld (q := i + 2) b hX hbl hZ hH hlo (w32_of (by omega) (by omega)) (by omega) dL_law_451 ?_
  have R2 := R_M_bodyAt Z ((xs (i + 1)).toInt) ((xs (i + 2)).toInt) J _ _ h2
  have hc2 : cle J K := R2.1
  refine lx_callV (n := 2) (As := [vi (xs (i + 1)).toInt, vi (xs (i + 2)).toInt]) (rest := []) b hfl hl.1 hH R2 ⟨(li_9 55 (by decide +kernel) (by decide +kernel)), (li_9 53 (by decide +kernel) (by decide +kernel)), (li_9 54 (by decide +kernel) (by decide +kernel)), (li_1 16 (by decide +kernel) (by decide +kernel)), by decide +kernel⟩ (fun gr => ob_26) rfl rfl ⟨Nat.le_of_ble_eq_true rfl, Nat.le_of_ble_eq_true rfl⟩ (Nat.le_of_ble_eq_true rfl) ⟨show c0 + dC I J + dC J K ≤ 601024 by have q1 := dC_add hc1 hc2; have q2 := dC_self K; omega, show s0 + dS I J + dS J K ≤ 7293034 by have q1 := dC_add hc1 hc2; have q2 := dC_self K; omega⟩ (li_9 52 (by decide +kernel) (by decide +kernel)) hlo dL_law_452 (fun H locs hH hlo => ?_)
  refine lv_istore (lv' := [(6, vi r2), (5, vi r1), (0, .ref b0), (1, vr Z 0 0), (2, vr Z 26 0), (3, vr Z 29 0), (4, vi (i : Int))]) b.1 b.2.1 dL_law_455 hl (by decide) rfl (fun ls hl => ?_)
  refine lv_goto (tgt := 1210) b.1 b.2.1 dL_law_457 (by decide) ?_
  refine W.widen (k := c0 + dC I K) (n := s0 + dS I K) (show c0 + dC I J + dC J K ≤ c0 + dC I K by have q1 := dC_add hc1 hc2; have q2 := dC_self K; omega) (show s0 + dS I J + dS J K ≤ s0 + dS I K by have q1 := dC_add hc1 hc2; have q2 := dC_self K; omega) ?_
  exact kk H locs ls hH hlo (lv_sub hl [2, 3, 4, 5, 6] rfl)
set_option maxRecDepth 20000 in
set_option maxHeartbeats 4000000 in
theorem LC_8 {p : Program} {l : Launch} {e : Env} {s : State} {m : MethodId} {args : Array Value} {below : List Frame} {meth : Method} {c : Code} {H : Heap} {locs : List Loc} {c0 s0 : Nat} {Q : State → Prop} {ls : Array Slot} {Z : ZT} {I : Mem} {b0 L i : Nat} {xs : Nat → Int32} (b : BB p s m args c RL cL_law 9 Z) (hfl : l.stackTraces = false) (hX : va_X b0 L xs s s.heap) (hbl : b0 < s.heap.size) (hZ : zB Z = s.heap.size ∧ zH Z = s.heap) (hi : i + 6 ≤ L) (hL : L < 100000) (hH : HH Z I H) (hlo : ∀ q ∈ locs, zN Z q.base) (hl : lv_has ls 9 [(0, .ref b0), (1, vr Z 0 0), (2, vr Z 26 0), (3, vr Z 29 0), (4, vi (i : Int))]) {r1 : Int} {r2 : Int} {J K : Mem} (h1 : f_L_startAt ((xs (i + 1)).toInt) I = some (r1, J)) (h2 : f_M_startAt ((xs (i + 1)).toInt) J = some (r2, K)) (hmc : c0 + dC I K ≤ 601024) (hms : s0 + dS I K ≤ 7293034)
    (kk : ∀ (H : Heap) (locs : List Loc) (ls : Array Slot), HH Z K H → (∀ q ∈ locs, zN Z q.base) → lv_has ls 9 [(0, .ref b0), (1, vr Z 0 0), (2, vr Z 26 0), (3, vr Z 29 0), (4, vi (i : Int))] → W p l e room_1 s m args below meth c H locs (c0 + dC I K) (s0 + dS I K) Q (F0 m 1210 ls [])) : W p l e room_1 s m args below meth c H locs c0 s0 Q (F0 m 460 ls []) := by
  have hcK : cle J K := (R_M_startAt Z ((xs (i + 1)).toInt) J _ _ h2).1
  refine lv_aload_n b.1 b.2.1 dL_law_460 rfl (lv_at hl 1 rfl) ?_
  refine lv_aload_n b.1 b.2.1 dL_law_461 rfl (lv_at hl 0 rfl) ?_
  refine lv_iload b.1 b.2.1 dL_law_462 (lv_at hl 4 rfl) ?_
  refine lv_iconst (v := Int32.ofInt 1) b.1 b.2.1 dL_law_464 rfl ?_
  refine lx_iadd b dL_law_465 ?_
  refine lx_sld (q := i + 1) b hX hbl hZ hH hlo (w32_of (by omega) (by omega)) (by omega) dL_law_466 ?_
  refine lv_aload_n b.1 b.2.1 dL_law_467 rfl (lv_at hl 3 rfl) ?_
  have R1 := R_L_startAt Z ((xs (i + 1)).toInt) I _ _ h1
  have hc1 : cle I J := R1.1
  refine lx_callS (n := 3) (As := [vr Z 0 0, vi (xs (i + 1)).toInt, vr Z 29 0]) (rest := []) b hfl hl.1 hH R1 (li_6 62 (by decide +kernel) (by decide +kernel)) (li_6 61 (by decide +kernel) (by decide +kernel)) (li_1 0 (by decide +kernel) (by decide +kernel)) (by decide +kernel) rfl rfl ⟨Nat.le_of_ble_eq_true rfl, Nat.le_of_ble_eq_true rfl⟩ (Nat.le_of_ble_eq_true rfl) ⟨show c0 + dC I J ≤ 601024 by have q1 := dC_add hc1 hcK; have q2 := dC_self K; omega, show s0 + dS I J ≤ 7293034 by have q1 := dC_add hc1 hcK; have q2 := dC_self K; omega⟩ (li_6 60 (by decide +kernel) (by decide +kernel)) hlo dL_law_468 (fun H locs hH hlo => ?_)
  refine lv_istore (lv' := [(5, vi r1), (0, .ref b0), (1, vr Z 0 0), (2, vr Z 26 0), (3, vr Z 29 0), (4, vi (i : Int))]) b.1 b.2.1 dL_law_471 hl (by decide) rfl (fun ls hl => ?_)
  refine lv_aload_n b.1 b.2.1 dL_law_473 rfl (lv_at hl 3 rfl) ?_
  refine lv_aload_n b.1 b.2.1 dL_law_474 rfl (lv_at hl 1 rfl) ?_
  refine lv_iload b.1 b.2.1 dL_law_475 (lv_at hl 5 rfl) ?_
  refine lv_iconst (v := Int32.ofInt 1) b.1 b.2.1 dL_law_477 rfl ?_
  refine lx_iadd b dL_law_478 ?_
  refine lx_sld (q := i + 1) b hX hbl hZ hH hlo (w32_of (by omega) (by omega)) (by omega) dL_law_479 ?_
  have R2 := R_M_startAt Z ((xs (i + 1)).toInt) J _ _ h2
  have hc2 : cle J K := R2.1
  refine lx_callV (n := 1) (As := [vi (xs (i + 1)).toInt]) (rest := []) b hfl hl.1 hH R2 ⟨(li_9 59 (by decide +kernel) (by decide +kernel)), (li_9 57 (by decide +kernel) (by decide +kernel)), (li_9 58 (by decide +kernel) (by decide +kernel)), (li_1 16 (by decide +kernel) (by decide +kernel)), by decide +kernel⟩ (fun gr => ob_26) rfl rfl ⟨Nat.le_of_ble_eq_true rfl, Nat.le_of_ble_eq_true rfl⟩ (Nat.le_of_ble_eq_true rfl) ⟨show c0 + dC I J + dC J K ≤ 601024 by have q1 := dC_add hc1 hc2; have q2 := dC_self K; omega, show s0 + dS I J + dS J K ≤ 7293034 by have q1 := dC_add hc1 hc2; have q2 := dC_self K; omega⟩ (li_9 56 (by decide +kernel) (by decide +kernel)) hlo dL_law_480 (fun H locs hH hlo => ?_)
  refine lv_istore (lv' := [(6, vi r2), (5, vi r1), (0, .ref b0), (1, vr Z 0 0), (2, vr Z 26 0), (3, vr Z 29 0), (4, vi (i : Int))]) b.1 b.2.1 dL_law_483 hl (by decide) rfl (fun ls hl => ?_)
  refine lv_goto (tgt := 1210) b.1 b.2.1 dL_law_485 (by decide) ?_
  refine W.widen (k := c0 + dC I K) (n := s0 + dS I K) (show c0 + dC I J + dC J K ≤ c0 + dC I K by have q1 := dC_add hc1 hc2; have q2 := dC_self K; omega) (show s0 + dS I J + dS J K ≤ s0 + dS I K by have q1 := dC_add hc1 hc2; have q2 := dC_self K; omega) ?_
  exact kk H locs ls hH hlo (lv_sub hl [2, 3, 4, 5, 6] rfl)
set_option maxRecDepth 20000 in
set_option maxHeartbeats 4000000 in
theorem LC_9 {p : Program} {l : Launch} {e : Env} {s : State} {m : MethodId} {args : Array Value} {below : List Frame} {meth : Method} {c : Code} {H : Heap} {locs : List Loc} {c0 s0 : Nat} {Q : State → Prop} {ls : Array Slot} {Z : ZT} {I : Mem} {b0 L i : Nat} {xs : Nat → Int32} (b : BB p s m args c RL cL_law 9 Z) (hfl : l.stackTraces = false) (hX : va_X b0 L xs s s.heap) (hbl : b0 < s.heap.size) (hZ : zB Z = s.heap.size ∧ zH Z = s.heap) (hi : i + 6 ≤ L) (hL : L < 100000) (hH : HH Z I H) (hlo : ∀ q ∈ locs, zN Z q.base) (hl : lv_has ls 9 [(0, .ref b0), (1, vr Z 0 0), (2, vr Z 26 0), (3, vr Z 29 0), (4, vi (i : Int))]) {r1 : Int} {r2 : Int} {J K : Mem} (h1 : f_L_letterAt ((xs (i + 1)).toInt) I = some (r1, J)) (h2 : f_M_letterAt ((xs (i + 1)).toInt) J = some (r2, K)) (hmc : c0 + dC I K ≤ 601024) (hms : s0 + dS I K ≤ 7293034)
    (kk : ∀ (H : Heap) (locs : List Loc) (ls : Array Slot), HH Z K H → (∀ q ∈ locs, zN Z q.base) → lv_has ls 9 [(0, .ref b0), (1, vr Z 0 0), (2, vr Z 26 0), (3, vr Z 29 0), (4, vi (i : Int))] → W p l e room_1 s m args below meth c H locs (c0 + dC I K) (s0 + dS I K) Q (F0 m 1210 ls [])) : W p l e room_1 s m args below meth c H locs c0 s0 Q (F0 m 488 ls []) := by
  have hcK : cle J K := (R_M_letterAt Z ((xs (i + 1)).toInt) J _ _ h2).1
  refine lv_aload_n b.1 b.2.1 dL_law_488 rfl (lv_at hl 1 rfl) ?_
  refine lv_aload_n b.1 b.2.1 dL_law_489 rfl (lv_at hl 0 rfl) ?_
  refine lv_iload b.1 b.2.1 dL_law_490 (lv_at hl 4 rfl) ?_
  refine lv_iconst (v := Int32.ofInt 1) b.1 b.2.1 dL_law_492 rfl ?_
  refine lx_iadd b dL_law_493 ?_
  refine lx_sld (q := i + 1) b hX hbl hZ hH hlo (w32_of (by omega) (by omega)) (by omega) dL_law_494 ?_
  refine lv_aload_n b.1 b.2.1 dL_law_495 rfl (lv_at hl 3 rfl) ?_
  have R1 := R_L_letterAt Z ((xs (i + 1)).toInt) I _ _ h1
  have hc1 : cle I J := R1.1
  refine lx_callS (n := 3) (As := [vr Z 0 0, vi (xs (i + 1)).toInt, vr Z 29 0]) (rest := []) b hfl hl.1 hH R1 (li_6 69 (by decide +kernel) (by decide +kernel)) (li_6 68 (by decide +kernel) (by decide +kernel)) (li_1 0 (by decide +kernel) (by decide +kernel)) (by decide +kernel) rfl rfl ⟨Nat.le_of_ble_eq_true rfl, Nat.le_of_ble_eq_true rfl⟩ (Nat.le_of_ble_eq_true rfl) ⟨show c0 + dC I J ≤ 601024 by have q1 := dC_add hc1 hcK; have q2 := dC_self K; omega, show s0 + dS I J ≤ 7293034 by have q1 := dC_add hc1 hcK; have q2 := dC_self K; omega⟩ (li_6 67 (by decide +kernel) (by decide +kernel)) hlo dL_law_496 (fun H locs hH hlo => ?_)
  refine lv_istore (lv' := [(5, vi r1), (0, .ref b0), (1, vr Z 0 0), (2, vr Z 26 0), (3, vr Z 29 0), (4, vi (i : Int))]) b.1 b.2.1 dL_law_499 hl (by decide) rfl (fun ls hl => ?_)
  refine lv_aload_n b.1 b.2.1 dL_law_501 rfl (lv_at hl 3 rfl) ?_
  refine lv_aload_n b.1 b.2.1 dL_law_502 rfl (lv_at hl 1 rfl) ?_
  refine lv_iload b.1 b.2.1 dL_law_503 (lv_at hl 5 rfl) ?_
  refine lv_iconst (v := Int32.ofInt 1) b.1 b.2.1 dL_law_505 rfl ?_
  refine lx_iadd b dL_law_506 ?_
  refine lx_sld (q := i + 1) b hX hbl hZ hH hlo (w32_of (by omega) (by omega)) (by omega) dL_law_507 ?_
  have R2 := R_M_letterAt Z ((xs (i + 1)).toInt) J _ _ h2
  have hc2 : cle J K := R2.1
  refine lx_callV (n := 1) (As := [vi (xs (i + 1)).toInt]) (rest := []) b hfl hl.1 hH R2 ⟨(li_9 63 (by decide +kernel) (by decide +kernel)), (li_9 61 (by decide +kernel) (by decide +kernel)), (li_9 62 (by decide +kernel) (by decide +kernel)), (li_1 16 (by decide +kernel) (by decide +kernel)), by decide +kernel⟩ (fun gr => ob_26) rfl rfl ⟨Nat.le_of_ble_eq_true rfl, Nat.le_of_ble_eq_true rfl⟩ (Nat.le_of_ble_eq_true rfl) ⟨show c0 + dC I J + dC J K ≤ 601024 by have q1 := dC_add hc1 hc2; have q2 := dC_self K; omega, show s0 + dS I J + dS J K ≤ 7293034 by have q1 := dC_add hc1 hc2; have q2 := dC_self K; omega⟩ (li_9 60 (by decide +kernel) (by decide +kernel)) hlo dL_law_508 (fun H locs hH hlo => ?_)
  refine lv_istore (lv' := [(6, vi r2), (5, vi r1), (0, .ref b0), (1, vr Z 0 0), (2, vr Z 26 0), (3, vr Z 29 0), (4, vi (i : Int))]) b.1 b.2.1 dL_law_511 hl (by decide) rfl (fun ls hl => ?_)
  refine lv_goto (tgt := 1210) b.1 b.2.1 dL_law_513 (by decide) ?_
  refine W.widen (k := c0 + dC I K) (n := s0 + dS I K) (show c0 + dC I J + dC J K ≤ c0 + dC I K by have q1 := dC_add hc1 hc2; have q2 := dC_self K; omega) (show s0 + dS I J + dS J K ≤ s0 + dS I K by have q1 := dC_add hc1 hc2; have q2 := dC_self K; omega) ?_
  exact kk H locs ls hH hlo (lv_sub hl [2, 3, 4, 5, 6] rfl)
set_option maxRecDepth 20000 in
set_option maxHeartbeats 4000000 in
theorem LC_10 {p : Program} {l : Launch} {e : Env} {s : State} {m : MethodId} {args : Array Value} {below : List Frame} {meth : Method} {c : Code} {H : Heap} {locs : List Loc} {c0 s0 : Nat} {Q : State → Prop} {ls : Array Slot} {Z : ZT} {I : Mem} {b0 L i : Nat} {xs : Nat → Int32} (b : BB p s m args c RL cL_law 9 Z) (hfl : l.stackTraces = false) (hX : va_X b0 L xs s s.heap) (hbl : b0 < s.heap.size) (hZ : zB Z = s.heap.size ∧ zH Z = s.heap) (hi : i + 6 ≤ L) (hL : L < 100000) (hH : HH Z I H) (hlo : ∀ q ∈ locs, zN Z q.base) (hl : lv_has ls 9 [(0, .ref b0), (1, vr Z 0 0), (2, vr Z 26 0), (3, vr Z 29 0), (4, vi (i : Int))]) {r1 : Int} {r2 : Int} {J K : Mem} (h1 : f_L_symbolOf ((xs (i + 1)).toInt) I = some (r1, J)) (h2 : f_M_symbolOf ((xs (i + 1)).toInt) J = some (r2, K)) (hmc : c0 + dC I K ≤ 601024) (hms : s0 + dS I K ≤ 7293034)
    (kk : ∀ (H : Heap) (locs : List Loc) (ls : Array Slot), HH Z K H → (∀ q ∈ locs, zN Z q.base) → lv_has ls 9 [(0, .ref b0), (1, vr Z 0 0), (2, vr Z 26 0), (3, vr Z 29 0), (4, vi (i : Int))] → W p l e room_1 s m args below meth c H locs (c0 + dC I K) (s0 + dS I K) Q (F0 m 1210 ls [])) : W p l e room_1 s m args below meth c H locs c0 s0 Q (F0 m 516 ls []) := by
  have hcK : cle J K := (R_M_symbolOf Z ((xs (i + 1)).toInt) J _ _ h2).1
  refine lv_aload_n b.1 b.2.1 dL_law_516 rfl (lv_at hl 1 rfl) ?_
  refine lv_aload_n b.1 b.2.1 dL_law_517 rfl (lv_at hl 0 rfl) ?_
  refine lv_iload b.1 b.2.1 dL_law_518 (lv_at hl 4 rfl) ?_
  refine lv_iconst (v := Int32.ofInt 1) b.1 b.2.1 dL_law_520 rfl ?_
  refine lx_iadd b dL_law_521 ?_
  refine lx_sld (q := i + 1) b hX hbl hZ hH hlo (w32_of (by omega) (by omega)) (by omega) dL_law_522 ?_
  refine lv_aload_n b.1 b.2.1 dL_law_523 rfl (lv_at hl 3 rfl) ?_
  have R1 := R_L_symbolOf Z ((xs (i + 1)).toInt) I _ _ h1
  have hc1 : cle I J := R1.1
  refine lx_callS (n := 3) (As := [vr Z 0 0, vi (xs (i + 1)).toInt, vr Z 29 0]) (rest := []) b hfl hl.1 hH R1 (li_6 84 (by decide +kernel) (by decide +kernel)) (li_6 83 (by decide +kernel) (by decide +kernel)) (li_1 0 (by decide +kernel) (by decide +kernel)) (by decide +kernel) rfl rfl ⟨Nat.le_of_ble_eq_true rfl, Nat.le_of_ble_eq_true rfl⟩ (Nat.le_of_ble_eq_true rfl) ⟨show c0 + dC I J ≤ 601024 by have q1 := dC_add hc1 hcK; have q2 := dC_self K; omega, show s0 + dS I J ≤ 7293034 by have q1 := dC_add hc1 hcK; have q2 := dC_self K; omega⟩ (li_6 82 (by decide +kernel) (by decide +kernel)) hlo dL_law_524 (fun H locs hH hlo => ?_)
  refine lv_istore (lv' := [(5, vi r1), (0, .ref b0), (1, vr Z 0 0), (2, vr Z 26 0), (3, vr Z 29 0), (4, vi (i : Int))]) b.1 b.2.1 dL_law_527 hl (by decide) rfl (fun ls hl => ?_)
  refine lv_aload_n b.1 b.2.1 dL_law_529 rfl (lv_at hl 3 rfl) ?_
  refine lv_aload_n b.1 b.2.1 dL_law_530 rfl (lv_at hl 1 rfl) ?_
  refine lv_iload b.1 b.2.1 dL_law_531 (lv_at hl 5 rfl) ?_
  refine lv_iconst (v := Int32.ofInt 1) b.1 b.2.1 dL_law_533 rfl ?_
  refine lx_iadd b dL_law_534 ?_
  refine lx_sld (q := i + 1) b hX hbl hZ hH hlo (w32_of (by omega) (by omega)) (by omega) dL_law_535 ?_
  have R2 := R_M_symbolOf Z ((xs (i + 1)).toInt) J _ _ h2
  have hc2 : cle J K := R2.1
  refine lx_callV (n := 1) (As := [vi (xs (i + 1)).toInt]) (rest := []) b hfl hl.1 hH R2 ⟨(li_9 71 (by decide +kernel) (by decide +kernel)), (li_9 69 (by decide +kernel) (by decide +kernel)), (li_9 70 (by decide +kernel) (by decide +kernel)), (li_1 16 (by decide +kernel) (by decide +kernel)), by decide +kernel⟩ (fun gr => ob_26) rfl rfl ⟨Nat.le_of_ble_eq_true rfl, Nat.le_of_ble_eq_true rfl⟩ (Nat.le_of_ble_eq_true rfl) ⟨show c0 + dC I J + dC J K ≤ 601024 by have q1 := dC_add hc1 hc2; have q2 := dC_self K; omega, show s0 + dS I J + dS J K ≤ 7293034 by have q1 := dC_add hc1 hc2; have q2 := dC_self K; omega⟩ (li_9 68 (by decide +kernel) (by decide +kernel)) hlo dL_law_536 (fun H locs hH hlo => ?_)
  refine lv_istore (lv' := [(6, vi r2), (5, vi r1), (0, .ref b0), (1, vr Z 0 0), (2, vr Z 26 0), (3, vr Z 29 0), (4, vi (i : Int))]) b.1 b.2.1 dL_law_539 hl (by decide) rfl (fun ls hl => ?_)
  refine lv_goto (tgt := 1210) b.1 b.2.1 dL_law_541 (by decide) ?_
  refine W.widen (k := c0 + dC I K) (n := s0 + dS I K) (show c0 + dC I J + dC J K ≤ c0 + dC I K by have q1 := dC_add hc1 hc2; have q2 := dC_self K; omega) (show s0 + dS I J + dS J K ≤ s0 + dS I K by have q1 := dC_add hc1 hc2; have q2 := dC_self K; omega) ?_
  exact kk H locs ls hH hlo (lv_sub hl [2, 3, 4, 5, 6] rfl)
set_option maxRecDepth 20000 in
set_option maxHeartbeats 4000000 in
theorem LC_11 {p : Program} {l : Launch} {e : Env} {s : State} {m : MethodId} {args : Array Value} {below : List Frame} {meth : Method} {c : Code} {H : Heap} {locs : List Loc} {c0 s0 : Nat} {Q : State → Prop} {ls : Array Slot} {Z : ZT} {I : Mem} {b0 L i : Nat} {xs : Nat → Int32} (b : BB p s m args c RL cL_law 9 Z) (hfl : l.stackTraces = false) (hX : va_X b0 L xs s s.heap) (hbl : b0 < s.heap.size) (hZ : zB Z = s.heap.size ∧ zH Z = s.heap) (hi : i + 6 ≤ L) (hL : L < 100000) (hH : HH Z I H) (hlo : ∀ q ∈ locs, zN Z q.base) (hl : lv_has ls 9 [(0, .ref b0), (1, vr Z 0 0), (2, vr Z 26 0), (3, vr Z 29 0), (4, vi (i : Int))]) {r1 : Int} {r2 : Int} {J K : Mem} (h1 : f_L_letters ((xs (i + 1)).toInt) I = some (r1, J)) (h2 : f_M_letters ((xs (i + 1)).toInt) J = some (r2, K)) (hmc : c0 + dC I K ≤ 601024) (hms : s0 + dS I K ≤ 7293034)
    (kk : ∀ (H : Heap) (locs : List Loc) (ls : Array Slot), HH Z K H → (∀ q ∈ locs, zN Z q.base) → lv_has ls 9 [(0, .ref b0), (1, vr Z 0 0), (2, vr Z 26 0), (3, vr Z 29 0), (4, vi (i : Int))] → W p l e room_1 s m args below meth c H locs (c0 + dC I K) (s0 + dS I K) Q (F0 m 1210 ls [])) : W p l e room_1 s m args below meth c H locs c0 s0 Q (F0 m 544 ls []) := by
  have hcK : cle J K := (R_M_letters Z ((xs (i + 1)).toInt) J _ _ h2).1
  refine lv_aload_n b.1 b.2.1 dL_law_544 rfl (lv_at hl 1 rfl) ?_
  refine lv_aload_n b.1 b.2.1 dL_law_545 rfl (lv_at hl 0 rfl) ?_
  refine lv_iload b.1 b.2.1 dL_law_546 (lv_at hl 4 rfl) ?_
  refine lv_iconst (v := Int32.ofInt 1) b.1 b.2.1 dL_law_548 rfl ?_
  refine lx_iadd b dL_law_549 ?_
  refine lx_sld (q := i + 1) b hX hbl hZ hH hlo (w32_of (by omega) (by omega)) (by omega) dL_law_550 ?_
  refine lv_aload_n b.1 b.2.1 dL_law_551 rfl (lv_at hl 3 rfl) ?_
  have R1 := R_L_letters Z ((xs (i + 1)).toInt) I _ _ h1
  have hc1 : cle I J := R1.1
  refine lx_callS (n := 3) (As := [vr Z 0 0, vi (xs (i + 1)).toInt, vr Z 29 0]) (rest := []) b hfl hl.1 hH R1 (li_6 92 (by decide +kernel) (by decide +kernel)) (li_6 91 (by decide +kernel) (by decide +kernel)) (li_1 0 (by decide +kernel) (by decide +kernel)) (by decide +kernel) rfl rfl ⟨Nat.le_of_ble_eq_true rfl, Nat.le_of_ble_eq_true rfl⟩ (Nat.le_of_ble_eq_true rfl) ⟨show c0 + dC I J ≤ 601024 by have q1 := dC_add hc1 hcK; have q2 := dC_self K; omega, show s0 + dS I J ≤ 7293034 by have q1 := dC_add hc1 hcK; have q2 := dC_self K; omega⟩ (li_6 90 (by decide +kernel) (by decide +kernel)) hlo dL_law_552 (fun H locs hH hlo => ?_)
  refine lv_istore (lv' := [(5, vi r1), (0, .ref b0), (1, vr Z 0 0), (2, vr Z 26 0), (3, vr Z 29 0), (4, vi (i : Int))]) b.1 b.2.1 dL_law_555 hl (by decide) rfl (fun ls hl => ?_)
  refine lv_aload_n b.1 b.2.1 dL_law_557 rfl (lv_at hl 3 rfl) ?_
  refine lv_aload_n b.1 b.2.1 dL_law_558 rfl (lv_at hl 1 rfl) ?_
  refine lv_iload b.1 b.2.1 dL_law_559 (lv_at hl 5 rfl) ?_
  refine lv_iconst (v := Int32.ofInt 1) b.1 b.2.1 dL_law_561 rfl ?_
  refine lx_iadd b dL_law_562 ?_
  refine lx_sld (q := i + 1) b hX hbl hZ hH hlo (w32_of (by omega) (by omega)) (by omega) dL_law_563 ?_
  have R2 := R_M_letters Z ((xs (i + 1)).toInt) J _ _ h2
  have hc2 : cle J K := R2.1
  refine lx_callV (n := 1) (As := [vi (xs (i + 1)).toInt]) (rest := []) b hfl hl.1 hH R2 ⟨(li_9 75 (by decide +kernel) (by decide +kernel)), (li_9 73 (by decide +kernel) (by decide +kernel)), (li_9 74 (by decide +kernel) (by decide +kernel)), (li_1 16 (by decide +kernel) (by decide +kernel)), by decide +kernel⟩ (fun gr => ob_26) rfl rfl ⟨Nat.le_of_ble_eq_true rfl, Nat.le_of_ble_eq_true rfl⟩ (Nat.le_of_ble_eq_true rfl) ⟨show c0 + dC I J + dC J K ≤ 601024 by have q1 := dC_add hc1 hc2; have q2 := dC_self K; omega, show s0 + dS I J + dS J K ≤ 7293034 by have q1 := dC_add hc1 hc2; have q2 := dC_self K; omega⟩ (li_9 72 (by decide +kernel) (by decide +kernel)) hlo dL_law_564 (fun H locs hH hlo => ?_)
  refine lv_istore (lv' := [(6, vi r2), (5, vi r1), (0, .ref b0), (1, vr Z 0 0), (2, vr Z 26 0), (3, vr Z 29 0), (4, vi (i : Int))]) b.1 b.2.1 dL_law_567 hl (by decide) rfl (fun ls hl => ?_)
  refine lv_goto (tgt := 1210) b.1 b.2.1 dL_law_569 (by decide) ?_
  refine W.widen (k := c0 + dC I K) (n := s0 + dS I K) (show c0 + dC I J + dC J K ≤ c0 + dC I K by have q1 := dC_add hc1 hc2; have q2 := dC_self K; omega) (show s0 + dS I J + dS J K ≤ s0 + dS I K by have q1 := dC_add hc1 hc2; have q2 := dC_self K; omega) ?_
  exact kk H locs ls hH hlo (lv_sub hl [2, 3, 4, 5, 6] rfl)
set_option maxRecDepth 20000 in
set_option maxHeartbeats 4000000 in
theorem LC_12 {p : Program} {l : Launch} {e : Env} {s : State} {m : MethodId} {args : Array Value} {below : List Frame} {meth : Method} {c : Code} {H : Heap} {locs : List Loc} {c0 s0 : Nat} {Q : State → Prop} {ls : Array Slot} {Z : ZT} {I : Mem} {b0 L i : Nat} {xs : Nat → Int32} (b : BB p s m args c RL cL_law 9 Z) (hfl : l.stackTraces = false) (hX : va_X b0 L xs s s.heap) (hbl : b0 < s.heap.size) (hZ : zB Z = s.heap.size ∧ zH Z = s.heap) (hi : i + 6 ≤ L) (hL : L < 100000) (hH : HH Z I H) (hlo : ∀ q ∈ locs, zN Z q.base) (hl : lv_has ls 9 [(0, .ref b0), (1, vr Z 0 0), (2, vr Z 26 0), (3, vr Z 29 0), (4, vi (i : Int))]) {r1 : Int} {r2 : Int} {J K : Mem} (h1 : f_L_account ((xs (i + 1)).toInt) I = some (r1, J)) (h2 : f_M_account ((xs (i + 1)).toInt) J = some (r2, K)) (hmc : c0 + dC I K ≤ 601024) (hms : s0 + dS I K ≤ 7293034)
    (kk : ∀ (H : Heap) (locs : List Loc) (ls : Array Slot), HH Z K H → (∀ q ∈ locs, zN Z q.base) → lv_has ls 9 [(0, .ref b0), (1, vr Z 0 0), (2, vr Z 26 0), (3, vr Z 29 0), (4, vi (i : Int))] → W p l e room_1 s m args below meth c H locs (c0 + dC I K) (s0 + dS I K) Q (F0 m 1210 ls [])) : W p l e room_1 s m args below meth c H locs c0 s0 Q (F0 m 572 ls []) := by
  have hcK : cle J K := (R_M_account Z ((xs (i + 1)).toInt) J _ _ h2).1
  refine lv_aload_n b.1 b.2.1 dL_law_572 rfl (lv_at hl 1 rfl) ?_
  refine lv_aload_n b.1 b.2.1 dL_law_573 rfl (lv_at hl 0 rfl) ?_
  refine lv_iload b.1 b.2.1 dL_law_574 (lv_at hl 4 rfl) ?_
  refine lv_iconst (v := Int32.ofInt 1) b.1 b.2.1 dL_law_576 rfl ?_
  refine lx_iadd b dL_law_577 ?_
  refine lx_sld (q := i + 1) b hX hbl hZ hH hlo (w32_of (by omega) (by omega)) (by omega) dL_law_578 ?_
  refine lv_aload_n b.1 b.2.1 dL_law_579 rfl (lv_at hl 3 rfl) ?_
  have R1 := R_L_account Z ((xs (i + 1)).toInt) I _ _ h1
  have hc1 : cle I J := R1.1
  refine lx_callS (n := 3) (As := [vr Z 0 0, vi (xs (i + 1)).toInt, vr Z 29 0]) (rest := []) b hfl hl.1 hH R1 (li_6 101 (by decide +kernel) (by decide +kernel)) (li_6 100 (by decide +kernel) (by decide +kernel)) (li_1 0 (by decide +kernel) (by decide +kernel)) (by decide +kernel) rfl rfl ⟨Nat.le_of_ble_eq_true rfl, Nat.le_of_ble_eq_true rfl⟩ (Nat.le_of_ble_eq_true rfl) ⟨show c0 + dC I J ≤ 601024 by have q1 := dC_add hc1 hcK; have q2 := dC_self K; omega, show s0 + dS I J ≤ 7293034 by have q1 := dC_add hc1 hcK; have q2 := dC_self K; omega⟩ (li_6 99 (by decide +kernel) (by decide +kernel)) hlo dL_law_580 (fun H locs hH hlo => ?_)
  refine lv_istore (lv' := [(5, vi r1), (0, .ref b0), (1, vr Z 0 0), (2, vr Z 26 0), (3, vr Z 29 0), (4, vi (i : Int))]) b.1 b.2.1 dL_law_583 hl (by decide) rfl (fun ls hl => ?_)
  refine lv_aload_n b.1 b.2.1 dL_law_585 rfl (lv_at hl 3 rfl) ?_
  refine lv_aload_n b.1 b.2.1 dL_law_586 rfl (lv_at hl 1 rfl) ?_
  refine lv_iload b.1 b.2.1 dL_law_587 (lv_at hl 5 rfl) ?_
  refine lv_iconst (v := Int32.ofInt 1) b.1 b.2.1 dL_law_589 rfl ?_
  refine lx_iadd b dL_law_590 ?_
  refine lx_sld (q := i + 1) b hX hbl hZ hH hlo (w32_of (by omega) (by omega)) (by omega) dL_law_591 ?_
  have R2 := R_M_account Z ((xs (i + 1)).toInt) J _ _ h2
  have hc2 : cle J K := R2.1
  refine lx_callV (n := 1) (As := [vi (xs (i + 1)).toInt]) (rest := []) b hfl hl.1 hH R2 ⟨(li_9 83 (by decide +kernel) (by decide +kernel)), (li_9 81 (by decide +kernel) (by decide +kernel)), (li_9 82 (by decide +kernel) (by decide +kernel)), (li_1 16 (by decide +kernel) (by decide +kernel)), by decide +kernel⟩ (fun gr => ob_26) rfl rfl ⟨Nat.le_of_ble_eq_true rfl, Nat.le_of_ble_eq_true rfl⟩ (Nat.le_of_ble_eq_true rfl) ⟨show c0 + dC I J + dC J K ≤ 601024 by have q1 := dC_add hc1 hc2; have q2 := dC_self K; omega, show s0 + dS I J + dS J K ≤ 7293034 by have q1 := dC_add hc1 hc2; have q2 := dC_self K; omega⟩ (li_9 80 (by decide +kernel) (by decide +kernel)) hlo dL_law_592 (fun H locs hH hlo => ?_)
  refine lv_istore (lv' := [(6, vi r2), (5, vi r1), (0, .ref b0), (1, vr Z 0 0), (2, vr Z 26 0), (3, vr Z 29 0), (4, vi (i : Int))]) b.1 b.2.1 dL_law_595 hl (by decide) rfl (fun ls hl => ?_)
  refine lv_goto (tgt := 1210) b.1 b.2.1 dL_law_597 (by decide) ?_
  refine W.widen (k := c0 + dC I K) (n := s0 + dS I K) (show c0 + dC I J + dC J K ≤ c0 + dC I K by have q1 := dC_add hc1 hc2; have q2 := dC_self K; omega) (show s0 + dS I J + dS J K ≤ s0 + dS I K by have q1 := dC_add hc1 hc2; have q2 := dC_self K; omega) ?_
  exact kk H locs ls hH hlo (lv_sub hl [2, 3, 4, 5, 6] rfl)
set_option maxRecDepth 20000 in
set_option maxHeartbeats 4000000 in
theorem LC_13 {p : Program} {l : Launch} {e : Env} {s : State} {m : MethodId} {args : Array Value} {below : List Frame} {meth : Method} {c : Code} {H : Heap} {locs : List Loc} {c0 s0 : Nat} {Q : State → Prop} {ls : Array Slot} {Z : ZT} {I : Mem} {b0 L i : Nat} {xs : Nat → Int32} (b : BB p s m args c RL cL_law 9 Z) (hfl : l.stackTraces = false) (hX : va_X b0 L xs s s.heap) (hbl : b0 < s.heap.size) (hZ : zB Z = s.heap.size ∧ zH Z = s.heap) (hi : i + 6 ≤ L) (hL : L < 100000) (hH : HH Z I H) (hlo : ∀ q ∈ locs, zN Z q.base) (hl : lv_has ls 9 [(0, .ref b0), (1, vr Z 0 0), (2, vr Z 26 0), (3, vr Z 29 0), (4, vi (i : Int))]) {r1 : Int} {r2 : Int} {J K : Mem} (h1 : f_PR_gap  I = some (r1, J)) (h2 : f_M_gap  J = some (r2, K)) (hmc : c0 + dC I K ≤ 601024) (hms : s0 + dS I K ≤ 7293034)
    (kk : ∀ (H : Heap) (locs : List Loc) (ls : Array Slot), HH Z K H → (∀ q ∈ locs, zN Z q.base) → lv_has ls 9 [(0, .ref b0), (1, vr Z 0 0), (2, vr Z 26 0), (3, vr Z 29 0), (4, vi (i : Int))] → W p l e room_1 s m args below meth c H locs (c0 + dC I K) (s0 + dS I K) Q (F0 m 1210 ls [])) : W p l e room_1 s m args below meth c H locs c0 s0 Q (F0 m 600 ls []) := by
  have hcK : cle J K := (R_M_gap Z  J _ _ h2).1
  refine lv_aload_n b.1 b.2.1 dL_law_600 rfl (lv_at hl 1 rfl) ?_
  have R1 := R_PR_gap Z  I _ _ h1
  have hc1 : cle I J := R1.1
  refine lx_callV (n := 0) (As := []) (rest := []) b hfl hl.1 hH R1 ⟨(li_5 9 (by decide +kernel) (by decide +kernel)), (li_5 7 (by decide +kernel) (by decide +kernel)), (li_5 8 (by decide +kernel) (by decide +kernel)), (li_1 1 (by decide +kernel) (by decide +kernel)), by decide +kernel⟩ (fun gr => ob_0) rfl rfl ⟨Nat.le_of_ble_eq_true rfl, Nat.le_of_ble_eq_true rfl⟩ (Nat.le_of_ble_eq_true rfl) ⟨show c0 + dC I J ≤ 601024 by have q1 := dC_add hc1 hcK; have q2 := dC_self K; omega, show s0 + dS I J ≤ 7293034 by have q1 := dC_add hc1 hcK; have q2 := dC_self K; omega⟩ (li_5 6 (by decide +kernel) (by decide +kernel)) hlo dL_law_601 (fun H locs hH hlo => ?_)
  refine lv_pop b.1 b.2.1 dL_law_604 rfl ?_
  refine lv_aload_n b.1 b.2.1 dL_law_605 rfl (lv_at hl 2 rfl) ?_
  have R2 := R_M_gap Z  J _ _ h2
  have hc2 : cle J K := R2.1
  refine lx_callV (n := 0) (As := []) (rest := []) b hfl hl.1 hH R2 ⟨(li_9 87 (by decide +kernel) (by decide +kernel)), (li_9 85 (by decide +kernel) (by decide +kernel)), (li_9 86 (by decide +kernel) (by decide +kernel)), (li_1 16 (by decide +kernel) (by decide +kernel)), by decide +kernel⟩ (fun gr => ob_26) rfl rfl ⟨Nat.le_of_ble_eq_true rfl, Nat.le_of_ble_eq_true rfl⟩ (Nat.le_of_ble_eq_true rfl) ⟨show c0 + dC I J + dC J K ≤ 601024 by have q1 := dC_add hc1 hc2; have q2 := dC_self K; omega, show s0 + dS I J + dS J K ≤ 7293034 by have q1 := dC_add hc1 hc2; have q2 := dC_self K; omega⟩ (li_9 84 (by decide +kernel) (by decide +kernel)) hlo dL_law_606 (fun H locs hH hlo => ?_)
  refine lv_pop b.1 b.2.1 dL_law_609 rfl ?_
  refine lv_goto (tgt := 1210) b.1 b.2.1 dL_law_610 (by decide) ?_
  refine W.widen (k := c0 + dC I K) (n := s0 + dS I K) (show c0 + dC I J + dC J K ≤ c0 + dC I K by have q1 := dC_add hc1 hc2; have q2 := dC_self K; omega) (show s0 + dS I J + dS J K ≤ s0 + dS I K by have q1 := dC_add hc1 hc2; have q2 := dC_self K; omega) ?_
  exact kk H locs ls hH hlo (lv_sub hl [0, 1, 2, 3, 4] rfl)
set_option maxRecDepth 20000 in
set_option maxHeartbeats 4000000 in
theorem LC_14 {p : Program} {l : Launch} {e : Env} {s : State} {m : MethodId} {args : Array Value} {below : List Frame} {meth : Method} {c : Code} {H : Heap} {locs : List Loc} {c0 s0 : Nat} {Q : State → Prop} {ls : Array Slot} {Z : ZT} {I : Mem} {b0 L i : Nat} {xs : Nat → Int32} (b : BB p s m args c RL cL_law 9 Z) (hfl : l.stackTraces = false) (hX : va_X b0 L xs s s.heap) (hbl : b0 < s.heap.size) (hZ : zB Z = s.heap.size ∧ zH Z = s.heap) (hi : i + 6 ≤ L) (hL : L < 100000) (hH : HH Z I H) (hlo : ∀ q ∈ locs, zN Z q.base) (hl : lv_has ls 9 [(0, .ref b0), (1, vr Z 0 0), (2, vr Z 26 0), (3, vr Z 29 0), (4, vi (i : Int))]) {r1 : Int} {r2 : Int} {J K : Mem} (h1 : f_PR_rulesGap  I = some (r1, J)) (h2 : f_M_rulesGap  J = some (r2, K)) (hmc : c0 + dC I K ≤ 601024) (hms : s0 + dS I K ≤ 7293034)
    (kk : ∀ (H : Heap) (locs : List Loc) (ls : Array Slot), HH Z K H → (∀ q ∈ locs, zN Z q.base) → lv_has ls 9 [(0, .ref b0), (1, vr Z 0 0), (2, vr Z 26 0), (3, vr Z 29 0), (4, vi (i : Int))] → W p l e room_1 s m args below meth c H locs (c0 + dC I K) (s0 + dS I K) Q (F0 m 1210 ls [])) : W p l e room_1 s m args below meth c H locs c0 s0 Q (F0 m 613 ls []) := by
  have hcK : cle J K := (R_M_rulesGap Z  J _ _ h2).1
  refine lv_aload_n b.1 b.2.1 dL_law_613 rfl (lv_at hl 1 rfl) ?_
  have R1 := R_PR_rulesGap Z  I _ _ h1
  have hc1 : cle I J := R1.1
  refine lx_callV (n := 0) (As := []) (rest := []) b hfl hl.1 hH R1 ⟨(li_5 26 (by decide +kernel) (by decide +kernel)), (li_5 24 (by decide +kernel) (by decide +kernel)), (li_5 25 (by decide +kernel) (by decide +kernel)), (li_1 1 (by decide +kernel) (by decide +kernel)), by decide +kernel⟩ (fun gr => ob_0) rfl rfl ⟨Nat.le_of_ble_eq_true rfl, Nat.le_of_ble_eq_true rfl⟩ (Nat.le_of_ble_eq_true rfl) ⟨show c0 + dC I J ≤ 601024 by have q1 := dC_add hc1 hcK; have q2 := dC_self K; omega, show s0 + dS I J ≤ 7293034 by have q1 := dC_add hc1 hcK; have q2 := dC_self K; omega⟩ (li_5 23 (by decide +kernel) (by decide +kernel)) hlo dL_law_614 (fun H locs hH hlo => ?_)
  refine lv_pop b.1 b.2.1 dL_law_617 rfl ?_
  refine lv_aload_n b.1 b.2.1 dL_law_618 rfl (lv_at hl 2 rfl) ?_
  have R2 := R_M_rulesGap Z  J _ _ h2
  have hc2 : cle J K := R2.1
  refine lx_callV (n := 0) (As := []) (rest := []) b hfl hl.1 hH R2 ⟨(li_9 94 (by decide +kernel) (by decide +kernel)), (li_9 92 (by decide +kernel) (by decide +kernel)), (li_9 93 (by decide +kernel) (by decide +kernel)), (li_1 16 (by decide +kernel) (by decide +kernel)), by decide +kernel⟩ (fun gr => ob_26) rfl rfl ⟨Nat.le_of_ble_eq_true rfl, Nat.le_of_ble_eq_true rfl⟩ (Nat.le_of_ble_eq_true rfl) ⟨show c0 + dC I J + dC J K ≤ 601024 by have q1 := dC_add hc1 hc2; have q2 := dC_self K; omega, show s0 + dS I J + dS J K ≤ 7293034 by have q1 := dC_add hc1 hc2; have q2 := dC_self K; omega⟩ (li_9 91 (by decide +kernel) (by decide +kernel)) hlo dL_law_619 (fun H locs hH hlo => ?_)
  refine lv_pop b.1 b.2.1 dL_law_622 rfl ?_
  refine lv_goto (tgt := 1210) b.1 b.2.1 dL_law_623 (by decide) ?_
  refine W.widen (k := c0 + dC I K) (n := s0 + dS I K) (show c0 + dC I J + dC J K ≤ c0 + dC I K by have q1 := dC_add hc1 hc2; have q2 := dC_self K; omega) (show s0 + dS I J + dS J K ≤ s0 + dS I K by have q1 := dC_add hc1 hc2; have q2 := dC_self K; omega) ?_
  exact kk H locs ls hH hlo (lv_sub hl [0, 1, 2, 3, 4] rfl)
set_option maxRecDepth 20000 in
set_option maxHeartbeats 4000000 in
theorem LC_15 {p : Program} {l : Launch} {e : Env} {s : State} {m : MethodId} {args : Array Value} {below : List Frame} {meth : Method} {c : Code} {H : Heap} {locs : List Loc} {c0 s0 : Nat} {Q : State → Prop} {ls : Array Slot} {Z : ZT} {I : Mem} {b0 L i : Nat} {xs : Nat → Int32} (b : BB p s m args c RL cL_law 9 Z) (hfl : l.stackTraces = false) (hX : va_X b0 L xs s s.heap) (hbl : b0 < s.heap.size) (hZ : zB Z = s.heap.size ∧ zH Z = s.heap) (hi : i + 6 ≤ L) (hL : L < 100000) (hH : HH Z I H) (hlo : ∀ q ∈ locs, zN Z q.base) (hl : lv_has ls 9 [(0, .ref b0), (1, vr Z 0 0), (2, vr Z 26 0), (3, vr Z 29 0), (4, vi (i : Int))]) {r1 : UInt64} {r2 : UInt64} {J K : Mem} (h1 : f_PR_ratio  I = some (r1, J)) (h2 : f_M_ratio  J = some (r2, K)) (hmc : c0 + dC I K ≤ 601024) (hms : s0 + dS I K ≤ 7293034)
    (kk : ∀ (H : Heap) (locs : List Loc) (ls : Array Slot), HH Z K H → (∀ q ∈ locs, zN Z q.base) → lv_has ls 9 [(0, .ref b0), (1, vr Z 0 0), (2, vr Z 26 0), (3, vr Z 29 0), (4, vi (i : Int))] → W p l e room_1 s m args below meth c H locs (c0 + dC I K) (s0 + dS I K) Q (F0 m 1210 ls [])) : W p l e room_1 s m args below meth c H locs c0 s0 Q (F0 m 626 ls []) := by
  have hcK : cle J K := (R_M_ratio Z  J _ _ h2).1
  refine lv_aload_n b.1 b.2.1 dL_law_626 rfl (lv_at hl 1 rfl) ?_
  have R1 := R_PR_ratio Z  I _ _ h1
  have hc1 : cle I J := R1.1
  refine lx_callV (n := 0) (As := []) (rest := []) b hfl hl.1 hH R1 ⟨(li_5 39 (by decide +kernel) (by decide +kernel)), (li_5 37 (by decide +kernel) (by decide +kernel)), (li_5 38 (by decide +kernel) (by decide +kernel)), (li_1 1 (by decide +kernel) (by decide +kernel)), by decide +kernel⟩ (fun gr => ob_0) rfl rfl ⟨Nat.le_of_ble_eq_true rfl, Nat.le_of_ble_eq_true rfl⟩ (Nat.le_of_ble_eq_true rfl) ⟨show c0 + dC I J ≤ 601024 by have q1 := dC_add hc1 hcK; have q2 := dC_self K; omega, show s0 + dS I J ≤ 7293034 by have q1 := dC_add hc1 hcK; have q2 := dC_self K; omega⟩ (li_5 36 (by decide +kernel) (by decide +kernel)) hlo dL_law_627 (fun H locs hH hlo => ?_)
  refine lv_dstore (lv' := [(5, .double r1), (0, .ref b0), (1, vr Z 0 0), (2, vr Z 26 0), (3, vr Z 29 0), (4, vi (i : Int))]) b.1 b.2.1 dL_law_630 hl (by decide) rfl (fun ls hl => ?_)
  refine lv_aload_n b.1 b.2.1 dL_law_632 rfl (lv_at hl 3 rfl) ?_
  have R2 := R_M_ratio Z  J _ _ h2
  have hc2 : cle J K := R2.1
  refine lx_callV (n := 0) (As := []) (rest := []) b hfl hl.1 hH R2 ⟨(li_9 98 (by decide +kernel) (by decide +kernel)), (li_9 96 (by decide +kernel) (by decide +kernel)), (li_9 97 (by decide +kernel) (by decide +kernel)), (li_1 16 (by decide +kernel) (by decide +kernel)), by decide +kernel⟩ (fun gr => ob_26) rfl rfl ⟨Nat.le_of_ble_eq_true rfl, Nat.le_of_ble_eq_true rfl⟩ (Nat.le_of_ble_eq_true rfl) ⟨show c0 + dC I J + dC J K ≤ 601024 by have q1 := dC_add hc1 hc2; have q2 := dC_self K; omega, show s0 + dS I J + dS J K ≤ 7293034 by have q1 := dC_add hc1 hc2; have q2 := dC_self K; omega⟩ (li_9 95 (by decide +kernel) (by decide +kernel)) hlo dL_law_633 (fun H locs hH hlo => ?_)
  refine lv_dstore (lv' := [(7, .double r2), (5, .double r1), (0, .ref b0), (1, vr Z 0 0), (2, vr Z 26 0), (3, vr Z 29 0), (4, vi (i : Int))]) b.1 b.2.1 dL_law_636 hl (by decide) rfl (fun ls hl => ?_)
  refine lv_goto (tgt := 1210) b.1 b.2.1 dL_law_638 (by decide) ?_
  refine W.widen (k := c0 + dC I K) (n := s0 + dS I K) (show c0 + dC I J + dC J K ≤ c0 + dC I K by have q1 := dC_add hc1 hc2; have q2 := dC_self K; omega) (show s0 + dS I J + dS J K ≤ s0 + dS I K by have q1 := dC_add hc1 hc2; have q2 := dC_self K; omega) ?_
  exact kk H locs ls hH hlo (lv_sub hl [2, 3, 4, 5, 6] rfl)
set_option maxRecDepth 20000 in
set_option maxHeartbeats 4000000 in
theorem LC_16 {p : Program} {l : Launch} {e : Env} {s : State} {m : MethodId} {args : Array Value} {below : List Frame} {meth : Method} {c : Code} {H : Heap} {locs : List Loc} {c0 s0 : Nat} {Q : State → Prop} {ls : Array Slot} {Z : ZT} {I : Mem} {b0 L i : Nat} {xs : Nat → Int32} (b : BB p s m args c RL cL_law 9 Z) (hfl : l.stackTraces = false) (hX : va_X b0 L xs s s.heap) (hbl : b0 < s.heap.size) (hZ : zB Z = s.heap.size ∧ zH Z = s.heap) (hi : i + 6 ≤ L) (hL : L < 100000) (hH : HH Z I H) (hlo : ∀ q ∈ locs, zN Z q.base) (hl : lv_has ls 9 [(0, .ref b0), (1, vr Z 0 0), (2, vr Z 26 0), (3, vr Z 29 0), (4, vi (i : Int))]) {r1 : Int} {r2 : Int} {J K : Mem} (h1 : f_PR_meanBits  I = some (r1, J)) (h2 : f_M_meanBits  J = some (r2, K)) (hmc : c0 + dC I K ≤ 601024) (hms : s0 + dS I K ≤ 7293034)
    (kk : ∀ (H : Heap) (locs : List Loc) (ls : Array Slot), HH Z K H → (∀ q ∈ locs, zN Z q.base) → lv_has ls 9 [(0, .ref b0), (1, vr Z 0 0), (2, vr Z 26 0), (3, vr Z 29 0), (4, vi (i : Int))] → W p l e room_1 s m args below meth c H locs (c0 + dC I K) (s0 + dS I K) Q (F0 m 1210 ls [])) : W p l e room_1 s m args below meth c H locs c0 s0 Q (F0 m 641 ls []) := by
  have hcK : cle J K := (R_M_meanBits Z  J _ _ h2).1
  refine lv_aload_n b.1 b.2.1 dL_law_641 rfl (lv_at hl 1 rfl) ?_
  have R1 := R_PR_meanBits Z  I _ _ h1
  have hc1 : cle I J := R1.1
  refine lx_callV (n := 0) (As := []) (rest := []) b hfl hl.1 hH R1 ⟨(li_5 47 (by decide +kernel) (by decide +kernel)), (li_5 45 (by decide +kernel) (by decide +kernel)), (li_5 46 (by decide +kernel) (by decide +kernel)), (li_1 1 (by decide +kernel) (by decide +kernel)), by decide +kernel⟩ (fun gr => ob_0) rfl rfl ⟨Nat.le_of_ble_eq_true rfl, Nat.le_of_ble_eq_true rfl⟩ (Nat.le_of_ble_eq_true rfl) ⟨show c0 + dC I J ≤ 601024 by have q1 := dC_add hc1 hcK; have q2 := dC_self K; omega, show s0 + dS I J ≤ 7293034 by have q1 := dC_add hc1 hcK; have q2 := dC_self K; omega⟩ (li_5 44 (by decide +kernel) (by decide +kernel)) hlo dL_law_642 (fun H locs hH hlo => ?_)
  refine lv_pop b.1 b.2.1 dL_law_645 rfl ?_
  refine lv_aload_n b.1 b.2.1 dL_law_646 rfl (lv_at hl 2 rfl) ?_
  have R2 := R_M_meanBits Z  J _ _ h2
  have hc2 : cle J K := R2.1
  refine lx_callV (n := 0) (As := []) (rest := []) b hfl hl.1 hH R2 ⟨(li_9 102 (by decide +kernel) (by decide +kernel)), (li_9 100 (by decide +kernel) (by decide +kernel)), (li_9 101 (by decide +kernel) (by decide +kernel)), (li_1 16 (by decide +kernel) (by decide +kernel)), by decide +kernel⟩ (fun gr => ob_26) rfl rfl ⟨Nat.le_of_ble_eq_true rfl, Nat.le_of_ble_eq_true rfl⟩ (Nat.le_of_ble_eq_true rfl) ⟨show c0 + dC I J + dC J K ≤ 601024 by have q1 := dC_add hc1 hc2; have q2 := dC_self K; omega, show s0 + dS I J + dS J K ≤ 7293034 by have q1 := dC_add hc1 hc2; have q2 := dC_self K; omega⟩ (li_9 99 (by decide +kernel) (by decide +kernel)) hlo dL_law_647 (fun H locs hH hlo => ?_)
  refine lv_pop b.1 b.2.1 dL_law_650 rfl ?_
  refine lv_goto (tgt := 1210) b.1 b.2.1 dL_law_651 (by decide) ?_
  refine W.widen (k := c0 + dC I K) (n := s0 + dS I K) (show c0 + dC I J + dC J K ≤ c0 + dC I K by have q1 := dC_add hc1 hc2; have q2 := dC_self K; omega) (show s0 + dS I J + dS J K ≤ s0 + dS I K by have q1 := dC_add hc1 hc2; have q2 := dC_self K; omega) ?_
  exact kk H locs ls hH hlo (lv_sub hl [0, 1, 2, 3, 4] rfl)
set_option maxRecDepth 20000 in
set_option maxHeartbeats 4000000 in
theorem LC_17 {p : Program} {l : Launch} {e : Env} {s : State} {m : MethodId} {args : Array Value} {below : List Frame} {meth : Method} {c : Code} {H : Heap} {locs : List Loc} {c0 s0 : Nat} {Q : State → Prop} {ls : Array Slot} {Z : ZT} {I : Mem} {b0 L i : Nat} {xs : Nat → Int32} (b : BB p s m args c RL cL_law 9 Z) (hfl : l.stackTraces = false) (hX : va_X b0 L xs s s.heap) (hbl : b0 < s.heap.size) (hZ : zB Z = s.heap.size ∧ zH Z = s.heap) (hi : i + 6 ≤ L) (hL : L < 100000) (hH : HH Z I H) (hlo : ∀ q ∈ locs, zN Z q.base) (hl : lv_has ls 9 [(0, .ref b0), (1, vr Z 0 0), (2, vr Z 26 0), (3, vr Z 29 0), (4, vi (i : Int))]) {r1 : Int} {r2 : Int} {J K : Mem} (h1 : f_PR_digest  I = some (r1, J)) (h2 : f_M_digest  J = some (r2, K)) (hmc : c0 + dC I K ≤ 601024) (hms : s0 + dS I K ≤ 7293034)
    (kk : ∀ (H : Heap) (locs : List Loc) (ls : Array Slot), HH Z K H → (∀ q ∈ locs, zN Z q.base) → lv_has ls 9 [(0, .ref b0), (1, vr Z 0 0), (2, vr Z 26 0), (3, vr Z 29 0), (4, vi (i : Int))] → W p l e room_1 s m args below meth c H locs (c0 + dC I K) (s0 + dS I K) Q (F0 m 1210 ls [])) : W p l e room_1 s m args below meth c H locs c0 s0 Q (F0 m 654 ls []) := by
  have hcK : cle J K := (R_M_digest Z  J _ _ h2).1
  refine lv_aload_n b.1 b.2.1 dL_law_654 rfl (lv_at hl 1 rfl) ?_
  have R1 := R_PR_digest Z  I _ _ h1
  have hc1 : cle I J := R1.1
  refine lx_callV (n := 0) (As := []) (rest := []) b hfl hl.1 hH R1 ⟨(li_5 58 (by decide +kernel) (by decide +kernel)), (li_5 56 (by decide +kernel) (by decide +kernel)), (li_5 57 (by decide +kernel) (by decide +kernel)), (li_1 1 (by decide +kernel) (by decide +kernel)), by decide +kernel⟩ (fun gr => ob_0) rfl rfl ⟨Nat.le_of_ble_eq_true rfl, Nat.le_of_ble_eq_true rfl⟩ (Nat.le_of_ble_eq_true rfl) ⟨show c0 + dC I J ≤ 601024 by have q1 := dC_add hc1 hcK; have q2 := dC_self K; omega, show s0 + dS I J ≤ 7293034 by have q1 := dC_add hc1 hcK; have q2 := dC_self K; omega⟩ (li_5 55 (by decide +kernel) (by decide +kernel)) hlo dL_law_655 (fun H locs hH hlo => ?_)
  refine lv_pop2_2 b.1 b.2.1 dL_law_658 rfl ?_
  refine lv_aload_n b.1 b.2.1 dL_law_659 rfl (lv_at hl 2 rfl) ?_
  have R2 := R_M_digest Z  J _ _ h2
  have hc2 : cle J K := R2.1
  refine lx_callV (n := 0) (As := []) (rest := []) b hfl hl.1 hH R2 ⟨(li_9 116 (by decide +kernel) (by decide +kernel)), (li_9 114 (by decide +kernel) (by decide +kernel)), (li_9 115 (by decide +kernel) (by decide +kernel)), (li_1 16 (by decide +kernel) (by decide +kernel)), by decide +kernel⟩ (fun gr => ob_26) rfl rfl ⟨Nat.le_of_ble_eq_true rfl, Nat.le_of_ble_eq_true rfl⟩ (Nat.le_of_ble_eq_true rfl) ⟨show c0 + dC I J + dC J K ≤ 601024 by have q1 := dC_add hc1 hc2; have q2 := dC_self K; omega, show s0 + dS I J + dS J K ≤ 7293034 by have q1 := dC_add hc1 hc2; have q2 := dC_self K; omega⟩ (li_9 113 (by decide +kernel) (by decide +kernel)) hlo dL_law_660 (fun H locs hH hlo => ?_)
  refine lv_pop2_2 b.1 b.2.1 dL_law_663 rfl ?_
  refine lv_goto (tgt := 1210) b.1 b.2.1 dL_law_664 (by decide) ?_
  refine W.widen (k := c0 + dC I K) (n := s0 + dS I K) (show c0 + dC I J + dC J K ≤ c0 + dC I K by have q1 := dC_add hc1 hc2; have q2 := dC_self K; omega) (show s0 + dS I J + dS J K ≤ s0 + dS I K by have q1 := dC_add hc1 hc2; have q2 := dC_self K; omega) ?_
  exact kk H locs ls hH hlo (lv_sub hl [0, 1, 2, 3, 4] rfl)
set_option maxRecDepth 20000 in
set_option maxHeartbeats 4000000 in
theorem LC_18 {p : Program} {l : Launch} {e : Env} {s : State} {m : MethodId} {args : Array Value} {below : List Frame} {meth : Method} {c : Code} {H : Heap} {locs : List Loc} {c0 s0 : Nat} {Q : State → Prop} {ls : Array Slot} {Z : ZT} {I : Mem} {b0 L i : Nat} {xs : Nat → Int32} (b : BB p s m args c RL cL_law 9 Z) (hfl : l.stackTraces = false) (hX : va_X b0 L xs s s.heap) (hbl : b0 < s.heap.size) (hZ : zB Z = s.heap.size ∧ zH Z = s.heap) (hi : i + 6 ≤ L) (hL : L < 100000) (hH : HH Z I H) (hlo : ∀ q ∈ locs, zN Z q.base) (hl : lv_has ls 9 [(0, .ref b0), (1, vr Z 0 0), (2, vr Z 26 0), (3, vr Z 29 0), (4, vi (i : Int))]) {r1 : Int} {r2 : Int} {J K : Mem} (h1 : f_L_count ((xs (i + 1)).toInt) ((xs (i + 2)).toInt) I = some (r1, J)) (h2 : f_M_count ((xs (i + 1)).toInt) ((xs (i + 2)).toInt) J = some (r2, K)) (hmc : c0 + dC I K ≤ 601024) (hms : s0 + dS I K ≤ 7293034)
    (kk : ∀ (H : Heap) (locs : List Loc) (ls : Array Slot), HH Z K H → (∀ q ∈ locs, zN Z q.base) → lv_has ls 9 [(0, .ref b0), (1, vr Z 0 0), (2, vr Z 26 0), (3, vr Z 29 0), (4, vi (i : Int))] → W p l e room_1 s m args below meth c H locs (c0 + dC I K) (s0 + dS I K) Q (F0 m 1210 ls [])) : W p l e room_1 s m args below meth c H locs c0 s0 Q (F0 m 667 ls []) := by
  have hcK : cle J K := (R_M_count Z ((xs (i + 1)).toInt) ((xs (i + 2)).toInt) J _ _ h2).1
  refine lv_aload_n b.1 b.2.1 dL_law_667 rfl (lv_at hl 1 rfl) ?_
  refine lv_aload_n b.1 b.2.1 dL_law_668 rfl (lv_at hl 0 rfl) ?_
  refine lv_iload b.1 b.2.1 dL_law_669 (lv_at hl 4 rfl) ?_
  refine lv_iconst (v := Int32.ofInt 1) b.1 b.2.1 dL_law_671 rfl ?_
  refine lx_iadd b dL_law_672 ?_
  refine lx_sld (q := i + 1) b hX hbl hZ hH hlo (w32_of (by omega) (by omega)) (by omega) dL_law_673 ?_
  refine lv_aload_n b.1 b.2.1 dL_law_674 rfl (lv_at hl 0 rfl) ?_
  refine lv_iload b.1 b.2.1 dL_law_675 (lv_at hl 4 rfl) ?_
  refine lv_iconst (v := Int32.ofInt 2) b.1 b.2.1 dL_law_677 rfl ?_
  refine lx_iadd b dL_law_678 ?_
  refine lx_sld (q := i + 2) b hX hbl hZ hH hlo (w32_of (by omega) (by omega)) (by omega) dL_law_679 ?_
  refine lv_aload_n b.1 b.2.1 dL_law_680 rfl (lv_at hl 3 rfl) ?_
  have R1 := R_L_count Z ((xs (i + 1)).toInt) ((xs (i + 2)).toInt) I _ _ h1
  have hc1 : cle I J := R1.1
  refine lx_callS (n := 4) (As := [vr Z 0 0, vi (xs (i + 1)).toInt, vi (xs (i + 2)).toInt, vr Z 29 0]) (rest := []) b hfl hl.1 hH R1 (li_6 108 (by decide +kernel) (by decide +kernel)) (li_6 107 (by decide +kernel) (by decide +kernel)) (li_1 0 (by decide +kernel) (by decide +kernel)) (by decide +kernel) rfl rfl ⟨Nat.le_of_ble_eq_true rfl, Nat.le_of_ble_eq_true rfl⟩ (Nat.le_of_ble_eq_true rfl) ⟨show c0 + dC I J ≤ 601024 by have q1 := dC_add hc1 hcK; have q2 := dC_self K; omega, show s0 + dS I J ≤ 7293034 by have q1 := dC_add hc1 hcK; have q2 := dC_self K; omega⟩ (li_6 106 (by decide +kernel) (by decide +kernel)) hlo dL_law_681 (fun H locs hH hlo => ?_)
  refine lv_istore (lv' := [(5, vi r1), (0, .ref b0), (1, vr Z 0 0), (2, vr Z 26 0), (3, vr Z 29 0), (4, vi (i : Int))]) b.1 b.2.1 dL_law_684 hl (by decide) rfl (fun ls hl => ?_)
  refine lv_aload_n b.1 b.2.1 dL_law_686 rfl (lv_at hl 3 rfl) ?_
  refine lv_aload_n b.1 b.2.1 dL_law_687 rfl (lv_at hl 1 rfl) ?_
  refine lv_iload b.1 b.2.1 dL_law_688 (lv_at hl 5 rfl) ?_
  refine lv_iconst (v := Int32.ofInt 1) b.1 b.2.1 dL_law_690 rfl ?_
  refine lx_iadd b dL_law_691 ?_
  refine lx_sld (q := i + 1) b hX hbl hZ hH hlo (w32_of (by omega) (by omega)) (by omega) dL_law_692 ?_
  refine lv_aload_n b.1 b.2.1 dL_law_693 rfl (lv_at hl 1 rfl) ?_
  refine lv_iload b.1 b.2.1 dL_law_694 (lv_at hl 5 rfl) ?_
  refine lv_iconst (v := Int32.ofInt 2) b.1 b.2.1 dL_law_696 rfl ?_
  refine lx_iadd b dL_law_697 ?_
  refine lx_sld (q := i + 2) b hX hbl hZ hH hlo (w32_of (by omega) (by omega)) (by omega) dL_law_698 ?_
  have R2 := R_M_count Z ((xs (i + 1)).toInt) ((xs (i + 2)).toInt) J _ _ h2
  have hc2 : cle J K := R2.1
  refine lx_callV (n := 2) (As := [vi (xs (i + 1)).toInt, vi (xs (i + 2)).toInt]) (rest := []) b hfl hl.1 hH R2 ⟨(li_9 121 (by decide +kernel) (by decide +kernel)), (li_9 119 (by decide +kernel) (by decide +kernel)), (li_9 120 (by decide +kernel) (by decide +kernel)), (li_1 16 (by decide +kernel) (by decide +kernel)), by decide +kernel⟩ (fun gr => ob_26) rfl rfl ⟨Nat.le_of_ble_eq_true rfl, Nat.le_of_ble_eq_true rfl⟩ (Nat.le_of_ble_eq_true rfl) ⟨show c0 + dC I J + dC J K ≤ 601024 by have q1 := dC_add hc1 hc2; have q2 := dC_self K; omega, show s0 + dS I J + dS J K ≤ 7293034 by have q1 := dC_add hc1 hc2; have q2 := dC_self K; omega⟩ (li_9 118 (by decide +kernel) (by decide +kernel)) hlo dL_law_699 (fun H locs hH hlo => ?_)
  refine lv_istore (lv' := [(6, vi r2), (5, vi r1), (0, .ref b0), (1, vr Z 0 0), (2, vr Z 26 0), (3, vr Z 29 0), (4, vi (i : Int))]) b.1 b.2.1 dL_law_702 hl (by decide) rfl (fun ls hl => ?_)
  refine lv_goto (tgt := 1210) b.1 b.2.1 dL_law_704 (by decide) ?_
  refine W.widen (k := c0 + dC I K) (n := s0 + dS I K) (show c0 + dC I J + dC J K ≤ c0 + dC I K by have q1 := dC_add hc1 hc2; have q2 := dC_self K; omega) (show s0 + dS I J + dS J K ≤ s0 + dS I K by have q1 := dC_add hc1 hc2; have q2 := dC_self K; omega) ?_
  exact kk H locs ls hH hlo (lv_sub hl [2, 3, 4, 5, 6] rfl)
set_option maxRecDepth 20000 in
set_option maxHeartbeats 4000000 in
theorem LC_19 {p : Program} {l : Launch} {e : Env} {s : State} {m : MethodId} {args : Array Value} {below : List Frame} {meth : Method} {c : Code} {H : Heap} {locs : List Loc} {c0 s0 : Nat} {Q : State → Prop} {ls : Array Slot} {Z : ZT} {I : Mem} {b0 L i : Nat} {xs : Nat → Int32} (b : BB p s m args c RL cL_law 9 Z) (hfl : l.stackTraces = false) (hX : va_X b0 L xs s s.heap) (hbl : b0 < s.heap.size) (hZ : zB Z = s.heap.size ∧ zH Z = s.heap) (hi : i + 6 ≤ L) (hL : L < 100000) (hH : HH Z I H) (hlo : ∀ q ∈ locs, zN Z q.base) (hl : lv_has ls 9 [(0, .ref b0), (1, vr Z 0 0), (2, vr Z 26 0), (3, vr Z 29 0), (4, vi (i : Int))]) {r1 : Int} {r2 : Int} {J K : Mem} (h1 : f_L_best ((xs (i + 1)).toInt) I = some (r1, J)) (h2 : f_M_best ((xs (i + 1)).toInt) J = some (r2, K)) (hmc : c0 + dC I K ≤ 601024) (hms : s0 + dS I K ≤ 7293034)
    (kk : ∀ (H : Heap) (locs : List Loc) (ls : Array Slot), HH Z K H → (∀ q ∈ locs, zN Z q.base) → lv_has ls 9 [(0, .ref b0), (1, vr Z 0 0), (2, vr Z 26 0), (3, vr Z 29 0), (4, vi (i : Int))] → W p l e room_1 s m args below meth c H locs (c0 + dC I K) (s0 + dS I K) Q (F0 m 1210 ls [])) : W p l e room_1 s m args below meth c H locs c0 s0 Q (F0 m 707 ls []) := by
  have hcK : cle J K := (R_M_best Z ((xs (i + 1)).toInt) J _ _ h2).1
  refine lv_aload_n b.1 b.2.1 dL_law_707 rfl (lv_at hl 1 rfl) ?_
  refine lv_aload_n b.1 b.2.1 dL_law_708 rfl (lv_at hl 0 rfl) ?_
  refine lv_iload b.1 b.2.1 dL_law_709 (lv_at hl 4 rfl) ?_
  refine lv_iconst (v := Int32.ofInt 1) b.1 b.2.1 dL_law_711 rfl ?_
  refine lx_iadd b dL_law_712 ?_
  refine lx_sld (q := i + 1) b hX hbl hZ hH hlo (w32_of (by omega) (by omega)) (by omega) dL_law_713 ?_
  refine lv_aload_n b.1 b.2.1 dL_law_714 rfl (lv_at hl 3 rfl) ?_
  have R1 := R_L_best Z ((xs (i + 1)).toInt) I _ _ h1
  have hc1 : cle I J := R1.1
  refine lx_callS (n := 3) (As := [vr Z 0 0, vi (xs (i + 1)).toInt, vr Z 29 0]) (rest := []) b hfl hl.1 hH R1 (li_6 116 (by decide +kernel) (by decide +kernel)) (li_6 115 (by decide +kernel) (by decide +kernel)) (li_1 0 (by decide +kernel) (by decide +kernel)) (by decide +kernel) rfl rfl ⟨Nat.le_of_ble_eq_true rfl, Nat.le_of_ble_eq_true rfl⟩ (Nat.le_of_ble_eq_true rfl) ⟨show c0 + dC I J ≤ 601024 by have q1 := dC_add hc1 hcK; have q2 := dC_self K; omega, show s0 + dS I J ≤ 7293034 by have q1 := dC_add hc1 hcK; have q2 := dC_self K; omega⟩ (li_6 114 (by decide +kernel) (by decide +kernel)) hlo dL_law_715 (fun H locs hH hlo => ?_)
  refine lv_istore (lv' := [(5, vi r1), (0, .ref b0), (1, vr Z 0 0), (2, vr Z 26 0), (3, vr Z 29 0), (4, vi (i : Int))]) b.1 b.2.1 dL_law_718 hl (by decide) rfl (fun ls hl => ?_)
  refine lv_aload_n b.1 b.2.1 dL_law_720 rfl (lv_at hl 3 rfl) ?_
  refine lv_aload_n b.1 b.2.1 dL_law_721 rfl (lv_at hl 1 rfl) ?_
  refine lv_iload b.1 b.2.1 dL_law_722 (lv_at hl 5 rfl) ?_
  refine lv_iconst (v := Int32.ofInt 1) b.1 b.2.1 dL_law_724 rfl ?_
  refine lx_iadd b dL_law_725 ?_
  refine lx_sld (q := i + 1) b hX hbl hZ hH hlo (w32_of (by omega) (by omega)) (by omega) dL_law_726 ?_
  have R2 := R_M_best Z ((xs (i + 1)).toInt) J _ _ h2
  have hc2 : cle J K := R2.1
  refine lx_callV (n := 1) (As := [vi (xs (i + 1)).toInt]) (rest := []) b hfl hl.1 hH R2 ⟨(li_9 129 (by decide +kernel) (by decide +kernel)), (li_9 127 (by decide +kernel) (by decide +kernel)), (li_9 128 (by decide +kernel) (by decide +kernel)), (li_1 16 (by decide +kernel) (by decide +kernel)), by decide +kernel⟩ (fun gr => ob_26) rfl rfl ⟨Nat.le_of_ble_eq_true rfl, Nat.le_of_ble_eq_true rfl⟩ (Nat.le_of_ble_eq_true rfl) ⟨show c0 + dC I J + dC J K ≤ 601024 by have q1 := dC_add hc1 hc2; have q2 := dC_self K; omega, show s0 + dS I J + dS J K ≤ 7293034 by have q1 := dC_add hc1 hc2; have q2 := dC_self K; omega⟩ (li_9 126 (by decide +kernel) (by decide +kernel)) hlo dL_law_727 (fun H locs hH hlo => ?_)
  refine lv_istore (lv' := [(6, vi r2), (5, vi r1), (0, .ref b0), (1, vr Z 0 0), (2, vr Z 26 0), (3, vr Z 29 0), (4, vi (i : Int))]) b.1 b.2.1 dL_law_730 hl (by decide) rfl (fun ls hl => ?_)
  refine lv_goto (tgt := 1210) b.1 b.2.1 dL_law_732 (by decide) ?_
  refine W.widen (k := c0 + dC I K) (n := s0 + dS I K) (show c0 + dC I J + dC J K ≤ c0 + dC I K by have q1 := dC_add hc1 hc2; have q2 := dC_self K; omega) (show s0 + dS I J + dS J K ≤ s0 + dS I K by have q1 := dC_add hc1 hc2; have q2 := dC_self K; omega) ?_
  exact kk H locs ls hH hlo (lv_sub hl [2, 3, 4, 5, 6] rfl)
set_option maxRecDepth 20000 in
set_option maxHeartbeats 4000000 in
theorem LC_20 {p : Program} {l : Launch} {e : Env} {s : State} {m : MethodId} {args : Array Value} {below : List Frame} {meth : Method} {c : Code} {H : Heap} {locs : List Loc} {c0 s0 : Nat} {Q : State → Prop} {ls : Array Slot} {Z : ZT} {I : Mem} {b0 L i : Nat} {xs : Nat → Int32} (b : BB p s m args c RL cL_law 9 Z) (hfl : l.stackTraces = false) (hX : va_X b0 L xs s s.heap) (hbl : b0 < s.heap.size) (hZ : zB Z = s.heap.size ∧ zH Z = s.heap) (hi : i + 6 ≤ L) (hL : L < 100000) (hH : HH Z I H) (hlo : ∀ q ∈ locs, zN Z q.base) (hl : lv_has ls 9 [(0, .ref b0), (1, vr Z 0 0), (2, vr Z 26 0), (3, vr Z 29 0), (4, vi (i : Int))]) {r1 : Int} {r2 : Int} {J K : Mem} (h1 : f_L_why ((xs (i + 1)).toInt) ((xs (i + 2)).toInt) I = some (r1, J)) (h2 : f_M_why ((xs (i + 1)).toInt) ((xs (i + 2)).toInt) J = some (r2, K)) (hmc : c0 + dC I K ≤ 601024) (hms : s0 + dS I K ≤ 7293034)
    (kk : ∀ (H : Heap) (locs : List Loc) (ls : Array Slot), HH Z K H → (∀ q ∈ locs, zN Z q.base) → lv_has ls 9 [(0, .ref b0), (1, vr Z 0 0), (2, vr Z 26 0), (3, vr Z 29 0), (4, vi (i : Int))] → W p l e room_1 s m args below meth c H locs (c0 + dC I K) (s0 + dS I K) Q (F0 m 1210 ls [])) : W p l e room_1 s m args below meth c H locs c0 s0 Q (F0 m 735 ls []) := by
  have hcK : cle J K := (R_M_why Z ((xs (i + 1)).toInt) ((xs (i + 2)).toInt) J _ _ h2).1
  refine lv_aload_n b.1 b.2.1 dL_law_735 rfl (lv_at hl 1 rfl) ?_
  refine lv_aload_n b.1 b.2.1 dL_law_736 rfl (lv_at hl 0 rfl) ?_
  refine lv_iload b.1 b.2.1 dL_law_737 (lv_at hl 4 rfl) ?_
  refine lv_iconst (v := Int32.ofInt 1) b.1 b.2.1 dL_law_739 rfl ?_
  refine lx_iadd b dL_law_740 ?_
  refine lx_sld (q := i + 1) b hX hbl hZ hH hlo (w32_of (by omega) (by omega)) (by omega) dL_law_741 ?_
  refine lv_aload_n b.1 b.2.1 dL_law_742 rfl (lv_at hl 0 rfl) ?_
  refine lv_iload b.1 b.2.1 dL_law_743 (lv_at hl 4 rfl) ?_
  refine lv_iconst (v := Int32.ofInt 2) b.1 b.2.1 dL_law_745 rfl ?_
  refine lx_iadd b dL_law_746 ?_
  refine lx_sld (q := i + 2) b hX hbl hZ hH hlo (w32_of (by omega) (by omega)) (by omega) dL_law_747 ?_
  refine lv_aload_n b.1 b.2.1 dL_law_748 rfl (lv_at hl 3 rfl) ?_
  have R1 := R_L_why Z ((xs (i + 1)).toInt) ((xs (i + 2)).toInt) I _ _ h1
  have hc1 : cle I J := R1.1
  refine lx_callS (n := 4) (As := [vr Z 0 0, vi (xs (i + 1)).toInt, vi (xs (i + 2)).toInt, vr Z 29 0]) (rest := []) b hfl hl.1 hH R1 (li_6 130 (by decide +kernel) (by decide +kernel)) (li_6 129 (by decide +kernel) (by decide +kernel)) (li_1 0 (by decide +kernel) (by decide +kernel)) (by decide +kernel) rfl rfl ⟨Nat.le_of_ble_eq_true rfl, Nat.le_of_ble_eq_true rfl⟩ (Nat.le_of_ble_eq_true rfl) ⟨show c0 + dC I J ≤ 601024 by have q1 := dC_add hc1 hcK; have q2 := dC_self K; omega, show s0 + dS I J ≤ 7293034 by have q1 := dC_add hc1 hcK; have q2 := dC_self K; omega⟩ (li_6 128 (by decide +kernel) (by decide +kernel)) hlo dL_law_749 (fun H locs hH hlo => ?_)
  refine lv_istore (lv' := [(5, vi r1), (0, .ref b0), (1, vr Z 0 0), (2, vr Z 26 0), (3, vr Z 29 0), (4, vi (i : Int))]) b.1 b.2.1 dL_law_752 hl (by decide) rfl (fun ls hl => ?_)
  refine lv_aload_n b.1 b.2.1 dL_law_754 rfl (lv_at hl 3 rfl) ?_
  refine lv_aload_n b.1 b.2.1 dL_law_755 rfl (lv_at hl 1 rfl) ?_
  refine lv_iload b.1 b.2.1 dL_law_756 (lv_at hl 5 rfl) ?_
  refine lv_iconst (v := Int32.ofInt 1) b.1 b.2.1 dL_law_758 rfl ?_
  refine lx_iadd b dL_law_759 ?_
  refine lx_sld (q := i + 1) b hX hbl hZ hH hlo (w32_of (by omega) (by omega)) (by omega) dL_law_760 ?_
  refine lv_aload_n b.1 b.2.1 dL_law_761 rfl (lv_at hl 1 rfl) ?_
  refine lv_iload b.1 b.2.1 dL_law_762 (lv_at hl 5 rfl) ?_
  refine lv_iconst (v := Int32.ofInt 2) b.1 b.2.1 dL_law_764 rfl ?_
  refine lx_iadd b dL_law_765 ?_
  refine lx_sld (q := i + 2) b hX hbl hZ hH hlo (w32_of (by omega) (by omega)) (by omega) dL_law_766 ?_
  have R2 := R_M_why Z ((xs (i + 1)).toInt) ((xs (i + 2)).toInt) J _ _ h2
  have hc2 : cle J K := R2.1
  refine lx_callV (n := 2) (As := [vi (xs (i + 1)).toInt, vi (xs (i + 2)).toInt]) (rest := []) b hfl hl.1 hH R2 ⟨(li_9 133 (by decide +kernel) (by decide +kernel)), (li_9 131 (by decide +kernel) (by decide +kernel)), (li_9 132 (by decide +kernel) (by decide +kernel)), (li_1 16 (by decide +kernel) (by decide +kernel)), by decide +kernel⟩ (fun gr => ob_26) rfl rfl ⟨Nat.le_of_ble_eq_true rfl, Nat.le_of_ble_eq_true rfl⟩ (Nat.le_of_ble_eq_true rfl) ⟨show c0 + dC I J + dC J K ≤ 601024 by have q1 := dC_add hc1 hc2; have q2 := dC_self K; omega, show s0 + dS I J + dS J K ≤ 7293034 by have q1 := dC_add hc1 hc2; have q2 := dC_self K; omega⟩ (li_9 130 (by decide +kernel) (by decide +kernel)) hlo dL_law_767 (fun H locs hH hlo => ?_)
  refine lv_istore (lv' := [(6, vi r2), (5, vi r1), (0, .ref b0), (1, vr Z 0 0), (2, vr Z 26 0), (3, vr Z 29 0), (4, vi (i : Int))]) b.1 b.2.1 dL_law_770 hl (by decide) rfl (fun ls hl => ?_)
  refine lv_goto (tgt := 1210) b.1 b.2.1 dL_law_772 (by decide) ?_
  refine W.widen (k := c0 + dC I K) (n := s0 + dS I K) (show c0 + dC I J + dC J K ≤ c0 + dC I K by have q1 := dC_add hc1 hc2; have q2 := dC_self K; omega) (show s0 + dS I J + dS J K ≤ s0 + dS I K by have q1 := dC_add hc1 hc2; have q2 := dC_self K; omega) ?_
  exact kk H locs ls hH hlo (lv_sub hl [2, 3, 4, 5, 6] rfl)
set_option maxRecDepth 20000 in
set_option maxHeartbeats 4000000 in
theorem LC_21 {p : Program} {l : Launch} {e : Env} {s : State} {m : MethodId} {args : Array Value} {below : List Frame} {meth : Method} {c : Code} {H : Heap} {locs : List Loc} {c0 s0 : Nat} {Q : State → Prop} {ls : Array Slot} {Z : ZT} {I : Mem} {b0 L i : Nat} {xs : Nat → Int32} (b : BB p s m args c RL cL_law 9 Z) (hfl : l.stackTraces = false) (hX : va_X b0 L xs s s.heap) (hbl : b0 < s.heap.size) (hZ : zB Z = s.heap.size ∧ zH Z = s.heap) (hi : i + 6 ≤ L) (hL : L < 100000) (hH : HH Z I H) (hlo : ∀ q ∈ locs, zN Z q.base) (hl : lv_has ls 9 [(0, .ref b0), (1, vr Z 0 0), (2, vr Z 26 0), (3, vr Z 29 0), (4, vi (i : Int))]) {r1 : Int} {r2 : Int} {J K : Mem} (h1 : f_L_gain ((xs (i + 1)).toInt) ((xs (i + 2)).toInt) I = some (r1, J)) (h2 : f_M_gain ((xs (i + 1)).toInt) ((xs (i + 2)).toInt) J = some (r2, K)) (hmc : c0 + dC I K ≤ 601024) (hms : s0 + dS I K ≤ 7293034)
    (kk : ∀ (H : Heap) (locs : List Loc) (ls : Array Slot), HH Z K H → (∀ q ∈ locs, zN Z q.base) → lv_has ls 9 [(0, .ref b0), (1, vr Z 0 0), (2, vr Z 26 0), (3, vr Z 29 0), (4, vi (i : Int))] → W p l e room_1 s m args below meth c H locs (c0 + dC I K) (s0 + dS I K) Q (F0 m 1210 ls [])) : W p l e room_1 s m args below meth c H locs c0 s0 Q (F0 m 775 ls []) := by
  have hcK : cle J K := (R_M_gain Z ((xs (i + 1)).toInt) ((xs (i + 2)).toInt) J _ _ h2).1
  refine lv_aload_n b.1 b.2.1 dL_law_775 rfl (lv_at hl 1 rfl) ?_
  refine lv_aload_n b.1 b.2.1 dL_law_776 rfl (lv_at hl 0 rfl) ?_
  refine lv_iload b.1 b.2.1 dL_law_777 (lv_at hl 4 rfl) ?_
  refine lv_iconst (v := Int32.ofInt 1) b.1 b.2.1 dL_law_779 rfl ?_
  refine lx_iadd b dL_law_780 ?_
  refine lx_sld (q := i + 1) b hX hbl hZ hH hlo (w32_of (by omega) (by omega)) (by omega) dL_law_781 ?_
  refine lv_aload_n b.1 b.2.1 dL_law_782 rfl (lv_at hl 0 rfl) ?_
  refine lv_iload b.1 b.2.1 dL_law_783 (lv_at hl 4 rfl) ?_
  refine lv_iconst (v := Int32.ofInt 2) b.1 b.2.1 dL_law_785 rfl ?_
  refine lx_iadd b dL_law_786 ?_
  refine lx_sld (q := i + 2) b hX hbl hZ hH hlo (w32_of (by omega) (by omega)) (by omega) dL_law_787 ?_
  refine lv_aload_n b.1 b.2.1 dL_law_788 rfl (lv_at hl 3 rfl) ?_
  have R1 := R_L_gain Z ((xs (i + 1)).toInt) ((xs (i + 2)).toInt) I _ _ h1
  have hc1 : cle I J := R1.1
  refine lx_callS (n := 4) (As := [vr Z 0 0, vi (xs (i + 1)).toInt, vi (xs (i + 2)).toInt, vr Z 29 0]) (rest := []) b hfl hl.1 hH R1 (li_6 138 (by decide +kernel) (by decide +kernel)) (li_6 137 (by decide +kernel) (by decide +kernel)) (li_1 0 (by decide +kernel) (by decide +kernel)) (by decide +kernel) rfl rfl ⟨Nat.le_of_ble_eq_true rfl, Nat.le_of_ble_eq_true rfl⟩ (Nat.le_of_ble_eq_true rfl) ⟨show c0 + dC I J ≤ 601024 by have q1 := dC_add hc1 hcK; have q2 := dC_self K; omega, show s0 + dS I J ≤ 7293034 by have q1 := dC_add hc1 hcK; have q2 := dC_self K; omega⟩ (li_6 136 (by decide +kernel) (by decide +kernel)) hlo dL_law_789 (fun H locs hH hlo => ?_)
  refine lv_istore (lv' := [(5, vi r1), (0, .ref b0), (1, vr Z 0 0), (2, vr Z 26 0), (3, vr Z 29 0), (4, vi (i : Int))]) b.1 b.2.1 dL_law_792 hl (by decide) rfl (fun ls hl => ?_)
  refine lv_aload_n b.1 b.2.1 dL_law_794 rfl (lv_at hl 3 rfl) ?_
  refine lv_aload_n b.1 b.2.1 dL_law_795 rfl (lv_at hl 1 rfl) ?_
  refine lv_iload b.1 b.2.1 dL_law_796 (lv_at hl 5 rfl) ?_
  refine lv_iconst (v := Int32.ofInt 1) b.1 b.2.1 dL_law_798 rfl ?_
  refine lx_iadd b dL_law_799 ?_
  refine lx_sld (q := i + 1) b hX hbl hZ hH hlo (w32_of (by omega) (by omega)) (by omega) dL_law_800 ?_
  refine lv_aload_n b.1 b.2.1 dL_law_801 rfl (lv_at hl 1 rfl) ?_
  refine lv_iload b.1 b.2.1 dL_law_802 (lv_at hl 5 rfl) ?_
  refine lv_iconst (v := Int32.ofInt 2) b.1 b.2.1 dL_law_804 rfl ?_
  refine lx_iadd b dL_law_805 ?_
  refine lx_sld (q := i + 2) b hX hbl hZ hH hlo (w32_of (by omega) (by omega)) (by omega) dL_law_806 ?_
  have R2 := R_M_gain Z ((xs (i + 1)).toInt) ((xs (i + 2)).toInt) J _ _ h2
  have hc2 : cle J K := R2.1
  refine lx_callV (n := 2) (As := [vi (xs (i + 1)).toInt, vi (xs (i + 2)).toInt]) (rest := []) b hfl hl.1 hH R2 ⟨(li_9 137 (by decide +kernel) (by decide +kernel)), (li_9 135 (by decide +kernel) (by decide +kernel)), (li_9 136 (by decide +kernel) (by decide +kernel)), (li_1 16 (by decide +kernel) (by decide +kernel)), by decide +kernel⟩ (fun gr => ob_26) rfl rfl ⟨Nat.le_of_ble_eq_true rfl, Nat.le_of_ble_eq_true rfl⟩ (Nat.le_of_ble_eq_true rfl) ⟨show c0 + dC I J + dC J K ≤ 601024 by have q1 := dC_add hc1 hc2; have q2 := dC_self K; omega, show s0 + dS I J + dS J K ≤ 7293034 by have q1 := dC_add hc1 hc2; have q2 := dC_self K; omega⟩ (li_9 134 (by decide +kernel) (by decide +kernel)) hlo dL_law_807 (fun H locs hH hlo => ?_)
  refine lv_istore (lv' := [(6, vi r2), (5, vi r1), (0, .ref b0), (1, vr Z 0 0), (2, vr Z 26 0), (3, vr Z 29 0), (4, vi (i : Int))]) b.1 b.2.1 dL_law_810 hl (by decide) rfl (fun ls hl => ?_)
  refine lv_goto (tgt := 1210) b.1 b.2.1 dL_law_812 (by decide) ?_
  refine W.widen (k := c0 + dC I K) (n := s0 + dS I K) (show c0 + dC I J + dC J K ≤ c0 + dC I K by have q1 := dC_add hc1 hc2; have q2 := dC_self K; omega) (show s0 + dS I J + dS J K ≤ s0 + dS I K by have q1 := dC_add hc1 hc2; have q2 := dC_self K; omega) ?_
  exact kk H locs ls hH hlo (lv_sub hl [2, 3, 4, 5, 6] rfl)
set_option maxRecDepth 20000 in
set_option maxHeartbeats 4000000 in
theorem LC_22 {p : Program} {l : Launch} {e : Env} {s : State} {m : MethodId} {args : Array Value} {below : List Frame} {meth : Method} {c : Code} {H : Heap} {locs : List Loc} {c0 s0 : Nat} {Q : State → Prop} {ls : Array Slot} {Z : ZT} {I : Mem} {b0 L i : Nat} {xs : Nat → Int32} (b : BB p s m args c RL cL_law 9 Z) (hfl : l.stackTraces = false) (hX : va_X b0 L xs s s.heap) (hbl : b0 < s.heap.size) (hZ : zB Z = s.heap.size ∧ zH Z = s.heap) (hi : i + 6 ≤ L) (hL : L < 100000) (hH : HH Z I H) (hlo : ∀ q ∈ locs, zN Z q.base) (hl : lv_has ls 9 [(0, .ref b0), (1, vr Z 0 0), (2, vr Z 26 0), (3, vr Z 29 0), (4, vi (i : Int))]) {r1 : Int} {r2 : Int} {J K : Mem} (h1 : f_PR_stepsLeft  I = some (r1, J)) (h2 : f_M_stepsLeft  J = some (r2, K)) (hmc : c0 + dC I K ≤ 601024) (hms : s0 + dS I K ≤ 7293034)
    (kk : ∀ (H : Heap) (locs : List Loc) (ls : Array Slot), HH Z K H → (∀ q ∈ locs, zN Z q.base) → lv_has ls 9 [(0, .ref b0), (1, vr Z 0 0), (2, vr Z 26 0), (3, vr Z 29 0), (4, vi (i : Int))] → W p l e room_1 s m args below meth c H locs (c0 + dC I K) (s0 + dS I K) Q (F0 m 1210 ls [])) : W p l e room_1 s m args below meth c H locs c0 s0 Q (F0 m 815 ls []) := by
  have hcK : cle J K := (R_M_stepsLeft Z  J _ _ h2).1
  refine lv_aload_n b.1 b.2.1 dL_law_815 rfl (lv_at hl 1 rfl) ?_
  have R1 := R_PR_stepsLeft Z  I _ _ h1
  have hc1 : cle I J := R1.1
  refine lx_callV (n := 0) (As := []) (rest := []) b hfl hl.1 hH R1 ⟨(li_5 67 (by decide +kernel) (by decide +kernel)), (li_5 65 (by decide +kernel) (by decide +kernel)), (li_5 66 (by decide +kernel) (by decide +kernel)), (li_1 1 (by decide +kernel) (by decide +kernel)), by decide +kernel⟩ (fun gr => ob_0) rfl rfl ⟨Nat.le_of_ble_eq_true rfl, Nat.le_of_ble_eq_true rfl⟩ (Nat.le_of_ble_eq_true rfl) ⟨show c0 + dC I J ≤ 601024 by have q1 := dC_add hc1 hcK; have q2 := dC_self K; omega, show s0 + dS I J ≤ 7293034 by have q1 := dC_add hc1 hcK; have q2 := dC_self K; omega⟩ (li_5 64 (by decide +kernel) (by decide +kernel)) hlo dL_law_816 (fun H locs hH hlo => ?_)
  refine lv_pop b.1 b.2.1 dL_law_819 rfl ?_
  refine lv_aload_n b.1 b.2.1 dL_law_820 rfl (lv_at hl 2 rfl) ?_
  have R2 := R_M_stepsLeft Z  J _ _ h2
  have hc2 : cle J K := R2.1
  refine lx_callV (n := 0) (As := []) (rest := []) b hfl hl.1 hH R2 ⟨(li_9 141 (by decide +kernel) (by decide +kernel)), (li_9 139 (by decide +kernel) (by decide +kernel)), (li_9 140 (by decide +kernel) (by decide +kernel)), (li_1 16 (by decide +kernel) (by decide +kernel)), by decide +kernel⟩ (fun gr => ob_26) rfl rfl ⟨Nat.le_of_ble_eq_true rfl, Nat.le_of_ble_eq_true rfl⟩ (Nat.le_of_ble_eq_true rfl) ⟨show c0 + dC I J + dC J K ≤ 601024 by have q1 := dC_add hc1 hc2; have q2 := dC_self K; omega, show s0 + dS I J + dS J K ≤ 7293034 by have q1 := dC_add hc1 hc2; have q2 := dC_self K; omega⟩ (li_9 138 (by decide +kernel) (by decide +kernel)) hlo dL_law_821 (fun H locs hH hlo => ?_)
  refine lv_pop b.1 b.2.1 dL_law_824 rfl ?_
  refine lv_goto (tgt := 1210) b.1 b.2.1 dL_law_825 (by decide) ?_
  refine W.widen (k := c0 + dC I K) (n := s0 + dS I K) (show c0 + dC I J + dC J K ≤ c0 + dC I K by have q1 := dC_add hc1 hc2; have q2 := dC_self K; omega) (show s0 + dS I J + dS J K ≤ s0 + dS I K by have q1 := dC_add hc1 hc2; have q2 := dC_self K; omega) ?_
  exact kk H locs ls hH hlo (lv_sub hl [0, 1, 2, 3, 4] rfl)
set_option maxRecDepth 20000 in
set_option maxHeartbeats 4000000 in
theorem LC_23 {p : Program} {l : Launch} {e : Env} {s : State} {m : MethodId} {args : Array Value} {below : List Frame} {meth : Method} {c : Code} {H : Heap} {locs : List Loc} {c0 s0 : Nat} {Q : State → Prop} {ls : Array Slot} {Z : ZT} {I : Mem} {b0 L i : Nat} {xs : Nat → Int32} (b : BB p s m args c RL cL_law 9 Z) (hfl : l.stackTraces = false) (hX : va_X b0 L xs s s.heap) (hbl : b0 < s.heap.size) (hZ : zB Z = s.heap.size ∧ zH Z = s.heap) (hi : i + 6 ≤ L) (hL : L < 100000) (hH : HH Z I H) (hlo : ∀ q ∈ locs, zN Z q.base) (hl : lv_has ls 9 [(0, .ref b0), (1, vr Z 0 0), (2, vr Z 26 0), (3, vr Z 29 0), (4, vi (i : Int))]) {r1 : Int} {r2 : Int} {J K : Mem} (h1 : f_L_sizeIn ((xs (i + 1)).toInt) I = some (r1, J)) (h2 : f_M_sizeIn ((xs (i + 1)).toInt) J = some (r2, K)) (hmc : c0 + dC I K ≤ 601024) (hms : s0 + dS I K ≤ 7293034)
    (kk : ∀ (H : Heap) (locs : List Loc) (ls : Array Slot), HH Z K H → (∀ q ∈ locs, zN Z q.base) → lv_has ls 9 [(0, .ref b0), (1, vr Z 0 0), (2, vr Z 26 0), (3, vr Z 29 0), (4, vi (i : Int))] → W p l e room_1 s m args below meth c H locs (c0 + dC I K) (s0 + dS I K) Q (F0 m 1210 ls [])) : W p l e room_1 s m args below meth c H locs c0 s0 Q (F0 m 828 ls []) := by
  have hcK : cle J K := (R_M_sizeIn Z ((xs (i + 1)).toInt) J _ _ h2).1
  refine lv_aload_n b.1 b.2.1 dL_law_828 rfl (lv_at hl 1 rfl) ?_
  refine lv_aload_n b.1 b.2.1 dL_law_829 rfl (lv_at hl 0 rfl) ?_
  refine lv_iload b.1 b.2.1 dL_law_830 (lv_at hl 4 rfl) ?_
  refine lv_iconst (v := Int32.ofInt 1) b.1 b.2.1 dL_law_832 rfl ?_
  refine lx_iadd b dL_law_833 ?_
  refine lx_sld (q := i + 1) b hX hbl hZ hH hlo (w32_of (by omega) (by omega)) (by omega) dL_law_834 ?_
  refine lv_aload_n b.1 b.2.1 dL_law_835 rfl (lv_at hl 3 rfl) ?_
  have R1 := R_L_sizeIn Z ((xs (i + 1)).toInt) I _ _ h1
  have hc1 : cle I J := R1.1
  refine lx_callS (n := 3) (As := [vr Z 0 0, vi (xs (i + 1)).toInt, vr Z 29 0]) (rest := []) b hfl hl.1 hH R1 (li_6 145 (by decide +kernel) (by decide +kernel)) (li_6 144 (by decide +kernel) (by decide +kernel)) (li_1 0 (by decide +kernel) (by decide +kernel)) (by decide +kernel) rfl rfl ⟨Nat.le_of_ble_eq_true rfl, Nat.le_of_ble_eq_true rfl⟩ (Nat.le_of_ble_eq_true rfl) ⟨show c0 + dC I J ≤ 601024 by have q1 := dC_add hc1 hcK; have q2 := dC_self K; omega, show s0 + dS I J ≤ 7293034 by have q1 := dC_add hc1 hcK; have q2 := dC_self K; omega⟩ (li_6 143 (by decide +kernel) (by decide +kernel)) hlo dL_law_836 (fun H locs hH hlo => ?_)
  refine lv_istore (lv' := [(5, vi r1), (0, .ref b0), (1, vr Z 0 0), (2, vr Z 26 0), (3, vr Z 29 0), (4, vi (i : Int))]) b.1 b.2.1 dL_law_839 hl (by decide) rfl (fun ls hl => ?_)
  refine lv_aload_n b.1 b.2.1 dL_law_841 rfl (lv_at hl 3 rfl) ?_
  refine lv_aload_n b.1 b.2.1 dL_law_842 rfl (lv_at hl 1 rfl) ?_
  refine lv_iload b.1 b.2.1 dL_law_843 (lv_at hl 5 rfl) ?_
  refine lv_iconst (v := Int32.ofInt 1) b.1 b.2.1 dL_law_845 rfl ?_
  refine lx_iadd b dL_law_846 ?_
  refine lx_sld (q := i + 1) b hX hbl hZ hH hlo (w32_of (by omega) (by omega)) (by omega) dL_law_847 ?_
  have R2 := R_M_sizeIn Z ((xs (i + 1)).toInt) J _ _ h2
  have hc2 : cle J K := R2.1
  refine lx_callV (n := 1) (As := [vi (xs (i + 1)).toInt]) (rest := []) b hfl hl.1 hH R2 ⟨(li_9 145 (by decide +kernel) (by decide +kernel)), (li_9 143 (by decide +kernel) (by decide +kernel)), (li_9 144 (by decide +kernel) (by decide +kernel)), (li_1 16 (by decide +kernel) (by decide +kernel)), by decide +kernel⟩ (fun gr => ob_26) rfl rfl ⟨Nat.le_of_ble_eq_true rfl, Nat.le_of_ble_eq_true rfl⟩ (Nat.le_of_ble_eq_true rfl) ⟨show c0 + dC I J + dC J K ≤ 601024 by have q1 := dC_add hc1 hc2; have q2 := dC_self K; omega, show s0 + dS I J + dS J K ≤ 7293034 by have q1 := dC_add hc1 hc2; have q2 := dC_self K; omega⟩ (li_9 142 (by decide +kernel) (by decide +kernel)) hlo dL_law_848 (fun H locs hH hlo => ?_)
  refine lv_istore (lv' := [(6, vi r2), (5, vi r1), (0, .ref b0), (1, vr Z 0 0), (2, vr Z 26 0), (3, vr Z 29 0), (4, vi (i : Int))]) b.1 b.2.1 dL_law_851 hl (by decide) rfl (fun ls hl => ?_)
  refine lv_goto (tgt := 1210) b.1 b.2.1 dL_law_853 (by decide) ?_
  refine W.widen (k := c0 + dC I K) (n := s0 + dS I K) (show c0 + dC I J + dC J K ≤ c0 + dC I K by have q1 := dC_add hc1 hc2; have q2 := dC_self K; omega) (show s0 + dS I J + dS J K ≤ s0 + dS I K by have q1 := dC_add hc1 hc2; have q2 := dC_self K; omega) ?_
  exact kk H locs ls hH hlo (lv_sub hl [2, 3, 4, 5, 6] rfl)
set_option maxRecDepth 20000 in
set_option maxHeartbeats 4000000 in
theorem LC_24 {p : Program} {l : Launch} {e : Env} {s : State} {m : MethodId} {args : Array Value} {below : List Frame} {meth : Method} {c : Code} {H : Heap} {locs : List Loc} {c0 s0 : Nat} {Q : State → Prop} {ls : Array Slot} {Z : ZT} {I : Mem} {b0 L i : Nat} {xs : Nat → Int32} (b : BB p s m args c RL cL_law 9 Z) (hfl : l.stackTraces = false) (hX : va_X b0 L xs s s.heap) (hbl : b0 < s.heap.size) (hZ : zB Z = s.heap.size ∧ zH Z = s.heap) (hi : i + 6 ≤ L) (hL : L < 100000) (hH : HH Z I H) (hlo : ∀ q ∈ locs, zN Z q.base) (hl : lv_has ls 9 [(0, .ref b0), (1, vr Z 0 0), (2, vr Z 26 0), (3, vr Z 29 0), (4, vi (i : Int))]) {r1 : Int} {r2 : Int} {J K : Mem} (h1 : f_PR_bestTie  I = some (r1, J)) (h2 : f_M_bestTie  J = some (r2, K)) (hmc : c0 + dC I K ≤ 601024) (hms : s0 + dS I K ≤ 7293034)
    (kk : ∀ (H : Heap) (locs : List Loc) (ls : Array Slot), HH Z K H → (∀ q ∈ locs, zN Z q.base) → lv_has ls 9 [(0, .ref b0), (1, vr Z 0 0), (2, vr Z 26 0), (3, vr Z 29 0), (4, vi (i : Int))] → W p l e room_1 s m args below meth c H locs (c0 + dC I K) (s0 + dS I K) Q (F0 m 1210 ls [])) : W p l e room_1 s m args below meth c H locs c0 s0 Q (F0 m 856 ls []) := by
  have hcK : cle J K := (R_M_bestTie Z  J _ _ h2).1
  refine lv_aload_n b.1 b.2.1 dL_law_856 rfl (lv_at hl 1 rfl) ?_
  have R1 := R_PR_bestTie Z  I _ _ h1
  have hc1 : cle I J := R1.1
  refine lx_callV (n := 0) (As := []) (rest := []) b hfl hl.1 hH R1 ⟨(li_5 72 (by decide +kernel) (by decide +kernel)), (li_5 70 (by decide +kernel) (by decide +kernel)), (li_5 71 (by decide +kernel) (by decide +kernel)), (li_1 1 (by decide +kernel) (by decide +kernel)), by decide +kernel⟩ (fun gr => ob_0) rfl rfl ⟨Nat.le_of_ble_eq_true rfl, Nat.le_of_ble_eq_true rfl⟩ (Nat.le_of_ble_eq_true rfl) ⟨show c0 + dC I J ≤ 601024 by have q1 := dC_add hc1 hcK; have q2 := dC_self K; omega, show s0 + dS I J ≤ 7293034 by have q1 := dC_add hc1 hcK; have q2 := dC_self K; omega⟩ (li_5 69 (by decide +kernel) (by decide +kernel)) hlo dL_law_857 (fun H locs hH hlo => ?_)
  refine lv_pop b.1 b.2.1 dL_law_860 rfl ?_
  refine lv_aload_n b.1 b.2.1 dL_law_861 rfl (lv_at hl 2 rfl) ?_
  have R2 := R_M_bestTie Z  J _ _ h2
  have hc2 : cle J K := R2.1
  refine lx_callV (n := 0) (As := []) (rest := []) b hfl hl.1 hH R2 ⟨(li_9 149 (by decide +kernel) (by decide +kernel)), (li_9 147 (by decide +kernel) (by decide +kernel)), (li_9 148 (by decide +kernel) (by decide +kernel)), (li_1 16 (by decide +kernel) (by decide +kernel)), by decide +kernel⟩ (fun gr => ob_26) rfl rfl ⟨Nat.le_of_ble_eq_true rfl, Nat.le_of_ble_eq_true rfl⟩ (Nat.le_of_ble_eq_true rfl) ⟨show c0 + dC I J + dC J K ≤ 601024 by have q1 := dC_add hc1 hc2; have q2 := dC_self K; omega, show s0 + dS I J + dS J K ≤ 7293034 by have q1 := dC_add hc1 hc2; have q2 := dC_self K; omega⟩ (li_9 146 (by decide +kernel) (by decide +kernel)) hlo dL_law_862 (fun H locs hH hlo => ?_)
  refine lv_pop b.1 b.2.1 dL_law_865 rfl ?_
  refine lv_goto (tgt := 1210) b.1 b.2.1 dL_law_866 (by decide) ?_
  refine W.widen (k := c0 + dC I K) (n := s0 + dS I K) (show c0 + dC I J + dC J K ≤ c0 + dC I K by have q1 := dC_add hc1 hc2; have q2 := dC_self K; omega) (show s0 + dS I J + dS J K ≤ s0 + dS I K by have q1 := dC_add hc1 hc2; have q2 := dC_self K; omega) ?_
  exact kk H locs ls hH hlo (lv_sub hl [0, 1, 2, 3, 4] rfl)
set_option maxRecDepth 20000 in
set_option maxHeartbeats 4000000 in
theorem LC_25 {p : Program} {l : Launch} {e : Env} {s : State} {m : MethodId} {args : Array Value} {below : List Frame} {meth : Method} {c : Code} {H : Heap} {locs : List Loc} {c0 s0 : Nat} {Q : State → Prop} {ls : Array Slot} {Z : ZT} {I : Mem} {b0 L i : Nat} {xs : Nat → Int32} (b : BB p s m args c RL cL_law 9 Z) (hfl : l.stackTraces = false) (hX : va_X b0 L xs s s.heap) (hbl : b0 < s.heap.size) (hZ : zB Z = s.heap.size ∧ zH Z = s.heap) (hi : i + 6 ≤ L) (hL : L < 100000) (hH : HH Z I H) (hlo : ∀ q ∈ locs, zN Z q.base) (hl : lv_has ls 9 [(0, .ref b0), (1, vr Z 0 0), (2, vr Z 26 0), (3, vr Z 29 0), (4, vi (i : Int))]) {r1 : Int} {r2 : Int} {J K : Mem} (h1 : f_PR_bestLeast  I = some (r1, J)) (h2 : f_M_bestLeast  J = some (r2, K)) (hmc : c0 + dC I K ≤ 601024) (hms : s0 + dS I K ≤ 7293034)
    (kk : ∀ (H : Heap) (locs : List Loc) (ls : Array Slot), HH Z K H → (∀ q ∈ locs, zN Z q.base) → lv_has ls 9 [(0, .ref b0), (1, vr Z 0 0), (2, vr Z 26 0), (3, vr Z 29 0), (4, vi (i : Int))] → W p l e room_1 s m args below meth c H locs (c0 + dC I K) (s0 + dS I K) Q (F0 m 1210 ls [])) : W p l e room_1 s m args below meth c H locs c0 s0 Q (F0 m 869 ls []) := by
  have hcK : cle J K := (R_M_bestLeast Z  J _ _ h2).1
  refine lv_aload_n b.1 b.2.1 dL_law_869 rfl (lv_at hl 1 rfl) ?_
  have R1 := R_PR_bestLeast Z  I _ _ h1
  have hc1 : cle I J := R1.1
  refine lx_callV (n := 0) (As := []) (rest := []) b hfl hl.1 hH R1 ⟨(li_5 86 (by decide +kernel) (by decide +kernel)), (li_5 84 (by decide +kernel) (by decide +kernel)), (li_5 85 (by decide +kernel) (by decide +kernel)), (li_1 1 (by decide +kernel) (by decide +kernel)), by decide +kernel⟩ (fun gr => ob_0) rfl rfl ⟨Nat.le_of_ble_eq_true rfl, Nat.le_of_ble_eq_true rfl⟩ (Nat.le_of_ble_eq_true rfl) ⟨show c0 + dC I J ≤ 601024 by have q1 := dC_add hc1 hcK; have q2 := dC_self K; omega, show s0 + dS I J ≤ 7293034 by have q1 := dC_add hc1 hcK; have q2 := dC_self K; omega⟩ (li_5 83 (by decide +kernel) (by decide +kernel)) hlo dL_law_870 (fun H locs hH hlo => ?_)
  refine lv_pop b.1 b.2.1 dL_law_873 rfl ?_
  refine lv_aload_n b.1 b.2.1 dL_law_874 rfl (lv_at hl 2 rfl) ?_
  have R2 := R_M_bestLeast Z  J _ _ h2
  have hc2 : cle J K := R2.1
  refine lx_callV (n := 0) (As := []) (rest := []) b hfl hl.1 hH R2 ⟨(li_9 161 (by decide +kernel) (by decide +kernel)), (li_9 159 (by decide +kernel) (by decide +kernel)), (li_9 160 (by decide +kernel) (by decide +kernel)), (li_1 16 (by decide +kernel) (by decide +kernel)), by decide +kernel⟩ (fun gr => ob_26) rfl rfl ⟨Nat.le_of_ble_eq_true rfl, Nat.le_of_ble_eq_true rfl⟩ (Nat.le_of_ble_eq_true rfl) ⟨show c0 + dC I J + dC J K ≤ 601024 by have q1 := dC_add hc1 hc2; have q2 := dC_self K; omega, show s0 + dS I J + dS J K ≤ 7293034 by have q1 := dC_add hc1 hc2; have q2 := dC_self K; omega⟩ (li_9 158 (by decide +kernel) (by decide +kernel)) hlo dL_law_875 (fun H locs hH hlo => ?_)
  refine lv_pop b.1 b.2.1 dL_law_878 rfl ?_
  refine lv_goto (tgt := 1210) b.1 b.2.1 dL_law_879 (by decide) ?_
  refine W.widen (k := c0 + dC I K) (n := s0 + dS I K) (show c0 + dC I J + dC J K ≤ c0 + dC I K by have q1 := dC_add hc1 hc2; have q2 := dC_self K; omega) (show s0 + dS I J + dS J K ≤ s0 + dS I K by have q1 := dC_add hc1 hc2; have q2 := dC_self K; omega) ?_
  exact kk H locs ls hH hlo (lv_sub hl [0, 1, 2, 3, 4] rfl)
set_option maxRecDepth 20000 in
set_option maxHeartbeats 4000000 in
theorem LC_26 {p : Program} {l : Launch} {e : Env} {s : State} {m : MethodId} {args : Array Value} {below : List Frame} {meth : Method} {c : Code} {H : Heap} {locs : List Loc} {c0 s0 : Nat} {Q : State → Prop} {ls : Array Slot} {Z : ZT} {I : Mem} {b0 L i : Nat} {xs : Nat → Int32} (b : BB p s m args c RL cL_law 9 Z) (hfl : l.stackTraces = false) (hX : va_X b0 L xs s s.heap) (hbl : b0 < s.heap.size) (hZ : zB Z = s.heap.size ∧ zH Z = s.heap) (hi : i + 6 ≤ L) (hL : L < 100000) (hH : HH Z I H) (hlo : ∀ q ∈ locs, zN Z q.base) (hl : lv_has ls 9 [(0, .ref b0), (1, vr Z 0 0), (2, vr Z 26 0), (3, vr Z 29 0), (4, vi (i : Int))]) {r1 : Int} {r2 : Int} {J K : Mem} (h1 : f_PR_inlinable  I = some (r1, J)) (h2 : f_M_inlinable  J = some (r2, K)) (hmc : c0 + dC I K ≤ 601024) (hms : s0 + dS I K ≤ 7293034)
    (kk : ∀ (H : Heap) (locs : List Loc) (ls : Array Slot), HH Z K H → (∀ q ∈ locs, zN Z q.base) → lv_has ls 9 [(0, .ref b0), (1, vr Z 0 0), (2, vr Z 26 0), (3, vr Z 29 0), (4, vi (i : Int))] → W p l e room_1 s m args below meth c H locs (c0 + dC I K) (s0 + dS I K) Q (F0 m 1210 ls [])) : W p l e room_1 s m args below meth c H locs c0 s0 Q (F0 m 882 ls []) := by
  have hcK : cle J K := (R_M_inlinable Z  J _ _ h2).1
  refine lv_aload_n b.1 b.2.1 dL_law_882 rfl (lv_at hl 1 rfl) ?_
  have R1 := R_PR_inlinable Z  I _ _ h1
  have hc1 : cle I J := R1.1
  refine lx_callV (n := 0) (As := []) (rest := []) b hfl hl.1 hH R1 ⟨(li_5 90 (by decide +kernel) (by decide +kernel)), (li_5 88 (by decide +kernel) (by decide +kernel)), (li_5 89 (by decide +kernel) (by decide +kernel)), (li_1 1 (by decide +kernel) (by decide +kernel)), by decide +kernel⟩ (fun gr => ob_0) rfl rfl ⟨Nat.le_of_ble_eq_true rfl, Nat.le_of_ble_eq_true rfl⟩ (Nat.le_of_ble_eq_true rfl) ⟨show c0 + dC I J ≤ 601024 by have q1 := dC_add hc1 hcK; have q2 := dC_self K; omega, show s0 + dS I J ≤ 7293034 by have q1 := dC_add hc1 hcK; have q2 := dC_self K; omega⟩ (li_5 87 (by decide +kernel) (by decide +kernel)) hlo dL_law_883 (fun H locs hH hlo => ?_)
  refine lv_pop b.1 b.2.1 dL_law_886 rfl ?_
  refine lv_aload_n b.1 b.2.1 dL_law_887 rfl (lv_at hl 2 rfl) ?_
  have R2 := R_M_inlinable Z  J _ _ h2
  have hc2 : cle J K := R2.1
  refine lx_callV (n := 0) (As := []) (rest := []) b hfl hl.1 hH R2 ⟨(li_9 165 (by decide +kernel) (by decide +kernel)), (li_9 163 (by decide +kernel) (by decide +kernel)), (li_9 164 (by decide +kernel) (by decide +kernel)), (li_1 16 (by decide +kernel) (by decide +kernel)), by decide +kernel⟩ (fun gr => ob_26) rfl rfl ⟨Nat.le_of_ble_eq_true rfl, Nat.le_of_ble_eq_true rfl⟩ (Nat.le_of_ble_eq_true rfl) ⟨show c0 + dC I J + dC J K ≤ 601024 by have q1 := dC_add hc1 hc2; have q2 := dC_self K; omega, show s0 + dS I J + dS J K ≤ 7293034 by have q1 := dC_add hc1 hc2; have q2 := dC_self K; omega⟩ (li_9 162 (by decide +kernel) (by decide +kernel)) hlo dL_law_888 (fun H locs hH hlo => ?_)
  refine lv_pop b.1 b.2.1 dL_law_891 rfl ?_
  refine lv_goto (tgt := 1210) b.1 b.2.1 dL_law_892 (by decide) ?_
  refine W.widen (k := c0 + dC I K) (n := s0 + dS I K) (show c0 + dC I J + dC J K ≤ c0 + dC I K by have q1 := dC_add hc1 hc2; have q2 := dC_self K; omega) (show s0 + dS I J + dS J K ≤ s0 + dS I K by have q1 := dC_add hc1 hc2; have q2 := dC_self K; omega) ?_
  exact kk H locs ls hH hlo (lv_sub hl [0, 1, 2, 3, 4] rfl)
set_option maxRecDepth 20000 in
set_option maxHeartbeats 4000000 in
theorem LC_27 {p : Program} {l : Launch} {e : Env} {s : State} {m : MethodId} {args : Array Value} {below : List Frame} {meth : Method} {c : Code} {H : Heap} {locs : List Loc} {c0 s0 : Nat} {Q : State → Prop} {ls : Array Slot} {Z : ZT} {I : Mem} {b0 L i : Nat} {xs : Nat → Int32} (b : BB p s m args c RL cL_law 9 Z) (hfl : l.stackTraces = false) (hX : va_X b0 L xs s s.heap) (hbl : b0 < s.heap.size) (hZ : zB Z = s.heap.size ∧ zH Z = s.heap) (hi : i + 6 ≤ L) (hL : L < 100000) (hH : HH Z I H) (hlo : ∀ q ∈ locs, zN Z q.base) (hl : lv_has ls 9 [(0, .ref b0), (1, vr Z 0 0), (2, vr Z 26 0), (3, vr Z 29 0), (4, vi (i : Int))]) {r1 : Int} {r2 : Int} {J K : Mem} (h1 : f_L_step ((xs (i + 1)).toInt) I = some (r1, J)) (h2 : f_M_step ((xs (i + 1)).toInt) J = some (r2, K)) (hmc : c0 + dC I K ≤ 601024) (hms : s0 + dS I K ≤ 7293034)
    (kk : ∀ (H : Heap) (locs : List Loc) (ls : Array Slot), HH Z K H → (∀ q ∈ locs, zN Z q.base) → lv_has ls 9 [(0, .ref b0), (1, vr Z 0 0), (2, vr Z 26 0), (3, vr Z 29 0), (4, vi (i : Int))] → W p l e room_1 s m args below meth c H locs (c0 + dC I K) (s0 + dS I K) Q (F0 m 1210 ls [])) : W p l e room_1 s m args below meth c H locs c0 s0 Q (F0 m 895 ls []) := by
  have hcK : cle J K := (R_M_step Z ((xs (i + 1)).toInt) J _ _ h2).1
  refine lv_aload_n b.1 b.2.1 dL_law_895 rfl (lv_at hl 1 rfl) ?_
  refine lv_aload_n b.1 b.2.1 dL_law_896 rfl (lv_at hl 0 rfl) ?_
  refine lv_iload b.1 b.2.1 dL_law_897 (lv_at hl 4 rfl) ?_
  refine lv_iconst (v := Int32.ofInt 1) b.1 b.2.1 dL_law_899 rfl ?_
  refine lx_iadd b dL_law_900 ?_
  refine lx_sld (q := i + 1) b hX hbl hZ hH hlo (w32_of (by omega) (by omega)) (by omega) dL_law_901 ?_
  refine lv_aload_n b.1 b.2.1 dL_law_902 rfl (lv_at hl 3 rfl) ?_
  have R1 := R_L_step Z ((xs (i + 1)).toInt) I _ _ h1
  have hc1 : cle I J := R1.1
  refine lx_callS (n := 3) (As := [vr Z 0 0, vi (xs (i + 1)).toInt, vr Z 29 0]) (rest := []) b hfl hl.1 hH R1 (li_6 152 (by decide +kernel) (by decide +kernel)) (li_6 151 (by decide +kernel) (by decide +kernel)) (li_1 0 (by decide +kernel) (by decide +kernel)) (by decide +kernel) rfl rfl ⟨Nat.le_of_ble_eq_true rfl, Nat.le_of_ble_eq_true rfl⟩ (Nat.le_of_ble_eq_true rfl) ⟨show c0 + dC I J ≤ 601024 by have q1 := dC_add hc1 hcK; have q2 := dC_self K; omega, show s0 + dS I J ≤ 7293034 by have q1 := dC_add hc1 hcK; have q2 := dC_self K; omega⟩ (li_6 150 (by decide +kernel) (by decide +kernel)) hlo dL_law_903 (fun H locs hH hlo => ?_)
  refine lv_istore (lv' := [(5, vi r1), (0, .ref b0), (1, vr Z 0 0), (2, vr Z 26 0), (3, vr Z 29 0), (4, vi (i : Int))]) b.1 b.2.1 dL_law_906 hl (by decide) rfl (fun ls hl => ?_)
  refine lv_aload_n b.1 b.2.1 dL_law_908 rfl (lv_at hl 3 rfl) ?_
  refine lv_aload_n b.1 b.2.1 dL_law_909 rfl (lv_at hl 1 rfl) ?_
  refine lv_iload b.1 b.2.1 dL_law_910 (lv_at hl 5 rfl) ?_
  refine lv_iconst (v := Int32.ofInt 1) b.1 b.2.1 dL_law_912 rfl ?_
  refine lx_iadd b dL_law_913 ?_
  refine lx_sld (q := i + 1) b hX hbl hZ hH hlo (w32_of (by omega) (by omega)) (by omega) dL_law_914 ?_
  have R2 := R_M_step Z ((xs (i + 1)).toInt) J _ _ h2
  have hc2 : cle J K := R2.1
  refine lx_callV (n := 1) (As := [vi (xs (i + 1)).toInt]) (rest := []) b hfl hl.1 hH R2 ⟨(li_9 169 (by decide +kernel) (by decide +kernel)), (li_9 167 (by decide +kernel) (by decide +kernel)), (li_9 168 (by decide +kernel) (by decide +kernel)), (li_1 16 (by decide +kernel) (by decide +kernel)), by decide +kernel⟩ (fun gr => ob_26) rfl rfl ⟨Nat.le_of_ble_eq_true rfl, Nat.le_of_ble_eq_true rfl⟩ (Nat.le_of_ble_eq_true rfl) ⟨show c0 + dC I J + dC J K ≤ 601024 by have q1 := dC_add hc1 hc2; have q2 := dC_self K; omega, show s0 + dS I J + dS J K ≤ 7293034 by have q1 := dC_add hc1 hc2; have q2 := dC_self K; omega⟩ (li_9 166 (by decide +kernel) (by decide +kernel)) hlo dL_law_915 (fun H locs hH hlo => ?_)
  refine lv_istore (lv' := [(6, vi r2), (5, vi r1), (0, .ref b0), (1, vr Z 0 0), (2, vr Z 26 0), (3, vr Z 29 0), (4, vi (i : Int))]) b.1 b.2.1 dL_law_918 hl (by decide) rfl (fun ls hl => ?_)
  refine lv_goto (tgt := 1210) b.1 b.2.1 dL_law_920 (by decide) ?_
  refine W.widen (k := c0 + dC I K) (n := s0 + dS I K) (show c0 + dC I J + dC J K ≤ c0 + dC I K by have q1 := dC_add hc1 hc2; have q2 := dC_self K; omega) (show s0 + dS I J + dS J K ≤ s0 + dS I K by have q1 := dC_add hc1 hc2; have q2 := dC_self K; omega) ?_
  exact kk H locs ls hH hlo (lv_sub hl [2, 3, 4, 5, 6] rfl)
set_option maxRecDepth 20000 in
set_option maxHeartbeats 4000000 in
theorem LC_28 {p : Program} {l : Launch} {e : Env} {s : State} {m : MethodId} {args : Array Value} {below : List Frame} {meth : Method} {c : Code} {H : Heap} {locs : List Loc} {c0 s0 : Nat} {Q : State → Prop} {ls : Array Slot} {Z : ZT} {I : Mem} {b0 L i : Nat} {xs : Nat → Int32} (b : BB p s m args c RL cL_law 9 Z) (hfl : l.stackTraces = false) (hX : va_X b0 L xs s s.heap) (hbl : b0 < s.heap.size) (hZ : zB Z = s.heap.size ∧ zH Z = s.heap) (hi : i + 6 ≤ L) (hL : L < 100000) (hH : HH Z I H) (hlo : ∀ q ∈ locs, zN Z q.base) (hl : lv_has ls 9 [(0, .ref b0), (1, vr Z 0 0), (2, vr Z 26 0), (3, vr Z 29 0), (4, vi (i : Int))]) {r1 : Int} {r2 : Int} {J K : Mem} (h1 : f_PR_inline  I = some (r1, J)) (h2 : f_M_inline  J = some (r2, K)) (hmc : c0 + dC I K ≤ 601024) (hms : s0 + dS I K ≤ 7293034)
    (kk : ∀ (H : Heap) (locs : List Loc) (ls : Array Slot), HH Z K H → (∀ q ∈ locs, zN Z q.base) → lv_has ls 9 [(0, .ref b0), (1, vr Z 0 0), (2, vr Z 26 0), (3, vr Z 29 0), (4, vi (i : Int))] → W p l e room_1 s m args below meth c H locs (c0 + dC I K) (s0 + dS I K) Q (F0 m 1210 ls [])) : W p l e room_1 s m args below meth c H locs c0 s0 Q (F0 m 923 ls []) := by
  have hcK : cle J K := (R_M_inline Z  J _ _ h2).1
  refine lv_aload_n b.1 b.2.1 dL_law_923 rfl (lv_at hl 1 rfl) ?_
  have R1 := R_PR_inline Z  I _ _ h1
  have hc1 : cle I J := R1.1
  refine lx_callV (n := 0) (As := []) (rest := []) b hfl hl.1 hH R1 ⟨(li_5 94 (by decide +kernel) (by decide +kernel)), (li_5 92 (by decide +kernel) (by decide +kernel)), (li_5 93 (by decide +kernel) (by decide +kernel)), (li_1 1 (by decide +kernel) (by decide +kernel)), by decide +kernel⟩ (fun gr => ob_0) rfl rfl ⟨Nat.le_of_ble_eq_true rfl, Nat.le_of_ble_eq_true rfl⟩ (Nat.le_of_ble_eq_true rfl) ⟨show c0 + dC I J ≤ 601024 by have q1 := dC_add hc1 hcK; have q2 := dC_self K; omega, show s0 + dS I J ≤ 7293034 by have q1 := dC_add hc1 hcK; have q2 := dC_self K; omega⟩ (li_5 91 (by decide +kernel) (by decide +kernel)) hlo dL_law_924 (fun H locs hH hlo => ?_)
  refine lv_pop b.1 b.2.1 dL_law_927 rfl ?_
  refine lv_aload_n b.1 b.2.1 dL_law_928 rfl (lv_at hl 2 rfl) ?_
  have R2 := R_M_inline Z  J _ _ h2
  have hc2 : cle J K := R2.1
  refine lx_callV (n := 0) (As := []) (rest := []) b hfl hl.1 hH R2 ⟨(li_9 181 (by decide +kernel) (by decide +kernel)), (li_9 179 (by decide +kernel) (by decide +kernel)), (li_9 180 (by decide +kernel) (by decide +kernel)), (li_1 16 (by decide +kernel) (by decide +kernel)), by decide +kernel⟩ (fun gr => ob_26) rfl rfl ⟨Nat.le_of_ble_eq_true rfl, Nat.le_of_ble_eq_true rfl⟩ (Nat.le_of_ble_eq_true rfl) ⟨show c0 + dC I J + dC J K ≤ 601024 by have q1 := dC_add hc1 hc2; have q2 := dC_self K; omega, show s0 + dS I J + dS J K ≤ 7293034 by have q1 := dC_add hc1 hc2; have q2 := dC_self K; omega⟩ (li_9 178 (by decide +kernel) (by decide +kernel)) hlo dL_law_929 (fun H locs hH hlo => ?_)
  refine lv_pop b.1 b.2.1 dL_law_932 rfl ?_
  refine lv_goto (tgt := 1210) b.1 b.2.1 dL_law_933 (by decide) ?_
  refine W.widen (k := c0 + dC I K) (n := s0 + dS I K) (show c0 + dC I J + dC J K ≤ c0 + dC I K by have q1 := dC_add hc1 hc2; have q2 := dC_self K; omega) (show s0 + dS I J + dS J K ≤ s0 + dS I K by have q1 := dC_add hc1 hc2; have q2 := dC_self K; omega) ?_
  exact kk H locs ls hH hlo (lv_sub hl [0, 1, 2, 3, 4] rfl)
set_option maxRecDepth 20000 in
set_option maxHeartbeats 4000000 in
theorem LC_29 {p : Program} {l : Launch} {e : Env} {s : State} {m : MethodId} {args : Array Value} {below : List Frame} {meth : Method} {c : Code} {H : Heap} {locs : List Loc} {c0 s0 : Nat} {Q : State → Prop} {ls : Array Slot} {Z : ZT} {I : Mem} {b0 L i : Nat} {xs : Nat → Int32} (b : BB p s m args c RL cL_law 9 Z) (hfl : l.stackTraces = false) (hX : va_X b0 L xs s s.heap) (hbl : b0 < s.heap.size) (hZ : zB Z = s.heap.size ∧ zH Z = s.heap) (hi : i + 6 ≤ L) (hL : L < 100000) (hH : HH Z I H) (hlo : ∀ q ∈ locs, zN Z q.base) (hl : lv_has ls 9 [(0, .ref b0), (1, vr Z 0 0), (2, vr Z 26 0), (3, vr Z 29 0), (4, vi (i : Int))]) {r1 : Int} {r2 : Int} {J K : Mem} (h1 : f_L_make ((xs (i + 1)).toInt) ((xs (i + 2)).toInt) I = some (r1, J)) (h2 : f_M_make ((xs (i + 1)).toInt) ((xs (i + 2)).toInt) J = some (r2, K)) (hmc : c0 + dC I K ≤ 601024) (hms : s0 + dS I K ≤ 7293034)
    (kk : ∀ (H : Heap) (locs : List Loc) (ls : Array Slot), HH Z K H → (∀ q ∈ locs, zN Z q.base) → lv_has ls 9 [(0, .ref b0), (1, vr Z 0 0), (2, vr Z 26 0), (3, vr Z 29 0), (4, vi (i : Int))] → W p l e room_1 s m args below meth c H locs (c0 + dC I K) (s0 + dS I K) Q (F0 m 1210 ls [])) : W p l e room_1 s m args below meth c H locs c0 s0 Q (F0 m 936 ls []) := by
  have hcK : cle J K := (R_M_make Z ((xs (i + 1)).toInt) ((xs (i + 2)).toInt) J _ _ h2).1
  refine lv_aload_n b.1 b.2.1 dL_law_936 rfl (lv_at hl 1 rfl) ?_
  refine lv_aload_n b.1 b.2.1 dL_law_937 rfl (lv_at hl 0 rfl) ?_
  refine lv_iload b.1 b.2.1 dL_law_938 (lv_at hl 4 rfl) ?_
  refine lv_iconst (v := Int32.ofInt 1) b.1 b.2.1 dL_law_940 rfl ?_
  refine lx_iadd b dL_law_941 ?_
  refine lx_sld (q := i + 1) b hX hbl hZ hH hlo (w32_of (by omega) (by omega)) (by omega) dL_law_942 ?_
  refine lv_aload_n b.1 b.2.1 dL_law_943 rfl (lv_at hl 0 rfl) ?_
  refine lv_iload b.1 b.2.1 dL_law_944 (lv_at hl 4 rfl) ?_
  refine lv_iconst (v := Int32.ofInt 2) b.1 b.2.1 dL_law_946 rfl ?_
  refine lx_iadd b dL_law_947 ?_
  refine lx_sld (q := i + 2) b hX hbl hZ hH hlo (w32_of (by omega) (by omega)) (by omega) dL_law_948 ?_
  refine lv_aload_n b.1 b.2.1 dL_law_949 rfl (lv_at hl 3 rfl) ?_
  have R1 := R_L_make Z ((xs (i + 1)).toInt) ((xs (i + 2)).toInt) I _ _ h1
  have hc1 : cle I J := R1.1
  refine lx_callS (n := 4) (As := [vr Z 0 0, vi (xs (i + 1)).toInt, vi (xs (i + 2)).toInt, vr Z 29 0]) (rest := []) b hfl hl.1 hH R1 (li_6 159 (by decide +kernel) (by decide +kernel)) (li_6 158 (by decide +kernel) (by decide +kernel)) (li_1 0 (by decide +kernel) (by decide +kernel)) (by decide +kernel) rfl rfl ⟨Nat.le_of_ble_eq_true rfl, Nat.le_of_ble_eq_true rfl⟩ (Nat.le_of_ble_eq_true rfl) ⟨show c0 + dC I J ≤ 601024 by have q1 := dC_add hc1 hcK; have q2 := dC_self K; omega, show s0 + dS I J ≤ 7293034 by have q1 := dC_add hc1 hcK; have q2 := dC_self K; omega⟩ (li_6 157 (by decide +kernel) (by decide +kernel)) hlo dL_law_950 (fun H locs hH hlo => ?_)
  refine lv_istore (lv' := [(5, vi r1), (0, .ref b0), (1, vr Z 0 0), (2, vr Z 26 0), (3, vr Z 29 0), (4, vi (i : Int))]) b.1 b.2.1 dL_law_953 hl (by decide) rfl (fun ls hl => ?_)
  refine lv_aload_n b.1 b.2.1 dL_law_955 rfl (lv_at hl 3 rfl) ?_
  refine lv_aload_n b.1 b.2.1 dL_law_956 rfl (lv_at hl 1 rfl) ?_
  refine lv_iload b.1 b.2.1 dL_law_957 (lv_at hl 5 rfl) ?_
  refine lv_iconst (v := Int32.ofInt 1) b.1 b.2.1 dL_law_959 rfl ?_
  refine lx_iadd b dL_law_960 ?_
  refine lx_sld (q := i + 1) b hX hbl hZ hH hlo (w32_of (by omega) (by omega)) (by omega) dL_law_961 ?_
  refine lv_aload_n b.1 b.2.1 dL_law_962 rfl (lv_at hl 1 rfl) ?_
  refine lv_iload b.1 b.2.1 dL_law_963 (lv_at hl 5 rfl) ?_
  refine lv_iconst (v := Int32.ofInt 2) b.1 b.2.1 dL_law_965 rfl ?_
  refine lx_iadd b dL_law_966 ?_
  refine lx_sld (q := i + 2) b hX hbl hZ hH hlo (w32_of (by omega) (by omega)) (by omega) dL_law_967 ?_
  have R2 := R_M_make Z ((xs (i + 1)).toInt) ((xs (i + 2)).toInt) J _ _ h2
  have hc2 : cle J K := R2.1
  refine lx_callV (n := 2) (As := [vi (xs (i + 1)).toInt, vi (xs (i + 2)).toInt]) (rest := []) b hfl hl.1 hH R2 ⟨(li_9 185 (by decide +kernel) (by decide +kernel)), (li_9 183 (by decide +kernel) (by decide +kernel)), (li_9 184 (by decide +kernel) (by decide +kernel)), (li_1 16 (by decide +kernel) (by decide +kernel)), by decide +kernel⟩ (fun gr => ob_26) rfl rfl ⟨Nat.le_of_ble_eq_true rfl, Nat.le_of_ble_eq_true rfl⟩ (Nat.le_of_ble_eq_true rfl) ⟨show c0 + dC I J + dC J K ≤ 601024 by have q1 := dC_add hc1 hc2; have q2 := dC_self K; omega, show s0 + dS I J + dS J K ≤ 7293034 by have q1 := dC_add hc1 hc2; have q2 := dC_self K; omega⟩ (li_9 182 (by decide +kernel) (by decide +kernel)) hlo dL_law_968 (fun H locs hH hlo => ?_)
  refine lv_istore (lv' := [(6, vi r2), (5, vi r1), (0, .ref b0), (1, vr Z 0 0), (2, vr Z 26 0), (3, vr Z 29 0), (4, vi (i : Int))]) b.1 b.2.1 dL_law_971 hl (by decide) rfl (fun ls hl => ?_)
  refine lv_goto (tgt := 1210) b.1 b.2.1 dL_law_973 (by decide) ?_
  refine W.widen (k := c0 + dC I K) (n := s0 + dS I K) (show c0 + dC I J + dC J K ≤ c0 + dC I K by have q1 := dC_add hc1 hc2; have q2 := dC_self K; omega) (show s0 + dS I J + dS J K ≤ s0 + dS I K by have q1 := dC_add hc1 hc2; have q2 := dC_self K; omega) ?_
  exact kk H locs ls hH hlo (lv_sub hl [2, 3, 4, 5, 6] rfl)
set_option maxRecDepth 20000 in
set_option maxHeartbeats 4000000 in
theorem LC_30 {p : Program} {l : Launch} {e : Env} {s : State} {m : MethodId} {args : Array Value} {below : List Frame} {meth : Method} {c : Code} {H : Heap} {locs : List Loc} {c0 s0 : Nat} {Q : State → Prop} {ls : Array Slot} {Z : ZT} {I : Mem} {b0 L i : Nat} {xs : Nat → Int32} (b : BB p s m args c RL cL_law 9 Z) (hfl : l.stackTraces = false) (hX : va_X b0 L xs s s.heap) (hbl : b0 < s.heap.size) (hZ : zB Z = s.heap.size ∧ zH Z = s.heap) (hi : i + 6 ≤ L) (hL : L < 100000) (hH : HH Z I H) (hlo : ∀ q ∈ locs, zN Z q.base) (hl : lv_has ls 9 [(0, .ref b0), (1, vr Z 0 0), (2, vr Z 26 0), (3, vr Z 29 0), (4, vi (i : Int))]) {r1 : Int} {r2 : Int} {J K : Mem} (h1 : f_L_expand ((xs (i + 1)).toInt) I = some (r1, J)) (h2 : f_M_expand ((xs (i + 1)).toInt) J = some (r2, K)) (hmc : c0 + dC I K ≤ 601024) (hms : s0 + dS I K ≤ 7293034)
    (kk : ∀ (H : Heap) (locs : List Loc) (ls : Array Slot), HH Z K H → (∀ q ∈ locs, zN Z q.base) → lv_has ls 9 [(0, .ref b0), (1, vr Z 0 0), (2, vr Z 26 0), (3, vr Z 29 0), (4, vi (i : Int))] → W p l e room_1 s m args below meth c H locs (c0 + dC I K) (s0 + dS I K) Q (F0 m 1210 ls [])) : W p l e room_1 s m args below meth c H locs c0 s0 Q (F0 m 976 ls []) := by
  have hcK : cle J K := (R_M_expand Z ((xs (i + 1)).toInt) J _ _ h2).1
  refine lv_aload_n b.1 b.2.1 dL_law_976 rfl (lv_at hl 1 rfl) ?_
  refine lv_aload_n b.1 b.2.1 dL_law_977 rfl (lv_at hl 0 rfl) ?_
  refine lv_iload b.1 b.2.1 dL_law_978 (lv_at hl 4 rfl) ?_
  refine lv_iconst (v := Int32.ofInt 1) b.1 b.2.1 dL_law_980 rfl ?_
  refine lx_iadd b dL_law_981 ?_
  refine lx_sld (q := i + 1) b hX hbl hZ hH hlo (w32_of (by omega) (by omega)) (by omega) dL_law_982 ?_
  refine lv_aload_n b.1 b.2.1 dL_law_983 rfl (lv_at hl 3 rfl) ?_
  have R1 := R_L_expand Z ((xs (i + 1)).toInt) I _ _ h1
  have hc1 : cle I J := R1.1
  refine lx_callS (n := 3) (As := [vr Z 0 0, vi (xs (i + 1)).toInt, vr Z 29 0]) (rest := []) b hfl hl.1 hH R1 (li_6 166 (by decide +kernel) (by decide +kernel)) (li_6 165 (by decide +kernel) (by decide +kernel)) (li_1 0 (by decide +kernel) (by decide +kernel)) (by decide +kernel) rfl rfl ⟨Nat.le_of_ble_eq_true rfl, Nat.le_of_ble_eq_true rfl⟩ (Nat.le_of_ble_eq_true rfl) ⟨show c0 + dC I J ≤ 601024 by have q1 := dC_add hc1 hcK; have q2 := dC_self K; omega, show s0 + dS I J ≤ 7293034 by have q1 := dC_add hc1 hcK; have q2 := dC_self K; omega⟩ (li_6 164 (by decide +kernel) (by decide +kernel)) hlo dL_law_984 (fun H locs hH hlo => ?_)
  refine lv_istore (lv' := [(5, vi r1), (0, .ref b0), (1, vr Z 0 0), (2, vr Z 26 0), (3, vr Z 29 0), (4, vi (i : Int))]) b.1 b.2.1 dL_law_987 hl (by decide) rfl (fun ls hl => ?_)
  refine lv_aload_n b.1 b.2.1 dL_law_989 rfl (lv_at hl 3 rfl) ?_
  refine lv_aload_n b.1 b.2.1 dL_law_990 rfl (lv_at hl 1 rfl) ?_
  refine lv_iload b.1 b.2.1 dL_law_991 (lv_at hl 5 rfl) ?_
  refine lv_iconst (v := Int32.ofInt 1) b.1 b.2.1 dL_law_993 rfl ?_
  refine lx_iadd b dL_law_994 ?_
  refine lx_sld (q := i + 1) b hX hbl hZ hH hlo (w32_of (by omega) (by omega)) (by omega) dL_law_995 ?_
  have R2 := R_M_expand Z ((xs (i + 1)).toInt) J _ _ h2
  have hc2 : cle J K := R2.1
  refine lx_callV (n := 1) (As := [vi (xs (i + 1)).toInt]) (rest := []) b hfl hl.1 hH R2 ⟨(li_9 189 (by decide +kernel) (by decide +kernel)), (li_9 187 (by decide +kernel) (by decide +kernel)), (li_9 188 (by decide +kernel) (by decide +kernel)), (li_1 16 (by decide +kernel) (by decide +kernel)), by decide +kernel⟩ (fun gr => ob_26) rfl rfl ⟨Nat.le_of_ble_eq_true rfl, Nat.le_of_ble_eq_true rfl⟩ (Nat.le_of_ble_eq_true rfl) ⟨show c0 + dC I J + dC J K ≤ 601024 by have q1 := dC_add hc1 hc2; have q2 := dC_self K; omega, show s0 + dS I J + dS J K ≤ 7293034 by have q1 := dC_add hc1 hc2; have q2 := dC_self K; omega⟩ (li_9 186 (by decide +kernel) (by decide +kernel)) hlo dL_law_996 (fun H locs hH hlo => ?_)
  refine lv_istore (lv' := [(6, vi r2), (5, vi r1), (0, .ref b0), (1, vr Z 0 0), (2, vr Z 26 0), (3, vr Z 29 0), (4, vi (i : Int))]) b.1 b.2.1 dL_law_999 hl (by decide) rfl (fun ls hl => ?_)
  refine lv_goto (tgt := 1210) b.1 b.2.1 dL_law_1001 (by decide) ?_
  refine W.widen (k := c0 + dC I K) (n := s0 + dS I K) (show c0 + dC I J + dC J K ≤ c0 + dC I K by have q1 := dC_add hc1 hc2; have q2 := dC_self K; omega) (show s0 + dS I J + dS J K ≤ s0 + dS I K by have q1 := dC_add hc1 hc2; have q2 := dC_self K; omega) ?_
  exact kk H locs ls hH hlo (lv_sub hl [2, 3, 4, 5, 6] rfl)
set_option maxRecDepth 20000 in
set_option maxHeartbeats 4000000 in
theorem LC_31 {p : Program} {l : Launch} {e : Env} {s : State} {m : MethodId} {args : Array Value} {below : List Frame} {meth : Method} {c : Code} {H : Heap} {locs : List Loc} {c0 s0 : Nat} {Q : State → Prop} {ls : Array Slot} {Z : ZT} {I : Mem} {b0 L i : Nat} {xs : Nat → Int32} (b : BB p s m args c RL cL_law 9 Z) (hfl : l.stackTraces = false) (hX : va_X b0 L xs s s.heap) (hbl : b0 < s.heap.size) (hZ : zB Z = s.heap.size ∧ zH Z = s.heap) (hi : i + 6 ≤ L) (hL : L < 100000) (hH : HH Z I H) (hlo : ∀ q ∈ locs, zN Z q.base) (hl : lv_has ls 9 [(0, .ref b0), (1, vr Z 0 0), (2, vr Z 26 0), (3, vr Z 29 0), (4, vi (i : Int))]) {r1 : Int} {r2 : Int} {J K : Mem} (h1 : f_L_append ((xs (i + 1)).toInt) I = some (r1, J)) (h2 : f_M_append ((xs (i + 1)).toInt) J = some (r2, K)) (hmc : c0 + dC I K ≤ 601024) (hms : s0 + dS I K ≤ 7293034)
    (kk : ∀ (H : Heap) (locs : List Loc) (ls : Array Slot), HH Z K H → (∀ q ∈ locs, zN Z q.base) → lv_has ls 9 [(0, .ref b0), (1, vr Z 0 0), (2, vr Z 26 0), (3, vr Z 29 0), (4, vi (i : Int))] → W p l e room_1 s m args below meth c H locs (c0 + dC I K) (s0 + dS I K) Q (F0 m 1210 ls [])) : W p l e room_1 s m args below meth c H locs c0 s0 Q (F0 m 1004 ls []) := by
  have hcK : cle J K := (R_M_append Z ((xs (i + 1)).toInt) J _ _ h2).1
  refine lv_aload_n b.1 b.2.1 dL_law_1004 rfl (lv_at hl 1 rfl) ?_
  refine lv_aload_n b.1 b.2.1 dL_law_1005 rfl (lv_at hl 0 rfl) ?_
  refine lv_iload b.1 b.2.1 dL_law_1006 (lv_at hl 4 rfl) ?_
  refine lv_iconst (v := Int32.ofInt 1) b.1 b.2.1 dL_law_1008 rfl ?_
  refine lx_iadd b dL_law_1009 ?_
  refine lx_sld (q := i + 1) b hX hbl hZ hH hlo (w32_of (by omega) (by omega)) (by omega) dL_law_1010 ?_
  refine lv_aload_n b.1 b.2.1 dL_law_1011 rfl (lv_at hl 3 rfl) ?_
  have R1 := R_L_append Z ((xs (i + 1)).toInt) I _ _ h1
  have hc1 : cle I J := R1.1
  refine lx_callS (n := 3) (As := [vr Z 0 0, vi (xs (i + 1)).toInt, vr Z 29 0]) (rest := []) b hfl hl.1 hH R1 (li_6 173 (by decide +kernel) (by decide +kernel)) (li_6 172 (by decide +kernel) (by decide +kernel)) (li_1 0 (by decide +kernel) (by decide +kernel)) (by decide +kernel) rfl rfl ⟨Nat.le_of_ble_eq_true rfl, Nat.le_of_ble_eq_true rfl⟩ (Nat.le_of_ble_eq_true rfl) ⟨show c0 + dC I J ≤ 601024 by have q1 := dC_add hc1 hcK; have q2 := dC_self K; omega, show s0 + dS I J ≤ 7293034 by have q1 := dC_add hc1 hcK; have q2 := dC_self K; omega⟩ (li_6 171 (by decide +kernel) (by decide +kernel)) hlo dL_law_1012 (fun H locs hH hlo => ?_)
  refine lv_istore (lv' := [(5, vi r1), (0, .ref b0), (1, vr Z 0 0), (2, vr Z 26 0), (3, vr Z 29 0), (4, vi (i : Int))]) b.1 b.2.1 dL_law_1015 hl (by decide) rfl (fun ls hl => ?_)
  refine lv_aload_n b.1 b.2.1 dL_law_1017 rfl (lv_at hl 3 rfl) ?_
  refine lv_aload_n b.1 b.2.1 dL_law_1018 rfl (lv_at hl 1 rfl) ?_
  refine lv_iload b.1 b.2.1 dL_law_1019 (lv_at hl 5 rfl) ?_
  refine lv_iconst (v := Int32.ofInt 1) b.1 b.2.1 dL_law_1021 rfl ?_
  refine lx_iadd b dL_law_1022 ?_
  refine lx_sld (q := i + 1) b hX hbl hZ hH hlo (w32_of (by omega) (by omega)) (by omega) dL_law_1023 ?_
  have R2 := R_M_append Z ((xs (i + 1)).toInt) J _ _ h2
  have hc2 : cle J K := R2.1
  refine lx_callV (n := 1) (As := [vi (xs (i + 1)).toInt]) (rest := []) b hfl hl.1 hH R2 ⟨(li_9 193 (by decide +kernel) (by decide +kernel)), (li_9 191 (by decide +kernel) (by decide +kernel)), (li_9 192 (by decide +kernel) (by decide +kernel)), (li_1 16 (by decide +kernel) (by decide +kernel)), by decide +kernel⟩ (fun gr => ob_26) rfl rfl ⟨Nat.le_of_ble_eq_true rfl, Nat.le_of_ble_eq_true rfl⟩ (Nat.le_of_ble_eq_true rfl) ⟨show c0 + dC I J + dC J K ≤ 601024 by have q1 := dC_add hc1 hc2; have q2 := dC_self K; omega, show s0 + dS I J + dS J K ≤ 7293034 by have q1 := dC_add hc1 hc2; have q2 := dC_self K; omega⟩ (li_9 190 (by decide +kernel) (by decide +kernel)) hlo dL_law_1024 (fun H locs hH hlo => ?_)
  refine lv_istore (lv' := [(6, vi r2), (5, vi r1), (0, .ref b0), (1, vr Z 0 0), (2, vr Z 26 0), (3, vr Z 29 0), (4, vi (i : Int))]) b.1 b.2.1 dL_law_1027 hl (by decide) rfl (fun ls hl => ?_)
  refine lv_goto (tgt := 1210) b.1 b.2.1 dL_law_1029 (by decide) ?_
  refine W.widen (k := c0 + dC I K) (n := s0 + dS I K) (show c0 + dC I J + dC J K ≤ c0 + dC I K by have q1 := dC_add hc1 hc2; have q2 := dC_self K; omega) (show s0 + dS I J + dS J K ≤ s0 + dS I K by have q1 := dC_add hc1 hc2; have q2 := dC_self K; omega) ?_
  exact kk H locs ls hH hlo (lv_sub hl [2, 3, 4, 5, 6] rfl)
set_option maxRecDepth 20000 in
set_option maxHeartbeats 4000000 in
theorem LC_32 {p : Program} {l : Launch} {e : Env} {s : State} {m : MethodId} {args : Array Value} {below : List Frame} {meth : Method} {c : Code} {H : Heap} {locs : List Loc} {c0 s0 : Nat} {Q : State → Prop} {ls : Array Slot} {Z : ZT} {I : Mem} {b0 L i : Nat} {xs : Nat → Int32} (b : BB p s m args c RL cL_law 9 Z) (hfl : l.stackTraces = false) (hX : va_X b0 L xs s s.heap) (hbl : b0 < s.heap.size) (hZ : zB Z = s.heap.size ∧ zH Z = s.heap) (hi : i + 6 ≤ L) (hL : L < 100000) (hH : HH Z I H) (hlo : ∀ q ∈ locs, zN Z q.base) (hl : lv_has ls 9 [(0, .ref b0), (1, vr Z 0 0), (2, vr Z 26 0), (3, vr Z 29 0), (4, vi (i : Int))]) {r1 : Int} {r2 : Int} {J K : Mem} (h1 : f_L_cut ((xs (i + 1)).toInt) I = some (r1, J)) (h2 : f_M_cut ((xs (i + 1)).toInt) J = some (r2, K)) (hmc : c0 + dC I K ≤ 601024) (hms : s0 + dS I K ≤ 7293034)
    (kk : ∀ (H : Heap) (locs : List Loc) (ls : Array Slot), HH Z K H → (∀ q ∈ locs, zN Z q.base) → lv_has ls 9 [(0, .ref b0), (1, vr Z 0 0), (2, vr Z 26 0), (3, vr Z 29 0), (4, vi (i : Int))] → W p l e room_1 s m args below meth c H locs (c0 + dC I K) (s0 + dS I K) Q (F0 m 1210 ls [])) : W p l e room_1 s m args below meth c H locs c0 s0 Q (F0 m 1032 ls []) := by
  have hcK : cle J K := (R_M_cut Z ((xs (i + 1)).toInt) J _ _ h2).1
  refine lv_aload_n b.1 b.2.1 dL_law_1032 rfl (lv_at hl 1 rfl) ?_
  refine lv_aload_n b.1 b.2.1 dL_law_1033 rfl (lv_at hl 0 rfl) ?_
  refine lv_iload b.1 b.2.1 dL_law_1034 (lv_at hl 4 rfl) ?_
  refine lv_iconst (v := Int32.ofInt 1) b.1 b.2.1 dL_law_1036 rfl ?_
  refine lx_iadd b dL_law_1037 ?_
  refine lx_sld (q := i + 1) b hX hbl hZ hH hlo (w32_of (by omega) (by omega)) (by omega) dL_law_1038 ?_
  refine lv_aload_n b.1 b.2.1 dL_law_1039 rfl (lv_at hl 3 rfl) ?_
  have R1 := R_L_cut Z ((xs (i + 1)).toInt) I _ _ h1
  have hc1 : cle I J := R1.1
  refine lx_callS (n := 3) (As := [vr Z 0 0, vi (xs (i + 1)).toInt, vr Z 29 0]) (rest := []) b hfl hl.1 hH R1 (li_6 180 (by decide +kernel) (by decide +kernel)) (li_6 179 (by decide +kernel) (by decide +kernel)) (li_1 0 (by decide +kernel) (by decide +kernel)) (by decide +kernel) rfl rfl ⟨Nat.le_of_ble_eq_true rfl, Nat.le_of_ble_eq_true rfl⟩ (Nat.le_of_ble_eq_true rfl) ⟨show c0 + dC I J ≤ 601024 by have q1 := dC_add hc1 hcK; have q2 := dC_self K; omega, show s0 + dS I J ≤ 7293034 by have q1 := dC_add hc1 hcK; have q2 := dC_self K; omega⟩ (li_6 178 (by decide +kernel) (by decide +kernel)) hlo dL_law_1040 (fun H locs hH hlo => ?_)
  refine lv_istore (lv' := [(5, vi r1), (0, .ref b0), (1, vr Z 0 0), (2, vr Z 26 0), (3, vr Z 29 0), (4, vi (i : Int))]) b.1 b.2.1 dL_law_1043 hl (by decide) rfl (fun ls hl => ?_)
  refine lv_aload_n b.1 b.2.1 dL_law_1045 rfl (lv_at hl 3 rfl) ?_
  refine lv_aload_n b.1 b.2.1 dL_law_1046 rfl (lv_at hl 1 rfl) ?_
  refine lv_iload b.1 b.2.1 dL_law_1047 (lv_at hl 5 rfl) ?_
  refine lv_iconst (v := Int32.ofInt 1) b.1 b.2.1 dL_law_1049 rfl ?_
  refine lx_iadd b dL_law_1050 ?_
  refine lx_sld (q := i + 1) b hX hbl hZ hH hlo (w32_of (by omega) (by omega)) (by omega) dL_law_1051 ?_
  have R2 := R_M_cut Z ((xs (i + 1)).toInt) J _ _ h2
  have hc2 : cle J K := R2.1
  refine lx_callV (n := 1) (As := [vi (xs (i + 1)).toInt]) (rest := []) b hfl hl.1 hH R2 ⟨(li_9 197 (by decide +kernel) (by decide +kernel)), (li_9 195 (by decide +kernel) (by decide +kernel)), (li_9 196 (by decide +kernel) (by decide +kernel)), (li_1 16 (by decide +kernel) (by decide +kernel)), by decide +kernel⟩ (fun gr => ob_26) rfl rfl ⟨Nat.le_of_ble_eq_true rfl, Nat.le_of_ble_eq_true rfl⟩ (Nat.le_of_ble_eq_true rfl) ⟨show c0 + dC I J + dC J K ≤ 601024 by have q1 := dC_add hc1 hc2; have q2 := dC_self K; omega, show s0 + dS I J + dS J K ≤ 7293034 by have q1 := dC_add hc1 hc2; have q2 := dC_self K; omega⟩ (li_9 194 (by decide +kernel) (by decide +kernel)) hlo dL_law_1052 (fun H locs hH hlo => ?_)
  refine lv_istore (lv' := [(6, vi r2), (5, vi r1), (0, .ref b0), (1, vr Z 0 0), (2, vr Z 26 0), (3, vr Z 29 0), (4, vi (i : Int))]) b.1 b.2.1 dL_law_1055 hl (by decide) rfl (fun ls hl => ?_)
  refine lv_goto (tgt := 1210) b.1 b.2.1 dL_law_1057 (by decide) ?_
  refine W.widen (k := c0 + dC I K) (n := s0 + dS I K) (show c0 + dC I J + dC J K ≤ c0 + dC I K by have q1 := dC_add hc1 hc2; have q2 := dC_self K; omega) (show s0 + dS I J + dS J K ≤ s0 + dS I K by have q1 := dC_add hc1 hc2; have q2 := dC_self K; omega) ?_
  exact kk H locs ls hH hlo (lv_sub hl [2, 3, 4, 5, 6] rfl)
set_option maxRecDepth 20000 in
set_option maxHeartbeats 4000000 in
theorem LC_33 {p : Program} {l : Launch} {e : Env} {s : State} {m : MethodId} {args : Array Value} {below : List Frame} {meth : Method} {c : Code} {H : Heap} {locs : List Loc} {c0 s0 : Nat} {Q : State → Prop} {ls : Array Slot} {Z : ZT} {I : Mem} {b0 L i : Nat} {xs : Nat → Int32} (b : BB p s m args c RL cL_law 9 Z) (hfl : l.stackTraces = false) (hX : va_X b0 L xs s s.heap) (hbl : b0 < s.heap.size) (hZ : zB Z = s.heap.size ∧ zH Z = s.heap) (hi : i + 6 ≤ L) (hL : L < 100000) (hH : HH Z I H) (hlo : ∀ q ∈ locs, zN Z q.base) (hl : lv_has ls 9 [(0, .ref b0), (1, vr Z 0 0), (2, vr Z 26 0), (3, vr Z 29 0), (4, vi (i : Int))]) {r1 : Int} {r2 : Int} {J K : Mem} (h1 : f_L_set ((xs (i + 1)).toInt) ((xs (i + 2)).toInt) I = some (r1, J)) (h2 : f_M_set ((xs (i + 1)).toInt) ((xs (i + 2)).toInt) J = some (r2, K)) (hmc : c0 + dC I K ≤ 601024) (hms : s0 + dS I K ≤ 7293034)
    (kk : ∀ (H : Heap) (locs : List Loc) (ls : Array Slot), HH Z K H → (∀ q ∈ locs, zN Z q.base) → lv_has ls 9 [(0, .ref b0), (1, vr Z 0 0), (2, vr Z 26 0), (3, vr Z 29 0), (4, vi (i : Int))] → W p l e room_1 s m args below meth c H locs (c0 + dC I K) (s0 + dS I K) Q (F0 m 1210 ls [])) : W p l e room_1 s m args below meth c H locs c0 s0 Q (F0 m 1060 ls []) := by
  have hcK : cle J K := (R_M_set Z ((xs (i + 1)).toInt) ((xs (i + 2)).toInt) J _ _ h2).1
  refine lv_aload_n b.1 b.2.1 dL_law_1060 rfl (lv_at hl 1 rfl) ?_
  refine lv_aload_n b.1 b.2.1 dL_law_1061 rfl (lv_at hl 0 rfl) ?_
  refine lv_iload b.1 b.2.1 dL_law_1062 (lv_at hl 4 rfl) ?_
  refine lv_iconst (v := Int32.ofInt 1) b.1 b.2.1 dL_law_1064 rfl ?_
  refine lx_iadd b dL_law_1065 ?_
  refine lx_sld (q := i + 1) b hX hbl hZ hH hlo (w32_of (by omega) (by omega)) (by omega) dL_law_1066 ?_
  refine lv_aload_n b.1 b.2.1 dL_law_1067 rfl (lv_at hl 0 rfl) ?_
  refine lv_iload b.1 b.2.1 dL_law_1068 (lv_at hl 4 rfl) ?_
  refine lv_iconst (v := Int32.ofInt 2) b.1 b.2.1 dL_law_1070 rfl ?_
  refine lx_iadd b dL_law_1071 ?_
  refine lx_sld (q := i + 2) b hX hbl hZ hH hlo (w32_of (by omega) (by omega)) (by omega) dL_law_1072 ?_
  refine lv_aload_n b.1 b.2.1 dL_law_1073 rfl (lv_at hl 3 rfl) ?_
  have R1 := R_L_set Z ((xs (i + 1)).toInt) ((xs (i + 2)).toInt) I _ _ h1
  have hc1 : cle I J := R1.1
  refine lx_callS (n := 4) (As := [vr Z 0 0, vi (xs (i + 1)).toInt, vi (xs (i + 2)).toInt, vr Z 29 0]) (rest := []) b hfl hl.1 hH R1 (li_6 187 (by decide +kernel) (by decide +kernel)) (li_6 186 (by decide +kernel) (by decide +kernel)) (li_1 0 (by decide +kernel) (by decide +kernel)) (by decide +kernel) rfl rfl ⟨Nat.le_of_ble_eq_true rfl, Nat.le_of_ble_eq_true rfl⟩ (Nat.le_of_ble_eq_true rfl) ⟨show c0 + dC I J ≤ 601024 by have q1 := dC_add hc1 hcK; have q2 := dC_self K; omega, show s0 + dS I J ≤ 7293034 by have q1 := dC_add hc1 hcK; have q2 := dC_self K; omega⟩ (li_6 185 (by decide +kernel) (by decide +kernel)) hlo dL_law_1074 (fun H locs hH hlo => ?_)
  refine lv_istore (lv' := [(5, vi r1), (0, .ref b0), (1, vr Z 0 0), (2, vr Z 26 0), (3, vr Z 29 0), (4, vi (i : Int))]) b.1 b.2.1 dL_law_1077 hl (by decide) rfl (fun ls hl => ?_)
  refine lv_aload_n b.1 b.2.1 dL_law_1079 rfl (lv_at hl 3 rfl) ?_
  refine lv_aload_n b.1 b.2.1 dL_law_1080 rfl (lv_at hl 1 rfl) ?_
  refine lv_iload b.1 b.2.1 dL_law_1081 (lv_at hl 5 rfl) ?_
  refine lv_iconst (v := Int32.ofInt 1) b.1 b.2.1 dL_law_1083 rfl ?_
  refine lx_iadd b dL_law_1084 ?_
  refine lx_sld (q := i + 1) b hX hbl hZ hH hlo (w32_of (by omega) (by omega)) (by omega) dL_law_1085 ?_
  refine lv_aload_n b.1 b.2.1 dL_law_1086 rfl (lv_at hl 1 rfl) ?_
  refine lv_iload b.1 b.2.1 dL_law_1087 (lv_at hl 5 rfl) ?_
  refine lv_iconst (v := Int32.ofInt 2) b.1 b.2.1 dL_law_1089 rfl ?_
  refine lx_iadd b dL_law_1090 ?_
  refine lx_sld (q := i + 2) b hX hbl hZ hH hlo (w32_of (by omega) (by omega)) (by omega) dL_law_1091 ?_
  have R2 := R_M_set Z ((xs (i + 1)).toInt) ((xs (i + 2)).toInt) J _ _ h2
  have hc2 : cle J K := R2.1
  refine lx_callV (n := 2) (As := [vi (xs (i + 1)).toInt, vi (xs (i + 2)).toInt]) (rest := []) b hfl hl.1 hH R2 ⟨(li_9 201 (by decide +kernel) (by decide +kernel)), (li_9 199 (by decide +kernel) (by decide +kernel)), (li_9 200 (by decide +kernel) (by decide +kernel)), (li_1 16 (by decide +kernel) (by decide +kernel)), by decide +kernel⟩ (fun gr => ob_26) rfl rfl ⟨Nat.le_of_ble_eq_true rfl, Nat.le_of_ble_eq_true rfl⟩ (Nat.le_of_ble_eq_true rfl) ⟨show c0 + dC I J + dC J K ≤ 601024 by have q1 := dC_add hc1 hc2; have q2 := dC_self K; omega, show s0 + dS I J + dS J K ≤ 7293034 by have q1 := dC_add hc1 hc2; have q2 := dC_self K; omega⟩ (li_9 198 (by decide +kernel) (by decide +kernel)) hlo dL_law_1092 (fun H locs hH hlo => ?_)
  refine lv_istore (lv' := [(6, vi r2), (5, vi r1), (0, .ref b0), (1, vr Z 0 0), (2, vr Z 26 0), (3, vr Z 29 0), (4, vi (i : Int))]) b.1 b.2.1 dL_law_1095 hl (by decide) rfl (fun ls hl => ?_)
  refine lv_goto (tgt := 1210) b.1 b.2.1 dL_law_1097 (by decide) ?_
  refine W.widen (k := c0 + dC I K) (n := s0 + dS I K) (show c0 + dC I J + dC J K ≤ c0 + dC I K by have q1 := dC_add hc1 hc2; have q2 := dC_self K; omega) (show s0 + dS I J + dS J K ≤ s0 + dS I K by have q1 := dC_add hc1 hc2; have q2 := dC_self K; omega) ?_
  exact kk H locs ls hH hlo (lv_sub hl [2, 3, 4, 5, 6] rfl)
set_option maxRecDepth 20000 in
set_option maxHeartbeats 4000000 in
theorem LC_34 {p : Program} {l : Launch} {e : Env} {s : State} {m : MethodId} {args : Array Value} {below : List Frame} {meth : Method} {c : Code} {H : Heap} {locs : List Loc} {c0 s0 : Nat} {Q : State → Prop} {ls : Array Slot} {Z : ZT} {I : Mem} {b0 L i : Nat} {xs : Nat → Int32} (b : BB p s m args c RL cL_law 9 Z) (hfl : l.stackTraces = false) (hX : va_X b0 L xs s s.heap) (hbl : b0 < s.heap.size) (hZ : zB Z = s.heap.size ∧ zH Z = s.heap) (hi : i + 6 ≤ L) (hL : L < 100000) (hH : HH Z I H) (hlo : ∀ q ∈ locs, zN Z q.base) (hl : lv_has ls 9 [(0, .ref b0), (1, vr Z 0 0), (2, vr Z 26 0), (3, vr Z 29 0), (4, vi (i : Int))]) {r1 : Int} {r2 : Int} {J K : Mem} (h1 : f_PR_report  I = some (r1, J)) (h2 : f_M_report  J = some (r2, K)) (hmc : c0 + dC I K ≤ 601024) (hms : s0 + dS I K ≤ 7293034)
    (kk : ∀ (H : Heap) (locs : List Loc) (ls : Array Slot), HH Z K H → (∀ q ∈ locs, zN Z q.base) → lv_has ls 9 [(0, .ref b0), (1, vr Z 0 0), (2, vr Z 26 0), (3, vr Z 29 0), (4, vi (i : Int))] → W p l e room_1 s m args below meth c H locs (c0 + dC I K) (s0 + dS I K) Q (F0 m 1210 ls [])) : W p l e room_1 s m args below meth c H locs c0 s0 Q (F0 m 1100 ls []) := by
  have hcK : cle J K := (R_M_report Z  J _ _ h2).1
  refine lv_aload_n b.1 b.2.1 dL_law_1100 rfl (lv_at hl 1 rfl) ?_
  have R1 := R_PR_report Z  I _ _ h1
  have hc1 : cle I J := R1.1
  refine lx_callV (n := 0) (As := []) (rest := []) b hfl hl.1 hH R1 ⟨(li_5 98 (by decide +kernel) (by decide +kernel)), (li_5 96 (by decide +kernel) (by decide +kernel)), (li_5 97 (by decide +kernel) (by decide +kernel)), (li_1 1 (by decide +kernel) (by decide +kernel)), by decide +kernel⟩ (fun gr => ob_0) rfl rfl ⟨Nat.le_of_ble_eq_true rfl, Nat.le_of_ble_eq_true rfl⟩ (Nat.le_of_ble_eq_true rfl) ⟨show c0 + dC I J ≤ 601024 by have q1 := dC_add hc1 hcK; have q2 := dC_self K; omega, show s0 + dS I J ≤ 7293034 by have q1 := dC_add hc1 hcK; have q2 := dC_self K; omega⟩ (li_5 95 (by decide +kernel) (by decide +kernel)) hlo dL_law_1101 (fun H locs hH hlo => ?_)
  refine lv_pop b.1 b.2.1 dL_law_1104 rfl ?_
  refine lv_aload_n b.1 b.2.1 dL_law_1105 rfl (lv_at hl 2 rfl) ?_
  have R2 := R_M_report Z  J _ _ h2
  have hc2 : cle J K := R2.1
  refine lx_callV (n := 0) (As := []) (rest := []) b hfl hl.1 hH R2 ⟨(li_9 205 (by decide +kernel) (by decide +kernel)), (li_9 203 (by decide +kernel) (by decide +kernel)), (li_9 204 (by decide +kernel) (by decide +kernel)), (li_1 16 (by decide +kernel) (by decide +kernel)), by decide +kernel⟩ (fun gr => ob_26) rfl rfl ⟨Nat.le_of_ble_eq_true rfl, Nat.le_of_ble_eq_true rfl⟩ (Nat.le_of_ble_eq_true rfl) ⟨show c0 + dC I J + dC J K ≤ 601024 by have q1 := dC_add hc1 hc2; have q2 := dC_self K; omega, show s0 + dS I J + dS J K ≤ 7293034 by have q1 := dC_add hc1 hc2; have q2 := dC_self K; omega⟩ (li_9 202 (by decide +kernel) (by decide +kernel)) hlo dL_law_1106 (fun H locs hH hlo => ?_)
  refine lv_pop b.1 b.2.1 dL_law_1109 rfl ?_
  refine lv_goto (tgt := 1210) b.1 b.2.1 dL_law_1110 (by decide) ?_
  refine W.widen (k := c0 + dC I K) (n := s0 + dS I K) (show c0 + dC I J + dC J K ≤ c0 + dC I K by have q1 := dC_add hc1 hc2; have q2 := dC_self K; omega) (show s0 + dS I J + dS J K ≤ s0 + dS I K by have q1 := dC_add hc1 hc2; have q2 := dC_self K; omega) ?_
  exact kk H locs ls hH hlo (lv_sub hl [0, 1, 2, 3, 4] rfl)
set_option maxRecDepth 20000 in
set_option maxHeartbeats 4000000 in
theorem LC_35 {p : Program} {l : Launch} {e : Env} {s : State} {m : MethodId} {args : Array Value} {below : List Frame} {meth : Method} {c : Code} {H : Heap} {locs : List Loc} {c0 s0 : Nat} {Q : State → Prop} {ls : Array Slot} {Z : ZT} {I : Mem} {b0 L i : Nat} {xs : Nat → Int32} (b : BB p s m args c RL cL_law 9 Z) (hfl : l.stackTraces = false) (hX : va_X b0 L xs s s.heap) (hbl : b0 < s.heap.size) (hZ : zB Z = s.heap.size ∧ zH Z = s.heap) (hi : i + 6 ≤ L) (hL : L < 100000) (hH : HH Z I H) (hlo : ∀ q ∈ locs, zN Z q.base) (hl : lv_has ls 9 [(0, .ref b0), (1, vr Z 0 0), (2, vr Z 26 0), (3, vr Z 29 0), (4, vi (i : Int))]) {r1 : Int} {r2 : Int} {J K : Mem} (h1 : f_PR_reportByte ((xs (i + 1)).toInt) I = some (r1, J)) (h2 : f_M_reportByte ((xs (i + 1)).toInt) J = some (r2, K)) (hmc : c0 + dC I K ≤ 601024) (hms : s0 + dS I K ≤ 7293034)
    (kk : ∀ (H : Heap) (locs : List Loc) (ls : Array Slot), HH Z K H → (∀ q ∈ locs, zN Z q.base) → lv_has ls 9 [(0, .ref b0), (1, vr Z 0 0), (2, vr Z 26 0), (3, vr Z 29 0), (4, vi (i : Int))] → W p l e room_1 s m args below meth c H locs (c0 + dC I K) (s0 + dS I K) Q (F0 m 1210 ls [])) : W p l e room_1 s m args below meth c H locs c0 s0 Q (F0 m 1113 ls []) := by
  have hcK : cle J K := (R_M_reportByte Z ((xs (i + 1)).toInt) J _ _ h2).1
  refine lv_aload_n b.1 b.2.1 dL_law_1113 rfl (lv_at hl 1 rfl) ?_
  refine lv_aload_n b.1 b.2.1 dL_law_1114 rfl (lv_at hl 0 rfl) ?_
  refine lv_iload b.1 b.2.1 dL_law_1115 (lv_at hl 4 rfl) ?_
  refine lv_iconst (v := Int32.ofInt 1) b.1 b.2.1 dL_law_1117 rfl ?_
  refine lx_iadd b dL_law_1118 ?_
  refine lx_sld (q := i + 1) b hX hbl hZ hH hlo (w32_of (by omega) (by omega)) (by omega) dL_law_1119 ?_
  have R1 := R_PR_reportByte Z ((xs (i + 1)).toInt) I _ _ h1
  have hc1 : cle I J := R1.1
  refine lx_callV (n := 1) (As := [vi (xs (i + 1)).toInt]) (rest := []) b hfl hl.1 hH R1 ⟨(li_5 129 (by decide +kernel) (by decide +kernel)), (li_5 127 (by decide +kernel) (by decide +kernel)), (li_5 128 (by decide +kernel) (by decide +kernel)), (li_1 1 (by decide +kernel) (by decide +kernel)), by decide +kernel⟩ (fun gr => ob_0) rfl rfl ⟨Nat.le_of_ble_eq_true rfl, Nat.le_of_ble_eq_true rfl⟩ (Nat.le_of_ble_eq_true rfl) ⟨show c0 + dC I J ≤ 601024 by have q1 := dC_add hc1 hcK; have q2 := dC_self K; omega, show s0 + dS I J ≤ 7293034 by have q1 := dC_add hc1 hcK; have q2 := dC_self K; omega⟩ (li_5 126 (by decide +kernel) (by decide +kernel)) hlo dL_law_1120 (fun H locs hH hlo => ?_)
  refine lv_pop b.1 b.2.1 dL_law_1123 rfl ?_
  refine lv_aload_n b.1 b.2.1 dL_law_1124 rfl (lv_at hl 2 rfl) ?_
  refine lv_aload_n b.1 b.2.1 dL_law_1125 rfl (lv_at hl 0 rfl) ?_
  refine lv_iload b.1 b.2.1 dL_law_1126 (lv_at hl 4 rfl) ?_
  refine lv_iconst (v := Int32.ofInt 1) b.1 b.2.1 dL_law_1128 rfl ?_
  refine lx_iadd b dL_law_1129 ?_
  refine lx_sld (q := i + 1) b hX hbl hZ hH hlo (w32_of (by omega) (by omega)) (by omega) dL_law_1130 ?_
  have R2 := R_M_reportByte Z ((xs (i + 1)).toInt) J _ _ h2
  have hc2 : cle J K := R2.1
  refine lx_callV (n := 1) (As := [vi (xs (i + 1)).toInt]) (rest := []) b hfl hl.1 hH R2 ⟨(li_9 221 (by decide +kernel) (by decide +kernel)), (li_9 219 (by decide +kernel) (by decide +kernel)), (li_9 220 (by decide +kernel) (by decide +kernel)), (li_1 16 (by decide +kernel) (by decide +kernel)), by decide +kernel⟩ (fun gr => ob_26) rfl rfl ⟨Nat.le_of_ble_eq_true rfl, Nat.le_of_ble_eq_true rfl⟩ (Nat.le_of_ble_eq_true rfl) ⟨show c0 + dC I J + dC J K ≤ 601024 by have q1 := dC_add hc1 hc2; have q2 := dC_self K; omega, show s0 + dS I J + dS J K ≤ 7293034 by have q1 := dC_add hc1 hc2; have q2 := dC_self K; omega⟩ (li_9 218 (by decide +kernel) (by decide +kernel)) hlo dL_law_1131 (fun H locs hH hlo => ?_)
  refine lv_pop b.1 b.2.1 dL_law_1134 rfl ?_
  refine lv_goto (tgt := 1210) b.1 b.2.1 dL_law_1135 (by decide) ?_
  refine W.widen (k := c0 + dC I K) (n := s0 + dS I K) (show c0 + dC I J + dC J K ≤ c0 + dC I K by have q1 := dC_add hc1 hc2; have q2 := dC_self K; omega) (show s0 + dS I J + dS J K ≤ s0 + dS I K by have q1 := dC_add hc1 hc2; have q2 := dC_self K; omega) ?_
  exact kk H locs ls hH hlo (lv_sub hl [0, 1, 2, 3, 4] rfl)
set_option maxRecDepth 20000 in
set_option maxHeartbeats 4000000 in
theorem LC_36 {p : Program} {l : Launch} {e : Env} {s : State} {m : MethodId} {args : Array Value} {below : List Frame} {meth : Method} {c : Code} {H : Heap} {locs : List Loc} {c0 s0 : Nat} {Q : State → Prop} {ls : Array Slot} {Z : ZT} {I : Mem} {b0 L i : Nat} {xs : Nat → Int32} (b : BB p s m args c RL cL_law 9 Z) (hfl : l.stackTraces = false) (hX : va_X b0 L xs s s.heap) (hbl : b0 < s.heap.size) (hZ : zB Z = s.heap.size ∧ zH Z = s.heap) (hi : i + 6 ≤ L) (hL : L < 100000) (hH : HH Z I H) (hlo : ∀ q ∈ locs, zN Z q.base) (hl : lv_has ls 9 [(0, .ref b0), (1, vr Z 0 0), (2, vr Z 26 0), (3, vr Z 29 0), (4, vi (i : Int))]) {r1 : Int} {r2 : Int} {J K : Mem} (h1 : f_L_undo  I = some (r1, J)) (h2 : f_M_undo  J = some (r2, K)) (hmc : c0 + dC I K ≤ 601024) (hms : s0 + dS I K ≤ 7293034)
    (kk : ∀ (H : Heap) (locs : List Loc) (ls : Array Slot), HH Z K H → (∀ q ∈ locs, zN Z q.base) → lv_has ls 9 [(0, .ref b0), (1, vr Z 0 0), (2, vr Z 26 0), (3, vr Z 29 0), (4, vi (i : Int))] → W p l e room_1 s m args below meth c H locs (c0 + dC I K) (s0 + dS I K) Q (F0 m 1210 ls [])) : W p l e room_1 s m args below meth c H locs c0 s0 Q (F0 m 1138 ls []) := by
  have hcK : cle J K := (R_M_undo Z  J _ _ h2).1
  refine lv_aload_n b.1 b.2.1 dL_law_1138 rfl (lv_at hl 1 rfl) ?_
  refine lv_aload_n b.1 b.2.1 dL_law_1139 rfl (lv_at hl 3 rfl) ?_
  have R1 := R_L_undo Z  I _ _ h1
  have hc1 : cle I J := R1.1
  refine lx_callS (n := 2) (As := [vr Z 0 0, vr Z 29 0]) (rest := []) b hfl hl.1 hH R1 (li_6 194 (by decide +kernel) (by decide +kernel)) (li_6 193 (by decide +kernel) (by decide +kernel)) (li_1 0 (by decide +kernel) (by decide +kernel)) (by decide +kernel) rfl rfl ⟨Nat.le_of_ble_eq_true rfl, Nat.le_of_ble_eq_true rfl⟩ (Nat.le_of_ble_eq_true rfl) ⟨show c0 + dC I J ≤ 601024 by have q1 := dC_add hc1 hcK; have q2 := dC_self K; omega, show s0 + dS I J ≤ 7293034 by have q1 := dC_add hc1 hcK; have q2 := dC_self K; omega⟩ (li_6 192 (by decide +kernel) (by decide +kernel)) hlo dL_law_1140 (fun H locs hH hlo => ?_)
  refine lv_istore (lv' := [(5, vi r1), (0, .ref b0), (1, vr Z 0 0), (2, vr Z 26 0), (3, vr Z 29 0), (4, vi (i : Int))]) b.1 b.2.1 dL_law_1143 hl (by decide) rfl (fun ls hl => ?_)
  refine lv_aload_n b.1 b.2.1 dL_law_1145 rfl (lv_at hl 3 rfl) ?_
  have R2 := R_M_undo Z  J _ _ h2
  have hc2 : cle J K := R2.1
  refine lx_callV (n := 0) (As := []) (rest := []) b hfl hl.1 hH R2 ⟨(li_9 225 (by decide +kernel) (by decide +kernel)), (li_9 223 (by decide +kernel) (by decide +kernel)), (li_9 224 (by decide +kernel) (by decide +kernel)), (li_1 16 (by decide +kernel) (by decide +kernel)), by decide +kernel⟩ (fun gr => ob_26) rfl rfl ⟨Nat.le_of_ble_eq_true rfl, Nat.le_of_ble_eq_true rfl⟩ (Nat.le_of_ble_eq_true rfl) ⟨show c0 + dC I J + dC J K ≤ 601024 by have q1 := dC_add hc1 hc2; have q2 := dC_self K; omega, show s0 + dS I J + dS J K ≤ 7293034 by have q1 := dC_add hc1 hc2; have q2 := dC_self K; omega⟩ (li_9 222 (by decide +kernel) (by decide +kernel)) hlo dL_law_1146 (fun H locs hH hlo => ?_)
  refine lv_istore (lv' := [(6, vi r2), (5, vi r1), (0, .ref b0), (1, vr Z 0 0), (2, vr Z 26 0), (3, vr Z 29 0), (4, vi (i : Int))]) b.1 b.2.1 dL_law_1149 hl (by decide) rfl (fun ls hl => ?_)
  refine lv_goto (tgt := 1210) b.1 b.2.1 dL_law_1151 (by decide) ?_
  refine W.widen (k := c0 + dC I K) (n := s0 + dS I K) (show c0 + dC I J + dC J K ≤ c0 + dC I K by have q1 := dC_add hc1 hc2; have q2 := dC_self K; omega) (show s0 + dS I J + dS J K ≤ s0 + dS I K by have q1 := dC_add hc1 hc2; have q2 := dC_self K; omega) ?_
  exact kk H locs ls hH hlo (lv_sub hl [2, 3, 4, 5, 6] rfl)
set_option maxRecDepth 20000 in
set_option maxHeartbeats 4000000 in
theorem LC_37 {p : Program} {l : Launch} {e : Env} {s : State} {m : MethodId} {args : Array Value} {below : List Frame} {meth : Method} {c : Code} {H : Heap} {locs : List Loc} {c0 s0 : Nat} {Q : State → Prop} {ls : Array Slot} {Z : ZT} {I : Mem} {b0 L i : Nat} {xs : Nat → Int32} (b : BB p s m args c RL cL_law 9 Z) (hfl : l.stackTraces = false) (hX : va_X b0 L xs s s.heap) (hbl : b0 < s.heap.size) (hZ : zB Z = s.heap.size ∧ zH Z = s.heap) (hi : i + 6 ≤ L) (hL : L < 100000) (hH : HH Z I H) (hlo : ∀ q ∈ locs, zN Z q.base) (hl : lv_has ls 9 [(0, .ref b0), (1, vr Z 0 0), (2, vr Z 26 0), (3, vr Z 29 0), (4, vi (i : Int))]) {r1 : Int} {r2 : Int} {J K : Mem} (h1 : f_L_save ((xs (i + 1)).toInt) I = some (r1, J)) (h2 : f_M_save ((xs (i + 1)).toInt) J = some (r2, K)) (hmc : c0 + dC I K ≤ 601024) (hms : s0 + dS I K ≤ 7293034)
    (kk : ∀ (H : Heap) (locs : List Loc) (ls : Array Slot), HH Z K H → (∀ q ∈ locs, zN Z q.base) → lv_has ls 9 [(0, .ref b0), (1, vr Z 0 0), (2, vr Z 26 0), (3, vr Z 29 0), (4, vi (i : Int))] → W p l e room_1 s m args below meth c H locs (c0 + dC I K) (s0 + dS I K) Q (F0 m 1210 ls [])) : W p l e room_1 s m args below meth c H locs c0 s0 Q (F0 m 1154 ls []) := by
  have hcK : cle J K := (R_M_save Z ((xs (i + 1)).toInt) J _ _ h2).1
  refine lv_aload_n b.1 b.2.1 dL_law_1154 rfl (lv_at hl 1 rfl) ?_
  refine lv_aload_n b.1 b.2.1 dL_law_1155 rfl (lv_at hl 0 rfl) ?_
  refine lv_iload b.1 b.2.1 dL_law_1156 (lv_at hl 4 rfl) ?_
  refine lv_iconst (v := Int32.ofInt 1) b.1 b.2.1 dL_law_1158 rfl ?_
  refine lx_iadd b dL_law_1159 ?_
  refine lx_sld (q := i + 1) b hX hbl hZ hH hlo (w32_of (by omega) (by omega)) (by omega) dL_law_1160 ?_
  refine lv_aload_n b.1 b.2.1 dL_law_1161 rfl (lv_at hl 3 rfl) ?_
  have R1 := R_L_save Z ((xs (i + 1)).toInt) I _ _ h1
  have hc1 : cle I J := R1.1
  refine lx_callS (n := 3) (As := [vr Z 0 0, vi (xs (i + 1)).toInt, vr Z 29 0]) (rest := []) b hfl hl.1 hH R1 (li_6 221 (by decide +kernel) (by decide +kernel)) (li_6 220 (by decide +kernel) (by decide +kernel)) (li_1 0 (by decide +kernel) (by decide +kernel)) (by decide +kernel) rfl rfl ⟨Nat.le_of_ble_eq_true rfl, Nat.le_of_ble_eq_true rfl⟩ (Nat.le_of_ble_eq_true rfl) ⟨show c0 + dC I J ≤ 601024 by have q1 := dC_add hc1 hcK; have q2 := dC_self K; omega, show s0 + dS I J ≤ 7293034 by have q1 := dC_add hc1 hcK; have q2 := dC_self K; omega⟩ (li_6 219 (by decide +kernel) (by decide +kernel)) hlo dL_law_1162 (fun H locs hH hlo => ?_)
  refine lv_istore (lv' := [(5, vi r1), (0, .ref b0), (1, vr Z 0 0), (2, vr Z 26 0), (3, vr Z 29 0), (4, vi (i : Int))]) b.1 b.2.1 dL_law_1165 hl (by decide) rfl (fun ls hl => ?_)
  refine lv_aload_n b.1 b.2.1 dL_law_1167 rfl (lv_at hl 3 rfl) ?_
  refine lv_aload_n b.1 b.2.1 dL_law_1168 rfl (lv_at hl 1 rfl) ?_
  refine lv_iload b.1 b.2.1 dL_law_1169 (lv_at hl 5 rfl) ?_
  refine lv_iconst (v := Int32.ofInt 1) b.1 b.2.1 dL_law_1171 rfl ?_
  refine lx_iadd b dL_law_1172 ?_
  refine lx_sld (q := i + 1) b hX hbl hZ hH hlo (w32_of (by omega) (by omega)) (by omega) dL_law_1173 ?_
  have R2 := R_M_save Z ((xs (i + 1)).toInt) J _ _ h2
  have hc2 : cle J K := R2.1
  refine lx_callV (n := 1) (As := [vi (xs (i + 1)).toInt]) (rest := []) b hfl hl.1 hH R2 ⟨(li_9 229 (by decide +kernel) (by decide +kernel)), (li_9 227 (by decide +kernel) (by decide +kernel)), (li_9 228 (by decide +kernel) (by decide +kernel)), (li_1 16 (by decide +kernel) (by decide +kernel)), by decide +kernel⟩ (fun gr => ob_26) rfl rfl ⟨Nat.le_of_ble_eq_true rfl, Nat.le_of_ble_eq_true rfl⟩ (Nat.le_of_ble_eq_true rfl) ⟨show c0 + dC I J + dC J K ≤ 601024 by have q1 := dC_add hc1 hc2; have q2 := dC_self K; omega, show s0 + dS I J + dS J K ≤ 7293034 by have q1 := dC_add hc1 hc2; have q2 := dC_self K; omega⟩ (li_9 226 (by decide +kernel) (by decide +kernel)) hlo dL_law_1174 (fun H locs hH hlo => ?_)
  refine lv_istore (lv' := [(6, vi r2), (5, vi r1), (0, .ref b0), (1, vr Z 0 0), (2, vr Z 26 0), (3, vr Z 29 0), (4, vi (i : Int))]) b.1 b.2.1 dL_law_1177 hl (by decide) rfl (fun ls hl => ?_)
  refine lv_goto (tgt := 1210) b.1 b.2.1 dL_law_1179 (by decide) ?_
  refine W.widen (k := c0 + dC I K) (n := s0 + dS I K) (show c0 + dC I J + dC J K ≤ c0 + dC I K by have q1 := dC_add hc1 hc2; have q2 := dC_self K; omega) (show s0 + dS I J + dS J K ≤ s0 + dS I K by have q1 := dC_add hc1 hc2; have q2 := dC_self K; omega) ?_
  exact kk H locs ls hH hlo (lv_sub hl [2, 3, 4, 5, 6] rfl)
set_option maxRecDepth 20000 in
set_option maxHeartbeats 4000000 in
theorem LC_38 {p : Program} {l : Launch} {e : Env} {s : State} {m : MethodId} {args : Array Value} {below : List Frame} {meth : Method} {c : Code} {H : Heap} {locs : List Loc} {c0 s0 : Nat} {Q : State → Prop} {ls : Array Slot} {Z : ZT} {I : Mem} {b0 L i : Nat} {xs : Nat → Int32} (b : BB p s m args c RL cL_law 9 Z) (hfl : l.stackTraces = false) (hX : va_X b0 L xs s s.heap) (hbl : b0 < s.heap.size) (hZ : zB Z = s.heap.size ∧ zH Z = s.heap) (hi : i + 6 ≤ L) (hL : L < 100000) (hH : HH Z I H) (hlo : ∀ q ∈ locs, zN Z q.base) (hl : lv_has ls 9 [(0, .ref b0), (1, vr Z 0 0), (2, vr Z 26 0), (3, vr Z 29 0), (4, vi (i : Int))]) {r1 : Int} {r2 : Int} {J K : Mem} (h1 : f_L_restore ((xs (i + 1)).toInt) I = some (r1, J)) (h2 : f_M_restore ((xs (i + 1)).toInt) J = some (r2, K)) (hmc : c0 + dC I K ≤ 601024) (hms : s0 + dS I K ≤ 7293034)
    (kk : ∀ (H : Heap) (locs : List Loc) (ls : Array Slot), HH Z K H → (∀ q ∈ locs, zN Z q.base) → lv_has ls 9 [(0, .ref b0), (1, vr Z 0 0), (2, vr Z 26 0), (3, vr Z 29 0), (4, vi (i : Int))] → W p l e room_1 s m args below meth c H locs (c0 + dC I K) (s0 + dS I K) Q (F0 m 1210 ls [])) : W p l e room_1 s m args below meth c H locs c0 s0 Q (F0 m 1182 ls []) := by
  have hcK : cle J K := (R_M_restore Z ((xs (i + 1)).toInt) J _ _ h2).1
  refine lv_aload_n b.1 b.2.1 dL_law_1182 rfl (lv_at hl 1 rfl) ?_
  refine lv_aload_n b.1 b.2.1 dL_law_1183 rfl (lv_at hl 0 rfl) ?_
  refine lv_iload b.1 b.2.1 dL_law_1184 (lv_at hl 4 rfl) ?_
  refine lv_iconst (v := Int32.ofInt 1) b.1 b.2.1 dL_law_1186 rfl ?_
  refine lx_iadd b dL_law_1187 ?_
  refine lx_sld (q := i + 1) b hX hbl hZ hH hlo (w32_of (by omega) (by omega)) (by omega) dL_law_1188 ?_
  refine lv_aload_n b.1 b.2.1 dL_law_1189 rfl (lv_at hl 3 rfl) ?_
  have R1 := R_L_restore Z ((xs (i + 1)).toInt) I _ _ h1
  have hc1 : cle I J := R1.1
  refine lx_callS (n := 3) (As := [vr Z 0 0, vi (xs (i + 1)).toInt, vr Z 29 0]) (rest := []) b hfl hl.1 hH R1 (li_6 232 (by decide +kernel) (by decide +kernel)) (li_6 231 (by decide +kernel) (by decide +kernel)) (li_1 0 (by decide +kernel) (by decide +kernel)) (by decide +kernel) rfl rfl ⟨Nat.le_of_ble_eq_true rfl, Nat.le_of_ble_eq_true rfl⟩ (Nat.le_of_ble_eq_true rfl) ⟨show c0 + dC I J ≤ 601024 by have q1 := dC_add hc1 hcK; have q2 := dC_self K; omega, show s0 + dS I J ≤ 7293034 by have q1 := dC_add hc1 hcK; have q2 := dC_self K; omega⟩ (li_6 230 (by decide +kernel) (by decide +kernel)) hlo dL_law_1190 (fun H locs hH hlo => ?_)
  refine lv_istore (lv' := [(5, vi r1), (0, .ref b0), (1, vr Z 0 0), (2, vr Z 26 0), (3, vr Z 29 0), (4, vi (i : Int))]) b.1 b.2.1 dL_law_1193 hl (by decide) rfl (fun ls hl => ?_)
  refine lv_aload_n b.1 b.2.1 dL_law_1195 rfl (lv_at hl 3 rfl) ?_
  refine lv_aload_n b.1 b.2.1 dL_law_1196 rfl (lv_at hl 1 rfl) ?_
  refine lv_iload b.1 b.2.1 dL_law_1197 (lv_at hl 5 rfl) ?_
  refine lv_iconst (v := Int32.ofInt 1) b.1 b.2.1 dL_law_1199 rfl ?_
  refine lx_iadd b dL_law_1200 ?_
  refine lx_sld (q := i + 1) b hX hbl hZ hH hlo (w32_of (by omega) (by omega)) (by omega) dL_law_1201 ?_
  have R2 := R_M_restore Z ((xs (i + 1)).toInt) J _ _ h2
  have hc2 : cle J K := R2.1
  refine lx_callV (n := 1) (As := [vi (xs (i + 1)).toInt]) (rest := []) b hfl hl.1 hH R2 ⟨(li_9 237 (by decide +kernel) (by decide +kernel)), (li_9 235 (by decide +kernel) (by decide +kernel)), (li_9 236 (by decide +kernel) (by decide +kernel)), (li_1 16 (by decide +kernel) (by decide +kernel)), by decide +kernel⟩ (fun gr => ob_26) rfl rfl ⟨Nat.le_of_ble_eq_true rfl, Nat.le_of_ble_eq_true rfl⟩ (Nat.le_of_ble_eq_true rfl) ⟨show c0 + dC I J + dC J K ≤ 601024 by have q1 := dC_add hc1 hc2; have q2 := dC_self K; omega, show s0 + dS I J + dS J K ≤ 7293034 by have q1 := dC_add hc1 hc2; have q2 := dC_self K; omega⟩ (li_9 234 (by decide +kernel) (by decide +kernel)) hlo dL_law_1202 (fun H locs hH hlo => ?_)
  refine lv_istore (lv' := [(6, vi r2), (5, vi r1), (0, .ref b0), (1, vr Z 0 0), (2, vr Z 26 0), (3, vr Z 29 0), (4, vi (i : Int))]) b.1 b.2.1 dL_law_1205 hl (by decide) rfl (fun ls hl => ?_)
  refine lv_goto (tgt := 1210) b.1 b.2.1 dL_law_1207 (by decide) ?_
  refine W.widen (k := c0 + dC I K) (n := s0 + dS I K) (show c0 + dC I J + dC J K ≤ c0 + dC I K by have q1 := dC_add hc1 hc2; have q2 := dC_self K; omega) (show s0 + dS I J + dS J K ≤ s0 + dS I K by have q1 := dC_add hc1 hc2; have q2 := dC_self K; omega) ?_
  exact kk H locs ls hH hlo (lv_sub hl [2, 3, 4, 5, 6] rfl)
