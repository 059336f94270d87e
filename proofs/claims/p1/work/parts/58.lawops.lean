/-! ===== the law, call by call ===== -/
set_option maxRecDepth 20000 in
set_option maxHeartbeats 4000000 in
theorem LC_0 {p : Program} {l : Launch} {e : Env} {s : State} {m : MethodId} {args : Array Value} {below : List Frame} {meth : Method} {c : Code} {H : Heap} {locs : List Loc} {c0 s0 : Nat} {Q : State → Prop} {ls : Array Slot} {Z : ZT} {I : Mem} {b0 L i : Nat} {xs : Nat → Int32} (b : BB p s m args c RL cL_law 9 Z) (hfl : l.stackTraces = false) (hX : va_X b0 L xs s s.heap) (hbl : b0 < s.heap.size) (hZ : zB Z = s.heap.size ∧ zH Z = s.heap) (hi : i + 6 ≤ L) (hL : L < 100000) (hH : HH Z I H) (hlo : ∀ q ∈ locs, zN Z q.base) (hl : lv_has ls 9 [(0, .ref b0), (1, vr Z 0 0), (2, vr Z 26 0), (3, vr Z 29 0), (4, vi (i : Int))]) {r1 : Int} {r2 : Int} {J K : Mem} (h1 : f_PR_feed ((xs (i + 1)).toInt) ((xs (i + 2)).toInt) ((xs (i + 3)).toInt) ((xs (i + 4)).toInt) ((xs (i + 5)).toInt) I = some (r1, J)) (h2 : f_M_feed ((xs (i + 1)).toInt) ((xs (i + 2)).toInt) ((xs (i + 3)).toInt) ((xs (i + 4)).toInt) ((xs (i + 5)).toInt) J = some (r2, K)) (h3 : w32 r1 = w32 r2) (hmc : c0 + dC I K ≤ 600002) (hms : s0 + dS I K ≤ 7302232)
    (kk : ∀ (H : Heap) (locs : List Loc) (ls : Array Slot), HH Z K H → (∀ q ∈ locs, zN Z q.base) → lv_has ls 9 [(0, .ref b0), (1, vr Z 0 0), (2, vr Z 26 0), (3, vr Z 29 0), (4, vi (i : Int))] → W p l e room_1 s m args below meth c H locs (c0 + dC I K) (s0 + dS I K) Q (F0 m 1888 ls [])) : W p l e room_1 s m args below meth c H locs c0 s0 Q (F0 m 212 ls []) := by
  have hcK : cle J K := (R_M_feed Z ((xs (i + 1)).toInt) ((xs (i + 2)).toInt) ((xs (i + 3)).toInt) ((xs (i + 4)).toInt) ((xs (i + 5)).toInt) J _ _ h2).1
  refine lv_aload_n b.1 b.2.1 dL_law_212 rfl (lv_at hl 1 rfl) ?_
  refine lv_aload_n b.1 b.2.1 dL_law_213 rfl (lv_at hl 0 rfl) ?_
  refine lv_iload b.1 b.2.1 dL_law_214 (lv_at hl 4 rfl) ?_
  refine lv_iconst (v := Int32.ofInt 1) b.1 b.2.1 dL_law_216 rfl ?_
  refine lx_iadd b dL_law_217 ?_
  refine lx_sld (q := i + 1) b hX hbl hZ hH hlo (w32_of (by omega) (by omega)) (by omega) dL_law_218 ?_
  refine lv_aload_n b.1 b.2.1 dL_law_219 rfl (lv_at hl 0 rfl) ?_
  refine lv_iload b.1 b.2.1 dL_law_220 (lv_at hl 4 rfl) ?_
  refine lv_iconst (v := Int32.ofInt 2) b.1 b.2.1 dL_law_222 rfl ?_
  refine lx_iadd b dL_law_223 ?_
  refine lx_sld (q := i + 2) b hX hbl hZ hH hlo (w32_of (by omega) (by omega)) (by omega) dL_law_224 ?_
  refine lv_aload_n b.1 b.2.1 dL_law_225 rfl (lv_at hl 0 rfl) ?_
  refine lv_iload b.1 b.2.1 dL_law_226 (lv_at hl 4 rfl) ?_
  refine lv_iconst (v := Int32.ofInt 3) b.1 b.2.1 dL_law_228 rfl ?_
  refine lx_iadd b dL_law_229 ?_
  refine lx_sld (q := i + 3) b hX hbl hZ hH hlo (w32_of (by omega) (by omega)) (by omega) dL_law_230 ?_
  refine lv_aload_n b.1 b.2.1 dL_law_231 rfl (lv_at hl 0 rfl) ?_
  refine lv_iload b.1 b.2.1 dL_law_232 (lv_at hl 4 rfl) ?_
  refine lv_iconst (v := Int32.ofInt 4) b.1 b.2.1 dL_law_234 rfl ?_
  refine lx_iadd b dL_law_235 ?_
  refine lx_sld (q := i + 4) b hX hbl hZ hH hlo (w32_of (by omega) (by omega)) (by omega) dL_law_236 ?_
  refine lv_aload_n b.1 b.2.1 dL_law_237 rfl (lv_at hl 0 rfl) ?_
  refine lv_iload b.1 b.2.1 dL_law_238 (lv_at hl 4 rfl) ?_
  refine lv_iconst (v := Int32.ofInt 5) b.1 b.2.1 dL_law_240 rfl ?_
  refine lx_iadd b dL_law_241 ?_
  refine lx_sld (q := i + 5) b hX hbl hZ hH hlo (w32_of (by omega) (by omega)) (by omega) dL_law_242 ?_
  have R1 := R_PR_feed Z ((xs (i + 1)).toInt) ((xs (i + 2)).toInt) ((xs (i + 3)).toInt) ((xs (i + 4)).toInt) ((xs (i + 5)).toInt) I _ _ h1
  have hc1 : cle I J := R1.1
  refine lx_callV (n := 5) (As := [vi (xs (i + 1)).toInt, vi (xs (i + 2)).toInt, vi (xs (i + 3)).toInt, vi (xs (i + 4)).toInt, vi (xs (i + 5)).toInt]) (rest := []) b hfl hl.1 hH R1 ⟨(lw_in 511 (by decide +kernel) (by decide +kernel)), (lw_in 509 (by decide +kernel) (by decide +kernel)), (lw_in 510 (by decide +kernel) (by decide +kernel)), (lw_in 138 (by decide +kernel) (by decide +kernel)), by decide +kernel⟩ (fun gr => ob_0) rfl rfl ⟨Nat.le_of_ble_eq_true rfl, Nat.le_of_ble_eq_true rfl⟩ (Nat.le_of_ble_eq_true rfl) ⟨show c0 + dC I J ≤ 600002 by have q1 := dC_add hc1 hcK; have q2 := dC_self K; omega, show s0 + dS I J ≤ 7302232 by have q1 := dC_add hc1 hcK; have q2 := dC_self K; omega⟩ (lw_in 508 (by decide +kernel) (by decide +kernel)) hlo dL_law_243 (fun H locs hH hlo => ?_)
  refine lv_aload_n b.1 b.2.1 dL_law_246 rfl (lv_at hl 2 rfl) ?_
  refine lv_aload_n b.1 b.2.1 dL_law_247 rfl (lv_at hl 0 rfl) ?_
  refine lv_iload b.1 b.2.1 dL_law_248 (lv_at hl 4 rfl) ?_
  refine lv_iconst (v := Int32.ofInt 1) b.1 b.2.1 dL_law_250 rfl ?_
  refine lx_iadd b dL_law_251 ?_
  refine lx_sld (q := i + 1) b hX hbl hZ hH hlo (w32_of (by omega) (by omega)) (by omega) dL_law_252 ?_
  refine lv_aload_n b.1 b.2.1 dL_law_253 rfl (lv_at hl 0 rfl) ?_
  refine lv_iload b.1 b.2.1 dL_law_254 (lv_at hl 4 rfl) ?_
  refine lv_iconst (v := Int32.ofInt 2) b.1 b.2.1 dL_law_256 rfl ?_
  refine lx_iadd b dL_law_257 ?_
  refine lx_sld (q := i + 2) b hX hbl hZ hH hlo (w32_of (by omega) (by omega)) (by omega) dL_law_258 ?_
  refine lv_aload_n b.1 b.2.1 dL_law_259 rfl (lv_at hl 0 rfl) ?_
  refine lv_iload b.1 b.2.1 dL_law_260 (lv_at hl 4 rfl) ?_
  refine lv_iconst (v := Int32.ofInt 3) b.1 b.2.1 dL_law_262 rfl ?_
  refine lx_iadd b dL_law_263 ?_
  refine lx_sld (q := i + 3) b hX hbl hZ hH hlo (w32_of (by omega) (by omega)) (by omega) dL_law_264 ?_
  refine lv_aload_n b.1 b.2.1 dL_law_265 rfl (lv_at hl 0 rfl) ?_
  refine lv_iload b.1 b.2.1 dL_law_266 (lv_at hl 4 rfl) ?_
  refine lv_iconst (v := Int32.ofInt 4) b.1 b.2.1 dL_law_268 rfl ?_
  refine lx_iadd b dL_law_269 ?_
  refine lx_sld (q := i + 4) b hX hbl hZ hH hlo (w32_of (by omega) (by omega)) (by omega) dL_law_270 ?_
  refine lv_aload_n b.1 b.2.1 dL_law_271 rfl (lv_at hl 0 rfl) ?_
  refine lv_iload b.1 b.2.1 dL_law_272 (lv_at hl 4 rfl) ?_
  refine lv_iconst (v := Int32.ofInt 5) b.1 b.2.1 dL_law_274 rfl ?_
  refine lx_iadd b dL_law_275 ?_
  refine lx_sld (q := i + 5) b hX hbl hZ hH hlo (w32_of (by omega) (by omega)) (by omega) dL_law_276 ?_
  have R2 := R_M_feed Z ((xs (i + 1)).toInt) ((xs (i + 2)).toInt) ((xs (i + 3)).toInt) ((xs (i + 4)).toInt) ((xs (i + 5)).toInt) J _ _ h2
  have hc2 : cle J K := R2.1
  refine lx_callV (n := 5) (As := [vi (xs (i + 1)).toInt, vi (xs (i + 2)).toInt, vi (xs (i + 3)).toInt, vi (xs (i + 4)).toInt, vi (xs (i + 5)).toInt]) (rest := [vi r1]) b hfl hl.1 hH R2 ⟨(lw_in 1771 (by decide +kernel) (by decide +kernel)), (lw_in 1769 (by decide +kernel) (by decide +kernel)), (lw_in 1770 (by decide +kernel) (by decide +kernel)), (lw_in 153 (by decide +kernel) (by decide +kernel)), by decide +kernel⟩ (fun gr => ob_26) rfl rfl ⟨Nat.le_of_ble_eq_true rfl, Nat.le_of_ble_eq_true rfl⟩ (Nat.le_of_ble_eq_true rfl) ⟨show c0 + dC I J + dC J K ≤ 600002 by have q1 := dC_add hc1 hc2; have q2 := dC_self K; omega, show s0 + dS I J + dS J K ≤ 7302232 by have q1 := dC_add hc1 hc2; have q2 := dC_self K; omega⟩ (lw_in 1768 (by decide +kernel) (by decide +kernel)) hlo dL_law_277 (fun H locs hH hlo => ?_)
  refine lx_eq (tgt := 1888) b h3 dL_law_280 (by decide) ?_
  refine W.widen (k := c0 + dC I K) (n := s0 + dS I K) (show c0 + dC I J + dC J K ≤ c0 + dC I K by have q1 := dC_add hc1 hc2; have q2 := dC_self K; omega) (show s0 + dS I J + dS J K ≤ s0 + dS I K by have q1 := dC_add hc1 hc2; have q2 := dC_self K; omega) ?_
  exact kk H locs ls hH hlo (lv_sub hl [0, 1, 2, 3, 4] rfl)
set_option maxRecDepth 20000 in
set_option maxHeartbeats 4000000 in
theorem LC_1 {p : Program} {l : Launch} {e : Env} {s : State} {m : MethodId} {args : Array Value} {below : List Frame} {meth : Method} {c : Code} {H : Heap} {locs : List Loc} {c0 s0 : Nat} {Q : State → Prop} {ls : Array Slot} {Z : ZT} {I : Mem} {b0 L i : Nat} {xs : Nat → Int32} (b : BB p s m args c RL cL_law 9 Z) (hfl : l.stackTraces = false) (hX : va_X b0 L xs s s.heap) (hbl : b0 < s.heap.size) (hZ : zB Z = s.heap.size ∧ zH Z = s.heap) (hi : i + 6 ≤ L) (hL : L < 100000) (hH : HH Z I H) (hlo : ∀ q ∈ locs, zN Z q.base) (hl : lv_has ls 9 [(0, .ref b0), (1, vr Z 0 0), (2, vr Z 26 0), (3, vr Z 29 0), (4, vi (i : Int))]) {r1 : Int} {r2 : Int} {J K : Mem} (h1 : f_PR_load  I = some (r1, J)) (h2 : f_M_load  J = some (r2, K)) (h3 : w32 r1 = w32 r2) (hmc : c0 + dC I K ≤ 600002) (hms : s0 + dS I K ≤ 7302232)
    (kk : ∀ (H : Heap) (locs : List Loc) (ls : Array Slot), HH Z K H → (∀ q ∈ locs, zN Z q.base) → lv_has ls 9 [(0, .ref b0), (1, vr Z 0 0), (2, vr Z 26 0), (3, vr Z 29 0), (4, vi (i : Int))] → W p l e room_1 s m args below meth c H locs (c0 + dC I K) (s0 + dS I K) Q (F0 m 1888 ls [])) : W p l e room_1 s m args below meth c H locs c0 s0 Q (F0 m 285 ls []) := by
  have hcK : cle J K := (R_M_load Z  J _ _ h2).1
  refine lv_aload_n b.1 b.2.1 dL_law_285 rfl (lv_at hl 1 rfl) ?_
  have R1 := R_PR_load Z  I _ _ h1
  have hc1 : cle I J := R1.1
  refine lx_callV (n := 0) (As := []) (rest := []) b hfl hl.1 hH R1 ⟨(lw_in 531 (by decide +kernel) (by decide +kernel)), (lw_in 529 (by decide +kernel) (by decide +kernel)), (lw_in 530 (by decide +kernel) (by decide +kernel)), (lw_in 138 (by decide +kernel) (by decide +kernel)), by decide +kernel⟩ (fun gr => ob_0) rfl rfl ⟨Nat.le_of_ble_eq_true rfl, Nat.le_of_ble_eq_true rfl⟩ (Nat.le_of_ble_eq_true rfl) ⟨show c0 + dC I J ≤ 600002 by have q1 := dC_add hc1 hcK; have q2 := dC_self K; omega, show s0 + dS I J ≤ 7302232 by have q1 := dC_add hc1 hcK; have q2 := dC_self K; omega⟩ (lw_in 528 (by decide +kernel) (by decide +kernel)) hlo dL_law_286 (fun H locs hH hlo => ?_)
  refine lv_aload_n b.1 b.2.1 dL_law_289 rfl (lv_at hl 2 rfl) ?_
  have R2 := R_M_load Z  J _ _ h2
  have hc2 : cle J K := R2.1
  refine lx_callV (n := 0) (As := []) (rest := [vi r1]) b hfl hl.1 hH R2 ⟨(lw_in 1782 (by decide +kernel) (by decide +kernel)), (lw_in 1780 (by decide +kernel) (by decide +kernel)), (lw_in 1781 (by decide +kernel) (by decide +kernel)), (lw_in 153 (by decide +kernel) (by decide +kernel)), by decide +kernel⟩ (fun gr => ob_26) rfl rfl ⟨Nat.le_of_ble_eq_true rfl, Nat.le_of_ble_eq_true rfl⟩ (Nat.le_of_ble_eq_true rfl) ⟨show c0 + dC I J + dC J K ≤ 600002 by have q1 := dC_add hc1 hc2; have q2 := dC_self K; omega, show s0 + dS I J + dS J K ≤ 7302232 by have q1 := dC_add hc1 hc2; have q2 := dC_self K; omega⟩ (lw_in 1779 (by decide +kernel) (by decide +kernel)) hlo dL_law_290 (fun H locs hH hlo => ?_)
  refine lx_eq (tgt := 1888) b h3 dL_law_293 (by decide) ?_
  refine W.widen (k := c0 + dC I K) (n := s0 + dS I K) (show c0 + dC I J + dC J K ≤ c0 + dC I K by have q1 := dC_add hc1 hc2; have q2 := dC_self K; omega) (show s0 + dS I J + dS J K ≤ s0 + dS I K by have q1 := dC_add hc1 hc2; have q2 := dC_self K; omega) ?_
  exact kk H locs ls hH hlo (lv_sub hl [0, 1, 2, 3, 4] rfl)
set_option maxRecDepth 20000 in
set_option maxHeartbeats 4000000 in
theorem LC_2 {p : Program} {l : Launch} {e : Env} {s : State} {m : MethodId} {args : Array Value} {below : List Frame} {meth : Method} {c : Code} {H : Heap} {locs : List Loc} {c0 s0 : Nat} {Q : State → Prop} {ls : Array Slot} {Z : ZT} {I : Mem} {b0 L i : Nat} {xs : Nat → Int32} (b : BB p s m args c RL cL_law 9 Z) (hfl : l.stackTraces = false) (hX : va_X b0 L xs s s.heap) (hbl : b0 < s.heap.size) (hZ : zB Z = s.heap.size ∧ zH Z = s.heap) (hi : i + 6 ≤ L) (hL : L < 100000) (hH : HH Z I H) (hlo : ∀ q ∈ locs, zN Z q.base) (hl : lv_has ls 9 [(0, .ref b0), (1, vr Z 0 0), (2, vr Z 26 0), (3, vr Z 29 0), (4, vi (i : Int))]) {r1 : Int} {r2 : Int} {J K : Mem} (h1 : f_PR_play  I = some (r1, J)) (h2 : f_M_play  J = some (r2, K)) (h3 : w32 r1 = w32 r2) (hmc : c0 + dC I K ≤ 600002) (hms : s0 + dS I K ≤ 7302232)
    (kk : ∀ (H : Heap) (locs : List Loc) (ls : Array Slot), HH Z K H → (∀ q ∈ locs, zN Z q.base) → lv_has ls 9 [(0, .ref b0), (1, vr Z 0 0), (2, vr Z 26 0), (3, vr Z 29 0), (4, vi (i : Int))] → W p l e room_1 s m args below meth c H locs (c0 + dC I K) (s0 + dS I K) Q (F0 m 1888 ls [])) : W p l e room_1 s m args below meth c H locs c0 s0 Q (F0 m 298 ls []) := by
  have hcK : cle J K := (R_M_play Z  J _ _ h2).1
  refine lv_aload_n b.1 b.2.1 dL_law_298 rfl (lv_at hl 1 rfl) ?_
  have R1 := R_PR_play Z  I _ _ h1
  have hc1 : cle I J := R1.1
  refine lx_callV (n := 0) (As := []) (rest := []) b hfl hl.1 hH R1 ⟨(lw_in 802 (by decide +kernel) (by decide +kernel)), (lw_in 800 (by decide +kernel) (by decide +kernel)), (lw_in 801 (by decide +kernel) (by decide +kernel)), (lw_in 138 (by decide +kernel) (by decide +kernel)), by decide +kernel⟩ (fun gr => ob_0) rfl rfl ⟨Nat.le_of_ble_eq_true rfl, Nat.le_of_ble_eq_true rfl⟩ (Nat.le_of_ble_eq_true rfl) ⟨show c0 + dC I J ≤ 600002 by have q1 := dC_add hc1 hcK; have q2 := dC_self K; omega, show s0 + dS I J ≤ 7302232 by have q1 := dC_add hc1 hcK; have q2 := dC_self K; omega⟩ (lw_in 799 (by decide +kernel) (by decide +kernel)) hlo dL_law_299 (fun H locs hH hlo => ?_)
  refine lv_aload_n b.1 b.2.1 dL_law_302 rfl (lv_at hl 2 rfl) ?_
  have R2 := R_M_play Z  J _ _ h2
  have hc2 : cle J K := R2.1
  refine lx_callV (n := 0) (As := []) (rest := [vi r1]) b hfl hl.1 hH R2 ⟨(lw_in 1899 (by decide +kernel) (by decide +kernel)), (lw_in 1897 (by decide +kernel) (by decide +kernel)), (lw_in 1898 (by decide +kernel) (by decide +kernel)), (lw_in 153 (by decide +kernel) (by decide +kernel)), by decide +kernel⟩ (fun gr => ob_26) rfl rfl ⟨Nat.le_of_ble_eq_true rfl, Nat.le_of_ble_eq_true rfl⟩ (Nat.le_of_ble_eq_true rfl) ⟨show c0 + dC I J + dC J K ≤ 600002 by have q1 := dC_add hc1 hc2; have q2 := dC_self K; omega, show s0 + dS I J + dS J K ≤ 7302232 by have q1 := dC_add hc1 hc2; have q2 := dC_self K; omega⟩ (lw_in 1896 (by decide +kernel) (by decide +kernel)) hlo dL_law_303 (fun H locs hH hlo => ?_)
  refine lx_eq (tgt := 1888) b h3 dL_law_306 (by decide) ?_
  refine W.widen (k := c0 + dC I K) (n := s0 + dS I K) (show c0 + dC I J + dC J K ≤ c0 + dC I K by have q1 := dC_add hc1 hc2; have q2 := dC_self K; omega) (show s0 + dS I J + dS J K ≤ s0 + dS I K by have q1 := dC_add hc1 hc2; have q2 := dC_self K; omega) ?_
  exact kk H locs ls hH hlo (lv_sub hl [0, 1, 2, 3, 4] rfl)
set_option maxRecDepth 20000 in
set_option maxHeartbeats 4000000 in
theorem LC_3 {p : Program} {l : Launch} {e : Env} {s : State} {m : MethodId} {args : Array Value} {below : List Frame} {meth : Method} {c : Code} {H : Heap} {locs : List Loc} {c0 s0 : Nat} {Q : State → Prop} {ls : Array Slot} {Z : ZT} {I : Mem} {b0 L i : Nat} {xs : Nat → Int32} (b : BB p s m args c RL cL_law 9 Z) (hfl : l.stackTraces = false) (hX : va_X b0 L xs s s.heap) (hbl : b0 < s.heap.size) (hZ : zB Z = s.heap.size ∧ zH Z = s.heap) (hi : i + 6 ≤ L) (hL : L < 100000) (hH : HH Z I H) (hlo : ∀ q ∈ locs, zN Z q.base) (hl : lv_has ls 9 [(0, .ref b0), (1, vr Z 0 0), (2, vr Z 26 0), (3, vr Z 29 0), (4, vi (i : Int))]) {r1 : Int} {r2 : Int} {J K : Mem} (h1 : f_PR_errorPosition  I = some (r1, J)) (h2 : f_M_errorPosition  J = some (r2, K)) (h3 : w32 r1 = w32 r2) (hmc : c0 + dC I K ≤ 600002) (hms : s0 + dS I K ≤ 7302232)
    (kk : ∀ (H : Heap) (locs : List Loc) (ls : Array Slot), HH Z K H → (∀ q ∈ locs, zN Z q.base) → lv_has ls 9 [(0, .ref b0), (1, vr Z 0 0), (2, vr Z 26 0), (3, vr Z 29 0), (4, vi (i : Int))] → W p l e room_1 s m args below meth c H locs (c0 + dC I K) (s0 + dS I K) Q (F0 m 1888 ls [])) : W p l e room_1 s m args below meth c H locs c0 s0 Q (F0 m 311 ls []) := by
  have hcK : cle J K := (R_M_errorPosition Z  J _ _ h2).1
  refine lv_aload_n b.1 b.2.1 dL_law_311 rfl (lv_at hl 1 rfl) ?_
  have R1 := R_PR_errorPosition Z  I _ _ h1
  have hc1 : cle I J := R1.1
  refine lx_callV (n := 0) (As := []) (rest := []) b hfl hl.1 hH R1 ⟨(lw_in 1102 (by decide +kernel) (by decide +kernel)), (lw_in 1100 (by decide +kernel) (by decide +kernel)), (lw_in 1101 (by decide +kernel) (by decide +kernel)), (lw_in 138 (by decide +kernel) (by decide +kernel)), by decide +kernel⟩ (fun gr => ob_0) rfl rfl ⟨Nat.le_of_ble_eq_true rfl, Nat.le_of_ble_eq_true rfl⟩ (Nat.le_of_ble_eq_true rfl) ⟨show c0 + dC I J ≤ 600002 by have q1 := dC_add hc1 hcK; have q2 := dC_self K; omega, show s0 + dS I J ≤ 7302232 by have q1 := dC_add hc1 hcK; have q2 := dC_self K; omega⟩ (lw_in 1099 (by decide +kernel) (by decide +kernel)) hlo dL_law_312 (fun H locs hH hlo => ?_)
  refine lv_aload_n b.1 b.2.1 dL_law_315 rfl (lv_at hl 2 rfl) ?_
  have R2 := R_M_errorPosition Z  J _ _ h2
  have hc2 : cle J K := R2.1
  refine lx_callV (n := 0) (As := []) (rest := [vi r1]) b hfl hl.1 hH R2 ⟨(lw_in 1895 (by decide +kernel) (by decide +kernel)), (lw_in 1893 (by decide +kernel) (by decide +kernel)), (lw_in 1894 (by decide +kernel) (by decide +kernel)), (lw_in 153 (by decide +kernel) (by decide +kernel)), by decide +kernel⟩ (fun gr => ob_26) rfl rfl ⟨Nat.le_of_ble_eq_true rfl, Nat.le_of_ble_eq_true rfl⟩ (Nat.le_of_ble_eq_true rfl) ⟨show c0 + dC I J + dC J K ≤ 600002 by have q1 := dC_add hc1 hc2; have q2 := dC_self K; omega, show s0 + dS I J + dS J K ≤ 7302232 by have q1 := dC_add hc1 hc2; have q2 := dC_self K; omega⟩ (lw_in 1892 (by decide +kernel) (by decide +kernel)) hlo dL_law_316 (fun H locs hH hlo => ?_)
  refine lx_eq (tgt := 1888) b h3 dL_law_319 (by decide) ?_
  refine W.widen (k := c0 + dC I K) (n := s0 + dS I K) (show c0 + dC I J + dC J K ≤ c0 + dC I K by have q1 := dC_add hc1 hc2; have q2 := dC_self K; omega) (show s0 + dS I J + dS J K ≤ s0 + dS I K by have q1 := dC_add hc1 hc2; have q2 := dC_self K; omega) ?_
  exact kk H locs ls hH hlo (lv_sub hl [0, 1, 2, 3, 4] rfl)
set_option maxRecDepth 20000 in
set_option maxHeartbeats 4000000 in
theorem LC_4 {p : Program} {l : Launch} {e : Env} {s : State} {m : MethodId} {args : Array Value} {below : List Frame} {meth : Method} {c : Code} {H : Heap} {locs : List Loc} {c0 s0 : Nat} {Q : State → Prop} {ls : Array Slot} {Z : ZT} {I : Mem} {b0 L i : Nat} {xs : Nat → Int32} (b : BB p s m args c RL cL_law 9 Z) (hfl : l.stackTraces = false) (hX : va_X b0 L xs s s.heap) (hbl : b0 < s.heap.size) (hZ : zB Z = s.heap.size ∧ zH Z = s.heap) (hi : i + 6 ≤ L) (hL : L < 100000) (hH : HH Z I H) (hlo : ∀ q ∈ locs, zN Z q.base) (hl : lv_has ls 9 [(0, .ref b0), (1, vr Z 0 0), (2, vr Z 26 0), (3, vr Z 29 0), (4, vi (i : Int))]) {r1 : Int} {r2 : Int} {J K : Mem} (h1 : f_L_size ((xs (i + 1)).toInt) I = some (r1, J)) (h2 : f_M_size ((xs (i + 1)).toInt) J = some (r2, K)) (h3 : w32 (K 26 0 7) = w32 r1) (h4 : w32 r1 = 0 → w64 (K 29 0 0) = w64 (w32 r2)) (hmc : c0 + dC I K ≤ 600002) (hms : s0 + dS I K ≤ 7302232)
    (kk : ∀ (H : Heap) (locs : List Loc) (ls : Array Slot), HH Z K H → (∀ q ∈ locs, zN Z q.base) → lv_has ls 9 [(0, .ref b0), (1, vr Z 0 0), (2, vr Z 26 0), (3, vr Z 29 0), (4, vi (i : Int))] → W p l e room_1 s m args below meth c H locs (c0 + dC I K) (s0 + dS I K) Q (F0 m 1888 ls [])) : W p l e room_1 s m args below meth c H locs c0 s0 Q (F0 m 324 ls []) := by
  have hcK : cle J K := (R_M_size Z ((xs (i + 1)).toInt) J _ _ h2).1
  refine lv_aload_n b.1 b.2.1 dL_law_324 rfl (lv_at hl 1 rfl) ?_
  refine lv_aload_n b.1 b.2.1 dL_law_325 rfl (lv_at hl 0 rfl) ?_
  refine lv_iload b.1 b.2.1 dL_law_326 (lv_at hl 4 rfl) ?_
  refine lv_iconst (v := Int32.ofInt 1) b.1 b.2.1 dL_law_328 rfl ?_
  refine lx_iadd b dL_law_329 ?_
  refine lx_sld (q := i + 1) b hX hbl hZ hH hlo (w32_of (by omega) (by omega)) (by omega) dL_law_330 ?_
  refine lv_aload_n b.1 b.2.1 dL_law_331 rfl (lv_at hl 3 rfl) ?_
  have R1 := R_L_size Z ((xs (i + 1)).toInt) I _ _ h1
  have hc1 : cle I J := R1.1
  refine lx_callS (n := 3) (As := [vr Z 0 0, vi (xs (i + 1)).toInt, vr Z 29 0]) (rest := []) b hfl hl.1 hH R1 (lw_in 1233 (by decide +kernel) (by decide +kernel)) (lw_in 1232 (by decide +kernel) (by decide +kernel)) (lw_in 137 (by decide +kernel) (by decide +kernel)) (by decide +kernel) rfl rfl ⟨Nat.le_of_ble_eq_true rfl, Nat.le_of_ble_eq_true rfl⟩ (Nat.le_of_ble_eq_true rfl) ⟨show c0 + dC I J ≤ 600002 by have q1 := dC_add hc1 hcK; have q2 := dC_self K; omega, show s0 + dS I J ≤ 7302232 by have q1 := dC_add hc1 hcK; have q2 := dC_self K; omega⟩ (lw_in 1231 (by decide +kernel) (by decide +kernel)) hlo dL_law_332 (fun H locs hH hlo => ?_)
  refine lv_istore (lv' := [(5, vi r1), (0, .ref b0), (1, vr Z 0 0), (2, vr Z 26 0), (3, vr Z 29 0), (4, vi (i : Int))]) b.1 b.2.1 dL_law_335 hl (by decide) rfl (fun ls hl => ?_)
  refine lv_aload_n b.1 b.2.1 dL_law_337 rfl (lv_at hl 3 rfl) ?_
  refine lv_aload_n b.1 b.2.1 dL_law_338 rfl (lv_at hl 1 rfl) ?_
  refine lv_iload b.1 b.2.1 dL_law_339 (lv_at hl 5 rfl) ?_
  refine lv_iconst (v := Int32.ofInt 1) b.1 b.2.1 dL_law_341 rfl ?_
  refine lx_iadd b dL_law_342 ?_
  refine lx_sld (q := i + 1) b hX hbl hZ hH hlo (w32_of (by omega) (by omega)) (by omega) dL_law_343 ?_
  have R2 := R_M_size Z ((xs (i + 1)).toInt) J _ _ h2
  have hc2 : cle J K := R2.1
  refine lx_callV (n := 1) (As := [vi (xs (i + 1)).toInt]) (rest := []) b hfl hl.1 hH R2 ⟨(lw_in 2056 (by decide +kernel) (by decide +kernel)), (lw_in 2054 (by decide +kernel) (by decide +kernel)), (lw_in 2055 (by decide +kernel) (by decide +kernel)), (lw_in 153 (by decide +kernel) (by decide +kernel)), by decide +kernel⟩ (fun gr => ob_26) rfl rfl ⟨Nat.le_of_ble_eq_true rfl, Nat.le_of_ble_eq_true rfl⟩ (Nat.le_of_ble_eq_true rfl) ⟨show c0 + dC I J + dC J K ≤ 600002 by have q1 := dC_add hc1 hc2; have q2 := dC_self K; omega, show s0 + dS I J + dS J K ≤ 7302232 by have q1 := dC_add hc1 hc2; have q2 := dC_self K; omega⟩ (lw_in 2053 (by decide +kernel) (by decide +kernel)) hlo dL_law_344 (fun H locs hH hlo => ?_)
  refine lv_istore (lv' := [(6, vi r2), (5, vi r1), (0, .ref b0), (1, vr Z 0 0), (2, vr Z 26 0), (3, vr Z 29 0), (4, vi (i : Int))]) b.1 b.2.1 dL_law_347 hl (by decide) rfl (fun ls hl => ?_)
  refine lv_aload_n b.1 b.2.1 dL_law_349 rfl (lv_at hl 4 rfl) ?_
  have R3 := R_M_thrown Z K _ _ (rfl : f_M_thrown K = some (K 26 0 7, K))
  refine lx_callV (n := 0) (As := []) (rest := []) b hfl hl.1 hH R3 ⟨(lw_in 1767 (by decide +kernel) (by decide +kernel)), (lw_in 1765 (by decide +kernel) (by decide +kernel)), (lw_in 1766 (by decide +kernel) (by decide +kernel)), (lw_in 153 (by decide +kernel) (by decide +kernel)), by decide +kernel⟩ (fun gr => ob_26) rfl rfl ⟨Nat.le_of_ble_eq_true rfl, Nat.le_of_ble_eq_true rfl⟩ (Nat.le_of_ble_eq_true rfl) ⟨show c0 + dC I J + dC J K + dC K K ≤ 600002 by have q1 := dC_add hc1 hc2; have q2 := dC_self K; omega, show s0 + dS I J + dS J K + dS K K ≤ 7302232 by have q1 := dC_add hc1 hc2; have q2 := dC_self K; omega⟩ (lw_in 1764 (by decide +kernel) (by decide +kernel)) hlo dL_law_350 (fun H locs hH hlo => ?_)
  refine lv_iload b.1 b.2.1 dL_law_353 (lv_at hl 1 rfl) ?_
  refine lx_eq (tgt := 360) b h3 dL_law_355 (by decide) ?_
  refine lv_iload b.1 b.2.1 dL_law_360 (lv_at hl 1 rfl) ?_
  refine lx_ifne (tgt := 377) b dL_law_362 (by decide) (fun z1 => ?_) (fun z1 => ?_)
  · skip
    refine lv_goto (tgt := 1888) b.1 b.2.1 dL_law_377 (by decide) ?_
    refine W.widen (k := c0 + dC I K) (n := s0 + dS I K) (show c0 + dC I J + dC J K + dC K K ≤ c0 + dC I K by have q1 := dC_add hc1 hc2; have q2 := dC_self K; omega) (show s0 + dS I J + dS J K + dS K K ≤ s0 + dS I K by have q1 := dC_add hc1 hc2; have q2 := dC_self K; omega) ?_
    exact kk H locs ls hH hlo (lv_sub hl [2, 3, 4, 5, 6] rfl)
  · skip
    refine lv_aload_n b.1 b.2.1 dL_law_365 rfl (lv_at hl 5 rfl) ?_
    refine lv_iconst (v := Int32.ofInt 0) b.1 b.2.1 dL_law_366 rfl ?_
    refine lx_lald b hH dL_law_367 ?_
    refine lv_iload b.1 b.2.1 dL_law_368 (lv_at hl 0 rfl) ?_
    refine lx_i2l b dL_law_370 ?_
    refine lx_lcmp b (h4 z1) dL_law_371 ?_
    refine lx_ifeq (x := 0) (tgt := 377) b dL_law_372 (by decide) (fun _ => ?_) (fun z => absurd (by decide) z)
    refine lv_goto (tgt := 1888) b.1 b.2.1 dL_law_377 (by decide) ?_
    refine W.widen (k := c0 + dC I K) (n := s0 + dS I K) (show c0 + dC I J + dC J K + dC K K ≤ c0 + dC I K by have q1 := dC_add hc1 hc2; have q2 := dC_self K; omega) (show s0 + dS I J + dS J K + dS K K ≤ s0 + dS I K by have q1 := dC_add hc1 hc2; have q2 := dC_self K; omega) ?_
    exact kk H locs ls hH hlo (lv_sub hl [2, 3, 4, 5, 6] rfl)
set_option maxRecDepth 20000 in
set_option maxHeartbeats 4000000 in
theorem LC_5 {p : Program} {l : Launch} {e : Env} {s : State} {m : MethodId} {args : Array Value} {below : List Frame} {meth : Method} {c : Code} {H : Heap} {locs : List Loc} {c0 s0 : Nat} {Q : State → Prop} {ls : Array Slot} {Z : ZT} {I : Mem} {b0 L i : Nat} {xs : Nat → Int32} (b : BB p s m args c RL cL_law 9 Z) (hfl : l.stackTraces = false) (hX : va_X b0 L xs s s.heap) (hbl : b0 < s.heap.size) (hZ : zB Z = s.heap.size ∧ zH Z = s.heap) (hi : i + 6 ≤ L) (hL : L < 100000) (hH : HH Z I H) (hlo : ∀ q ∈ locs, zN Z q.base) (hl : lv_has ls 9 [(0, .ref b0), (1, vr Z 0 0), (2, vr Z 26 0), (3, vr Z 29 0), (4, vi (i : Int))]) {r1 : Int} {r2 : Int} {J K : Mem} (h1 : f_L_isRule ((xs (i + 1)).toInt) I = some (r1, J)) (h2 : f_M_isRule ((xs (i + 1)).toInt) J = some (r2, K)) (h3 : w32 (K 26 0 7) = w32 r1) (h4 : w32 r1 = 0 → w64 (K 29 0 0) = w64 (if w32 r2 = 0 then 0 else 1)) (hmc : c0 + dC I K ≤ 600002) (hms : s0 + dS I K ≤ 7302232)
    (kk : ∀ (H : Heap) (locs : List Loc) (ls : Array Slot), HH Z K H → (∀ q ∈ locs, zN Z q.base) → lv_has ls 9 [(0, .ref b0), (1, vr Z 0 0), (2, vr Z 26 0), (3, vr Z 29 0), (4, vi (i : Int))] → W p l e room_1 s m args below meth c H locs (c0 + dC I K) (s0 + dS I K) Q (F0 m 1888 ls [])) : W p l e room_1 s m args below meth c H locs c0 s0 Q (F0 m 380 ls []) := by
  have hcK : cle J K := (R_M_isRule Z ((xs (i + 1)).toInt) J _ _ h2).1
  refine lv_aload_n b.1 b.2.1 dL_law_380 rfl (lv_at hl 1 rfl) ?_
  refine lv_aload_n b.1 b.2.1 dL_law_381 rfl (lv_at hl 0 rfl) ?_
  refine lv_iload b.1 b.2.1 dL_law_382 (lv_at hl 4 rfl) ?_
  refine lv_iconst (v := Int32.ofInt 1) b.1 b.2.1 dL_law_384 rfl ?_
  refine lx_iadd b dL_law_385 ?_
  refine lx_sld (q := i + 1) b hX hbl hZ hH hlo (w32_of (by omega) (by omega)) (by omega) dL_law_386 ?_
  refine lv_aload_n b.1 b.2.1 dL_law_387 rfl (lv_at hl 3 rfl) ?_
  have R1 := R_L_isRule Z ((xs (i + 1)).toInt) I _ _ h1
  have hc1 : cle I J := R1.1
  refine lx_callS (n := 3) (As := [vr Z 0 0, vi (xs (i + 1)).toInt, vr Z 29 0]) (rest := []) b hfl hl.1 hH R1 (lw_in 1349 (by decide +kernel) (by decide +kernel)) (lw_in 1348 (by decide +kernel) (by decide +kernel)) (lw_in 137 (by decide +kernel) (by decide +kernel)) (by decide +kernel) rfl rfl ⟨Nat.le_of_ble_eq_true rfl, Nat.le_of_ble_eq_true rfl⟩ (Nat.le_of_ble_eq_true rfl) ⟨show c0 + dC I J ≤ 600002 by have q1 := dC_add hc1 hcK; have q2 := dC_self K; omega, show s0 + dS I J ≤ 7302232 by have q1 := dC_add hc1 hcK; have q2 := dC_self K; omega⟩ (lw_in 1347 (by decide +kernel) (by decide +kernel)) hlo dL_law_388 (fun H locs hH hlo => ?_)
  refine lv_istore (lv' := [(5, vi r1), (0, .ref b0), (1, vr Z 0 0), (2, vr Z 26 0), (3, vr Z 29 0), (4, vi (i : Int))]) b.1 b.2.1 dL_law_391 hl (by decide) rfl (fun ls hl => ?_)
  refine lv_aload_n b.1 b.2.1 dL_law_393 rfl (lv_at hl 3 rfl) ?_
  refine lv_aload_n b.1 b.2.1 dL_law_394 rfl (lv_at hl 1 rfl) ?_
  refine lv_iload b.1 b.2.1 dL_law_395 (lv_at hl 5 rfl) ?_
  refine lv_iconst (v := Int32.ofInt 1) b.1 b.2.1 dL_law_397 rfl ?_
  refine lx_iadd b dL_law_398 ?_
  refine lx_sld (q := i + 1) b hX hbl hZ hH hlo (w32_of (by omega) (by omega)) (by omega) dL_law_399 ?_
  have R2 := R_M_isRule Z ((xs (i + 1)).toInt) J _ _ h2
  have hc2 : cle J K := R2.1
  refine lx_callV (n := 1) (As := [vi (xs (i + 1)).toInt]) (rest := []) b hfl hl.1 hH R2 ⟨(lw_in 2092 (by decide +kernel) (by decide +kernel)), (lw_in 2090 (by decide +kernel) (by decide +kernel)), (lw_in 2091 (by decide +kernel) (by decide +kernel)), (lw_in 153 (by decide +kernel) (by decide +kernel)), by decide +kernel⟩ (fun gr => ob_26) rfl rfl ⟨Nat.le_of_ble_eq_true rfl, Nat.le_of_ble_eq_true rfl⟩ (Nat.le_of_ble_eq_true rfl) ⟨show c0 + dC I J + dC J K ≤ 600002 by have q1 := dC_add hc1 hc2; have q2 := dC_self K; omega, show s0 + dS I J + dS J K ≤ 7302232 by have q1 := dC_add hc1 hc2; have q2 := dC_self K; omega⟩ (lw_in 2089 (by decide +kernel) (by decide +kernel)) hlo dL_law_400 (fun H locs hH hlo => ?_)
  refine lv_istore (lv' := [(6, vi r2), (5, vi r1), (0, .ref b0), (1, vr Z 0 0), (2, vr Z 26 0), (3, vr Z 29 0), (4, vi (i : Int))]) b.1 b.2.1 dL_law_403 hl (by decide) rfl (fun ls hl => ?_)
  refine lv_aload_n b.1 b.2.1 dL_law_405 rfl (lv_at hl 4 rfl) ?_
  have R3 := R_M_thrown Z K _ _ (rfl : f_M_thrown K = some (K 26 0 7, K))
  refine lx_callV (n := 0) (As := []) (rest := []) b hfl hl.1 hH R3 ⟨(lw_in 1767 (by decide +kernel) (by decide +kernel)), (lw_in 1765 (by decide +kernel) (by decide +kernel)), (lw_in 1766 (by decide +kernel) (by decide +kernel)), (lw_in 153 (by decide +kernel) (by decide +kernel)), by decide +kernel⟩ (fun gr => ob_26) rfl rfl ⟨Nat.le_of_ble_eq_true rfl, Nat.le_of_ble_eq_true rfl⟩ (Nat.le_of_ble_eq_true rfl) ⟨show c0 + dC I J + dC J K + dC K K ≤ 600002 by have q1 := dC_add hc1 hc2; have q2 := dC_self K; omega, show s0 + dS I J + dS J K + dS K K ≤ 7302232 by have q1 := dC_add hc1 hc2; have q2 := dC_self K; omega⟩ (lw_in 1764 (by decide +kernel) (by decide +kernel)) hlo dL_law_406 (fun H locs hH hlo => ?_)
  refine lv_iload b.1 b.2.1 dL_law_409 (lv_at hl 1 rfl) ?_
  refine lx_eq (tgt := 416) b h3 dL_law_411 (by decide) ?_
  refine lv_iload b.1 b.2.1 dL_law_416 (lv_at hl 1 rfl) ?_
  refine lx_ifne (tgt := 440) b dL_law_418 (by decide) (fun z1 => ?_) (fun z1 => ?_)
  · skip
    refine lv_goto (tgt := 1888) b.1 b.2.1 dL_law_440 (by decide) ?_
    refine W.widen (k := c0 + dC I K) (n := s0 + dS I K) (show c0 + dC I J + dC J K + dC K K ≤ c0 + dC I K by have q1 := dC_add hc1 hc2; have q2 := dC_self K; omega) (show s0 + dS I J + dS J K + dS K K ≤ s0 + dS I K by have q1 := dC_add hc1 hc2; have q2 := dC_self K; omega) ?_
    exact kk H locs ls hH hlo (lv_sub hl [2, 3, 4, 5, 6] rfl)
  · skip
    refine lv_aload_n b.1 b.2.1 dL_law_421 rfl (lv_at hl 5 rfl) ?_
    refine lv_iconst (v := Int32.ofInt 0) b.1 b.2.1 dL_law_422 rfl ?_
    refine lx_lald b hH dL_law_423 ?_
    refine lv_iload b.1 b.2.1 dL_law_424 (lv_at hl 0 rfl) ?_
    refine lx_ifeq (tgt := 433) b dL_law_426 (by decide) (fun z2 => ?_) (fun z2 => ?_)
    · have h4 := fun z => (h4 z).trans (congrArg w64 (if_pos z2))
      refine lv_lconst (v := Int64.ofInt 0) b.1 b.2.1 dL_law_433 rfl ?_
      refine lx_lcmp b (h4 z1) dL_law_434 ?_
      refine lx_ifeq (x := 0) (tgt := 440) b dL_law_435 (by decide) (fun _ => ?_) (fun z => absurd (by decide) z)
      refine lv_goto (tgt := 1888) b.1 b.2.1 dL_law_440 (by decide) ?_
      refine W.widen (k := c0 + dC I K) (n := s0 + dS I K) (show c0 + dC I J + dC J K + dC K K ≤ c0 + dC I K by have q1 := dC_add hc1 hc2; have q2 := dC_self K; omega) (show s0 + dS I J + dS J K + dS K K ≤ s0 + dS I K by have q1 := dC_add hc1 hc2; have q2 := dC_self K; omega) ?_
      exact kk H locs ls hH hlo (lv_sub hl [2, 3, 4, 5, 6] rfl)
    · have h4 := fun z => (h4 z).trans (congrArg w64 (if_neg z2))
      refine lv_lconst (v := Int64.ofInt 1) b.1 b.2.1 dL_law_429 rfl ?_
      refine lv_goto (tgt := 434) b.1 b.2.1 dL_law_430 (by decide) ?_
      refine lx_lcmp b (h4 z1) dL_law_434 ?_
      refine lx_ifeq (x := 0) (tgt := 440) b dL_law_435 (by decide) (fun _ => ?_) (fun z => absurd (by decide) z)
      refine lv_goto (tgt := 1888) b.1 b.2.1 dL_law_440 (by decide) ?_
      refine W.widen (k := c0 + dC I K) (n := s0 + dS I K) (show c0 + dC I J + dC J K + dC K K ≤ c0 + dC I K by have q1 := dC_add hc1 hc2; have q2 := dC_self K; omega) (show s0 + dS I J + dS J K + dS K K ≤ s0 + dS I K by have q1 := dC_add hc1 hc2; have q2 := dC_self K; omega) ?_
      exact kk H locs ls hH hlo (lv_sub hl [2, 3, 4, 5, 6] rfl)
set_option maxRecDepth 20000 in
set_option maxHeartbeats 4000000 in
theorem LC_6 {p : Program} {l : Launch} {e : Env} {s : State} {m : MethodId} {args : Array Value} {below : List Frame} {meth : Method} {c : Code} {H : Heap} {locs : List Loc} {c0 s0 : Nat} {Q : State → Prop} {ls : Array Slot} {Z : ZT} {I : Mem} {b0 L i : Nat} {xs : Nat → Int32} (b : BB p s m args c RL cL_law 9 Z) (hfl : l.stackTraces = false) (hX : va_X b0 L xs s s.heap) (hbl : b0 < s.heap.size) (hZ : zB Z = s.heap.size ∧ zH Z = s.heap) (hi : i + 6 ≤ L) (hL : L < 100000) (hH : HH Z I H) (hlo : ∀ q ∈ locs, zN Z q.base) (hl : lv_has ls 9 [(0, .ref b0), (1, vr Z 0 0), (2, vr Z 26 0), (3, vr Z 29 0), (4, vi (i : Int))]) {r1 : Int} {r2 : Int} {J K : Mem} (h1 : f_L_rule ((xs (i + 1)).toInt) ((xs (i + 2)).toInt) I = some (r1, J)) (h2 : f_M_rule ((xs (i + 1)).toInt) ((xs (i + 2)).toInt) J = some (r2, K)) (h3 : w32 (K 26 0 7) = w32 r1) (h4 : w32 r1 = 0 → w64 (K 29 0 0) = w64 (w32 r2)) (hmc : c0 + dC I K ≤ 600002) (hms : s0 + dS I K ≤ 7302232)
    (kk : ∀ (H : Heap) (locs : List Loc) (ls : Array Slot), HH Z K H → (∀ q ∈ locs, zN Z q.base) → lv_has ls 9 [(0, .ref b0), (1, vr Z 0 0), (2, vr Z 26 0), (3, vr Z 29 0), (4, vi (i : Int))] → W p l e room_1 s m args below meth c H locs (c0 + dC I K) (s0 + dS I K) Q (F0 m 1888 ls [])) : W p l e room_1 s m args below meth c H locs c0 s0 Q (F0 m 443 ls []) := by
  have hcK : cle J K := (R_M_rule Z ((xs (i + 1)).toInt) ((xs (i + 2)).toInt) J _ _ h2).1
  refine lv_aload_n b.1 b.2.1 dL_law_443 rfl (lv_at hl 1 rfl) ?_
  refine lv_aload_n b.1 b.2.1 dL_law_444 rfl (lv_at hl 0 rfl) ?_
  refine lv_iload b.1 b.2.1 dL_law_445 (lv_at hl 4 rfl) ?_
  refine lv_iconst (v := Int32.ofInt 1) b.1 b.2.1 dL_law_447 rfl ?_
  refine lx_iadd b dL_law_448 ?_
  refine lx_sld (q := i + 1) b hX hbl hZ hH hlo (w32_of (by omega) (by omega)) (by omega) dL_law_449 ?_
  refine lv_aload_n b.1 b.2.1 dL_law_450 rfl (lv_at hl 0 rfl) ?_
  refine lv_iload b.1 b.2.1 dL_law_451 (lv_at hl 4 rfl) ?_
  refine lv_iconst (v := Int32.ofInt 2) b.1 b.2.1 dL_law_453 rfl ?_
  refine lx_iadd b dL_law_454 ?_
  refine lx_sld (q := i + 2) b hX hbl hZ hH hlo (w32_of (by omega) (by omega)) (by omega) dL_law_455 ?_
  refine lv_aload_n b.1 b.2.1 dL_law_456 rfl (lv_at hl 3 rfl) ?_
  have R1 := R_L_rule Z ((xs (i + 1)).toInt) ((xs (i + 2)).toInt) I _ _ h1
  have hc1 : cle I J := R1.1
  refine lx_callS (n := 4) (As := [vr Z 0 0, vi (xs (i + 1)).toInt, vi (xs (i + 2)).toInt, vr Z 29 0]) (rest := []) b hfl hl.1 hH R1 (lw_in 1372 (by decide +kernel) (by decide +kernel)) (lw_in 1371 (by decide +kernel) (by decide +kernel)) (lw_in 137 (by decide +kernel) (by decide +kernel)) (by decide +kernel) rfl rfl ⟨Nat.le_of_ble_eq_true rfl, Nat.le_of_ble_eq_true rfl⟩ (Nat.le_of_ble_eq_true rfl) ⟨show c0 + dC I J ≤ 600002 by have q1 := dC_add hc1 hcK; have q2 := dC_self K; omega, show s0 + dS I J ≤ 7302232 by have q1 := dC_add hc1 hcK; have q2 := dC_self K; omega⟩ (lw_in 1370 (by decide +kernel) (by decide +kernel)) hlo dL_law_457 (fun H locs hH hlo => ?_)
  refine lv_istore (lv' := [(5, vi r1), (0, .ref b0), (1, vr Z 0 0), (2, vr Z 26 0), (3, vr Z 29 0), (4, vi (i : Int))]) b.1 b.2.1 dL_law_460 hl (by decide) rfl (fun ls hl => ?_)
  refine lv_aload_n b.1 b.2.1 dL_law_462 rfl (lv_at hl 3 rfl) ?_
  refine lv_aload_n b.1 b.2.1 dL_law_463 rfl (lv_at hl 1 rfl) ?_
  refine lv_iload b.1 b.2.1 dL_law_464 (lv_at hl 5 rfl) ?_
  refine lv_iconst (v := Int32.ofInt 1) b.1 b.2.1 dL_law_466 rfl ?_
  refine lx_iadd b dL_law_467 ?_
  refine lx_sld (q := i + 1) b hX hbl hZ hH hlo (w32_of (by omega) (by omega)) (by omega) dL_law_468 ?_
  refine lv_aload_n b.1 b.2.1 dL_law_469 rfl (lv_at hl 1 rfl) ?_
  refine lv_iload b.1 b.2.1 dL_law_470 (lv_at hl 5 rfl) ?_
  refine lv_iconst (v := Int32.ofInt 2) b.1 b.2.1 dL_law_472 rfl ?_
  refine lx_iadd b dL_law_473 ?_
  refine lx_sld (q := i + 2) b hX hbl hZ hH hlo (w32_of (by omega) (by omega)) (by omega) dL_law_474 ?_
  have R2 := R_M_rule Z ((xs (i + 1)).toInt) ((xs (i + 2)).toInt) J _ _ h2
  have hc2 : cle J K := R2.1
  refine lx_callV (n := 2) (As := [vi (xs (i + 1)).toInt, vi (xs (i + 2)).toInt]) (rest := []) b hfl hl.1 hH R2 ⟨(lw_in 2100 (by decide +kernel) (by decide +kernel)), (lw_in 2098 (by decide +kernel) (by decide +kernel)), (lw_in 2099 (by decide +kernel) (by decide +kernel)), (lw_in 153 (by decide +kernel) (by decide +kernel)), by decide +kernel⟩ (fun gr => ob_26) rfl rfl ⟨Nat.le_of_ble_eq_true rfl, Nat.le_of_ble_eq_true rfl⟩ (Nat.le_of_ble_eq_true rfl) ⟨show c0 + dC I J + dC J K ≤ 600002 by have q1 := dC_add hc1 hc2; have q2 := dC_self K; omega, show s0 + dS I J + dS J K ≤ 7302232 by have q1 := dC_add hc1 hc2; have q2 := dC_self K; omega⟩ (lw_in 2097 (by decide +kernel) (by decide +kernel)) hlo dL_law_475 (fun H locs hH hlo => ?_)
  refine lv_istore (lv' := [(6, vi r2), (5, vi r1), (0, .ref b0), (1, vr Z 0 0), (2, vr Z 26 0), (3, vr Z 29 0), (4, vi (i : Int))]) b.1 b.2.1 dL_law_478 hl (by decide) rfl (fun ls hl => ?_)
  refine lv_aload_n b.1 b.2.1 dL_law_480 rfl (lv_at hl 4 rfl) ?_
  have R3 := R_M_thrown Z K _ _ (rfl : f_M_thrown K = some (K 26 0 7, K))
  refine lx_callV (n := 0) (As := []) (rest := []) b hfl hl.1 hH R3 ⟨(lw_in 1767 (by decide +kernel) (by decide +kernel)), (lw_in 1765 (by decide +kernel) (by decide +kernel)), (lw_in 1766 (by decide +kernel) (by decide +kernel)), (lw_in 153 (by decide +kernel) (by decide +kernel)), by decide +kernel⟩ (fun gr => ob_26) rfl rfl ⟨Nat.le_of_ble_eq_true rfl, Nat.le_of_ble_eq_true rfl⟩ (Nat.le_of_ble_eq_true rfl) ⟨show c0 + dC I J + dC J K + dC K K ≤ 600002 by have q1 := dC_add hc1 hc2; have q2 := dC_self K; omega, show s0 + dS I J + dS J K + dS K K ≤ 7302232 by have q1 := dC_add hc1 hc2; have q2 := dC_self K; omega⟩ (lw_in 1764 (by decide +kernel) (by decide +kernel)) hlo dL_law_481 (fun H locs hH hlo => ?_)
  refine lv_iload b.1 b.2.1 dL_law_484 (lv_at hl 1 rfl) ?_
  refine lx_eq (tgt := 491) b h3 dL_law_486 (by decide) ?_
  refine lv_iload b.1 b.2.1 dL_law_491 (lv_at hl 1 rfl) ?_
  refine lx_ifne (tgt := 508) b dL_law_493 (by decide) (fun z1 => ?_) (fun z1 => ?_)
  · skip
    refine lv_goto (tgt := 1888) b.1 b.2.1 dL_law_508 (by decide) ?_
    refine W.widen (k := c0 + dC I K) (n := s0 + dS I K) (show c0 + dC I J + dC J K + dC K K ≤ c0 + dC I K by have q1 := dC_add hc1 hc2; have q2 := dC_self K; omega) (show s0 + dS I J + dS J K + dS K K ≤ s0 + dS I K by have q1 := dC_add hc1 hc2; have q2 := dC_self K; omega) ?_
    exact kk H locs ls hH hlo (lv_sub hl [2, 3, 4, 5, 6] rfl)
  · skip
    refine lv_aload_n b.1 b.2.1 dL_law_496 rfl (lv_at hl 5 rfl) ?_
    refine lv_iconst (v := Int32.ofInt 0) b.1 b.2.1 dL_law_497 rfl ?_
    refine lx_lald b hH dL_law_498 ?_
    refine lv_iload b.1 b.2.1 dL_law_499 (lv_at hl 0 rfl) ?_
    refine lx_i2l b dL_law_501 ?_
    refine lx_lcmp b (h4 z1) dL_law_502 ?_
    refine lx_ifeq (x := 0) (tgt := 508) b dL_law_503 (by decide) (fun _ => ?_) (fun z => absurd (by decide) z)
    refine lv_goto (tgt := 1888) b.1 b.2.1 dL_law_508 (by decide) ?_
    refine W.widen (k := c0 + dC I K) (n := s0 + dS I K) (show c0 + dC I J + dC J K + dC K K ≤ c0 + dC I K by have q1 := dC_add hc1 hc2; have q2 := dC_self K; omega) (show s0 + dS I J + dS J K + dS K K ≤ s0 + dS I K by have q1 := dC_add hc1 hc2; have q2 := dC_self K; omega) ?_
    exact kk H locs ls hH hlo (lv_sub hl [2, 3, 4, 5, 6] rfl)
set_option maxRecDepth 20000 in
set_option maxHeartbeats 4000000 in
theorem LC_7 {p : Program} {l : Launch} {e : Env} {s : State} {m : MethodId} {args : Array Value} {below : List Frame} {meth : Method} {c : Code} {H : Heap} {locs : List Loc} {c0 s0 : Nat} {Q : State → Prop} {ls : Array Slot} {Z : ZT} {I : Mem} {b0 L i : Nat} {xs : Nat → Int32} (b : BB p s m args c RL cL_law 9 Z) (hfl : l.stackTraces = false) (hX : va_X b0 L xs s s.heap) (hbl : b0 < s.heap.size) (hZ : zB Z = s.heap.size ∧ zH Z = s.heap) (hi : i + 6 ≤ L) (hL : L < 100000) (hH : HH Z I H) (hlo : ∀ q ∈ locs, zN Z q.base) (hl : lv_has ls 9 [(0, .ref b0), (1, vr Z 0 0), (2, vr Z 26 0), (3, vr Z 29 0), (4, vi (i : Int))]) {r1 : Int} {r2 : Int} {J K : Mem} (h1 : f_L_bodyAt ((xs (i + 1)).toInt) ((xs (i + 2)).toInt) I = some (r1, J)) (h2 : f_M_bodyAt ((xs (i + 1)).toInt) ((xs (i + 2)).toInt) J = some (r2, K)) (h3 : w32 (K 26 0 7) = w32 r1) (h4 : w32 r1 = 0 → w64 (K 29 0 0) = w64 (w32 r2)) (hmc : c0 + dC I K ≤ 600002) (hms : s0 + dS I K ≤ 7302232)
    (kk : ∀ (H : Heap) (locs : List Loc) (ls : Array Slot), HH Z K H → (∀ q ∈ locs, zN Z q.base) → lv_has ls 9 [(0, .ref b0), (1, vr Z 0 0), (2, vr Z 26 0), (3, vr Z 29 0), (4, vi (i : Int))] → W p l e room_1 s m args below meth c H locs (c0 + dC I K) (s0 + dS I K) Q (F0 m 1888 ls [])) : W p l e room_1 s m args below meth c H locs c0 s0 Q (F0 m 511 ls []) := by
  have hcK : cle J K := (R_M_bodyAt Z ((xs (i + 1)).toInt) ((xs (i + 2)).toInt) J _ _ h2).1
  refine lv_aload_n b.1 b.2.1 dL_law_511 rfl (lv_at hl 1 rfl) ?_
  refine lv_aload_n b.1 b.2.1 dL_law_512 rfl (lv_at hl 0 rfl) ?_
  refine lv_iload b.1 b.2.1 dL_law_513 (lv_at hl 4 rfl) ?_
  refine lv_iconst (v := Int32.ofInt 1) b.1 b.2.1 dL_law_515 rfl ?_
  refine lx_iadd b dL_law_516 ?_
  refine lx_sld (q := i + 1) b hX hbl hZ hH hlo (w32_of (by omega) (by omega)) (by omega) dL_law_517 ?_
  refine lv_aload_n b.1 b.2.1 dL_law_518 rfl (lv_at hl 0 rfl) ?_
  refine lv_iload b.1 b.2.1 dL_law_519 (lv_at hl 4 rfl) ?_
  refine lv_iconst (v := Int32.ofInt 2) b.1 b.2.1 dL_law_521 rfl ?_
  refine lx_iadd b dL_law_522 ?_
  refine lx_sld (q := i + 2) b hX hbl hZ hH hlo (w32_of (by omega) (by omega)) (by omega) dL_law_523 ?_
  refine lv_aload_n b.1 b.2.1 dL_law_524 rfl (lv_at hl 3 rfl) ?_
  have R1 := R_L_bodyAt Z ((xs (i + 1)).toInt) ((xs (i + 2)).toInt) I _ _ h1
  have hc1 : cle I J := R1.1
  refine lx_callS (n := 4) (As := [vr Z 0 0, vi (xs (i + 1)).toInt, vi (xs (i + 2)).toInt, vr Z 29 0]) (rest := []) b hfl hl.1 hH R1 (lw_in 1391 (by decide +kernel) (by decide +kernel)) (lw_in 1390 (by decide +kernel) (by decide +kernel)) (lw_in 137 (by decide +kernel) (by decide +kernel)) (by decide +kernel) rfl rfl ⟨Nat.le_of_ble_eq_true rfl, Nat.le_of_ble_eq_true rfl⟩ (Nat.le_of_ble_eq_true rfl) ⟨show c0 + dC I J ≤ 600002 by have q1 := dC_add hc1 hcK; have q2 := dC_self K; omega, show s0 + dS I J ≤ 7302232 by have q1 := dC_add hc1 hcK; have q2 := dC_self K; omega⟩ (lw_in 1389 (by decide +kernel) (by decide +kernel)) hlo dL_law_525 (fun H locs hH hlo => ?_)
  refine lv_istore (lv' := [(5, vi r1), (0, .ref b0), (1, vr Z 0 0), (2, vr Z 26 0), (3, vr Z 29 0), (4, vi (i : Int))]) b.1 b.2.1 dL_law_528 hl (by decide) rfl (fun ls hl => ?_)
  refine lv_aload_n b.1 b.2.1 dL_law_530 rfl (lv_at hl 3 rfl) ?_
  refine lv_aload_n b.1 b.2.1 dL_law_531 rfl (lv_at hl 1 rfl) ?_
  refine lv_iload b.1 b.2.1 dL_law_532 (lv_at hl 5 rfl) ?_
  refine lv_iconst (v := Int32.ofInt 1) b.1 b.2.1 dL_law_534 rfl ?_
  refine lx_iadd b dL_law_535 ?_
  refine lx_sld (q := i + 1) b hX hbl hZ hH hlo (w32_of (by omega) (by omega)) (by omega) dL_law_536 ?_
  refine lv_aload_n b.1 b.2.1 dL_law_537 rfl (lv_at hl 1 rfl) ?_
  refine lv_iload b.1 b.2.1 dL_law_538 (lv_at hl 5 rfl) ?_
  refine lv_iconst (v := Int32.ofInt 2) b.1 b.2.1 dL_law_540 rfl ?_
  refine lx_iadd b dL_law_541 ?_
  refine lx_sld (q := i + 2) b hX hbl hZ hH hlo (w32_of (by omega) (by omega)) (by omega) dL_law_542 ?_
  have R2 := R_M_bodyAt Z ((xs (i + 1)).toInt) ((xs (i + 2)).toInt) J _ _ h2
  have hc2 : cle J K := R2.1
  refine lx_callV (n := 2) (As := [vi (xs (i + 1)).toInt, vi (xs (i + 2)).toInt]) (rest := []) b hfl hl.1 hH R2 ⟨(lw_in 2116 (by decide +kernel) (by decide +kernel)), (lw_in 2114 (by decide +kernel) (by decide +kernel)), (lw_in 2115 (by decide +kernel) (by decide +kernel)), (lw_in 153 (by decide +kernel) (by decide +kernel)), by decide +kernel⟩ (fun gr => ob_26) rfl rfl ⟨Nat.le_of_ble_eq_true rfl, Nat.le_of_ble_eq_true rfl⟩ (Nat.le_of_ble_eq_true rfl) ⟨show c0 + dC I J + dC J K ≤ 600002 by have q1 := dC_add hc1 hc2; have q2 := dC_self K; omega, show s0 + dS I J + dS J K ≤ 7302232 by have q1 := dC_add hc1 hc2; have q2 := dC_self K; omega⟩ (lw_in 2113 (by decide +kernel) (by decide +kernel)) hlo dL_law_543 (fun H locs hH hlo => ?_)
  refine lv_istore (lv' := [(6, vi r2), (5, vi r1), (0, .ref b0), (1, vr Z 0 0), (2, vr Z 26 0), (3, vr Z 29 0), (4, vi (i : Int))]) b.1 b.2.1 dL_law_546 hl (by decide) rfl (fun ls hl => ?_)
  refine lv_aload_n b.1 b.2.1 dL_law_548 rfl (lv_at hl 4 rfl) ?_
  have R3 := R_M_thrown Z K _ _ (rfl : f_M_thrown K = some (K 26 0 7, K))
  refine lx_callV (n := 0) (As := []) (rest := []) b hfl hl.1 hH R3 ⟨(lw_in 1767 (by decide +kernel) (by decide +kernel)), (lw_in 1765 (by decide +kernel) (by decide +kernel)), (lw_in 1766 (by decide +kernel) (by decide +kernel)), (lw_in 153 (by decide +kernel) (by decide +kernel)), by decide +kernel⟩ (fun gr => ob_26) rfl rfl ⟨Nat.le_of_ble_eq_true rfl, Nat.le_of_ble_eq_true rfl⟩ (Nat.le_of_ble_eq_true rfl) ⟨show c0 + dC I J + dC J K + dC K K ≤ 600002 by have q1 := dC_add hc1 hc2; have q2 := dC_self K; omega, show s0 + dS I J + dS J K + dS K K ≤ 7302232 by have q1 := dC_add hc1 hc2; have q2 := dC_self K; omega⟩ (lw_in 1764 (by decide +kernel) (by decide +kernel)) hlo dL_law_549 (fun H locs hH hlo => ?_)
  refine lv_iload b.1 b.2.1 dL_law_552 (lv_at hl 1 rfl) ?_
  refine lx_eq (tgt := 559) b h3 dL_law_554 (by decide) ?_
  refine lv_iload b.1 b.2.1 dL_law_559 (lv_at hl 1 rfl) ?_
  refine lx_ifne (tgt := 576) b dL_law_561 (by decide) (fun z1 => ?_) (fun z1 => ?_)
  · skip
    refine lv_goto (tgt := 1888) b.1 b.2.1 dL_law_576 (by decide) ?_
    refine W.widen (k := c0 + dC I K) (n := s0 + dS I K) (show c0 + dC I J + dC J K + dC K K ≤ c0 + dC I K by have q1 := dC_add hc1 hc2; have q2 := dC_self K; omega) (show s0 + dS I J + dS J K + dS K K ≤ s0 + dS I K by have q1 := dC_add hc1 hc2; have q2 := dC_self K; omega) ?_
    exact kk H locs ls hH hlo (lv_sub hl [2, 3, 4, 5, 6] rfl)
  · skip
    refine lv_aload_n b.1 b.2.1 dL_law_564 rfl (lv_at hl 5 rfl) ?_
    refine lv_iconst (v := Int32.ofInt 0) b.1 b.2.1 dL_law_565 rfl ?_
    refine lx_lald b hH dL_law_566 ?_
    refine lv_iload b.1 b.2.1 dL_law_567 (lv_at hl 0 rfl) ?_
    refine lx_i2l b dL_law_569 ?_
    refine lx_lcmp b (h4 z1) dL_law_570 ?_
    refine lx_ifeq (x := 0) (tgt := 576) b dL_law_571 (by decide) (fun _ => ?_) (fun z => absurd (by decide) z)
    refine lv_goto (tgt := 1888) b.1 b.2.1 dL_law_576 (by decide) ?_
    refine W.widen (k := c0 + dC I K) (n := s0 + dS I K) (show c0 + dC I J + dC J K + dC K K ≤ c0 + dC I K by have q1 := dC_add hc1 hc2; have q2 := dC_self K; omega) (show s0 + dS I J + dS J K + dS K K ≤ s0 + dS I K by have q1 := dC_add hc1 hc2; have q2 := dC_self K; omega) ?_
    exact kk H locs ls hH hlo (lv_sub hl [2, 3, 4, 5, 6] rfl)
set_option maxRecDepth 20000 in
set_option maxHeartbeats 4000000 in
theorem LC_8 {p : Program} {l : Launch} {e : Env} {s : State} {m : MethodId} {args : Array Value} {below : List Frame} {meth : Method} {c : Code} {H : Heap} {locs : List Loc} {c0 s0 : Nat} {Q : State → Prop} {ls : Array Slot} {Z : ZT} {I : Mem} {b0 L i : Nat} {xs : Nat → Int32} (b : BB p s m args c RL cL_law 9 Z) (hfl : l.stackTraces = false) (hX : va_X b0 L xs s s.heap) (hbl : b0 < s.heap.size) (hZ : zB Z = s.heap.size ∧ zH Z = s.heap) (hi : i + 6 ≤ L) (hL : L < 100000) (hH : HH Z I H) (hlo : ∀ q ∈ locs, zN Z q.base) (hl : lv_has ls 9 [(0, .ref b0), (1, vr Z 0 0), (2, vr Z 26 0), (3, vr Z 29 0), (4, vi (i : Int))]) {r1 : Int} {r2 : Int} {J K : Mem} (h1 : f_L_startAt ((xs (i + 1)).toInt) I = some (r1, J)) (h2 : f_M_startAt ((xs (i + 1)).toInt) J = some (r2, K)) (h3 : w32 (K 26 0 7) = w32 r1) (h4 : w32 r1 = 0 → w64 (K 29 0 0) = w64 (w32 r2)) (hmc : c0 + dC I K ≤ 600002) (hms : s0 + dS I K ≤ 7302232)
    (kk : ∀ (H : Heap) (locs : List Loc) (ls : Array Slot), HH Z K H → (∀ q ∈ locs, zN Z q.base) → lv_has ls 9 [(0, .ref b0), (1, vr Z 0 0), (2, vr Z 26 0), (3, vr Z 29 0), (4, vi (i : Int))] → W p l e room_1 s m args below meth c H locs (c0 + dC I K) (s0 + dS I K) Q (F0 m 1888 ls [])) : W p l e room_1 s m args below meth c H locs c0 s0 Q (F0 m 579 ls []) := by
  have hcK : cle J K := (R_M_startAt Z ((xs (i + 1)).toInt) J _ _ h2).1
  refine lv_aload_n b.1 b.2.1 dL_law_579 rfl (lv_at hl 1 rfl) ?_
  refine lv_aload_n b.1 b.2.1 dL_law_580 rfl (lv_at hl 0 rfl) ?_
  refine lv_iload b.1 b.2.1 dL_law_581 (lv_at hl 4 rfl) ?_
  refine lv_iconst (v := Int32.ofInt 1) b.1 b.2.1 dL_law_583 rfl ?_
  refine lx_iadd b dL_law_584 ?_
  refine lx_sld (q := i + 1) b hX hbl hZ hH hlo (w32_of (by omega) (by omega)) (by omega) dL_law_585 ?_
  refine lv_aload_n b.1 b.2.1 dL_law_586 rfl (lv_at hl 3 rfl) ?_
  have R1 := R_L_startAt Z ((xs (i + 1)).toInt) I _ _ h1
  have hc1 : cle I J := R1.1
  refine lx_callS (n := 3) (As := [vr Z 0 0, vi (xs (i + 1)).toInt, vr Z 29 0]) (rest := []) b hfl hl.1 hH R1 (lw_in 1399 (by decide +kernel) (by decide +kernel)) (lw_in 1398 (by decide +kernel) (by decide +kernel)) (lw_in 137 (by decide +kernel) (by decide +kernel)) (by decide +kernel) rfl rfl ⟨Nat.le_of_ble_eq_true rfl, Nat.le_of_ble_eq_true rfl⟩ (Nat.le_of_ble_eq_true rfl) ⟨show c0 + dC I J ≤ 600002 by have q1 := dC_add hc1 hcK; have q2 := dC_self K; omega, show s0 + dS I J ≤ 7302232 by have q1 := dC_add hc1 hcK; have q2 := dC_self K; omega⟩ (lw_in 1397 (by decide +kernel) (by decide +kernel)) hlo dL_law_587 (fun H locs hH hlo => ?_)
  refine lv_istore (lv' := [(5, vi r1), (0, .ref b0), (1, vr Z 0 0), (2, vr Z 26 0), (3, vr Z 29 0), (4, vi (i : Int))]) b.1 b.2.1 dL_law_590 hl (by decide) rfl (fun ls hl => ?_)
  refine lv_aload_n b.1 b.2.1 dL_law_592 rfl (lv_at hl 3 rfl) ?_
  refine lv_aload_n b.1 b.2.1 dL_law_593 rfl (lv_at hl 1 rfl) ?_
  refine lv_iload b.1 b.2.1 dL_law_594 (lv_at hl 5 rfl) ?_
  refine lv_iconst (v := Int32.ofInt 1) b.1 b.2.1 dL_law_596 rfl ?_
  refine lx_iadd b dL_law_597 ?_
  refine lx_sld (q := i + 1) b hX hbl hZ hH hlo (w32_of (by omega) (by omega)) (by omega) dL_law_598 ?_
  have R2 := R_M_startAt Z ((xs (i + 1)).toInt) J _ _ h2
  have hc2 : cle J K := R2.1
  refine lx_callV (n := 1) (As := [vi (xs (i + 1)).toInt]) (rest := []) b hfl hl.1 hH R2 ⟨(lw_in 2120 (by decide +kernel) (by decide +kernel)), (lw_in 2118 (by decide +kernel) (by decide +kernel)), (lw_in 2119 (by decide +kernel) (by decide +kernel)), (lw_in 153 (by decide +kernel) (by decide +kernel)), by decide +kernel⟩ (fun gr => ob_26) rfl rfl ⟨Nat.le_of_ble_eq_true rfl, Nat.le_of_ble_eq_true rfl⟩ (Nat.le_of_ble_eq_true rfl) ⟨show c0 + dC I J + dC J K ≤ 600002 by have q1 := dC_add hc1 hc2; have q2 := dC_self K; omega, show s0 + dS I J + dS J K ≤ 7302232 by have q1 := dC_add hc1 hc2; have q2 := dC_self K; omega⟩ (lw_in 2117 (by decide +kernel) (by decide +kernel)) hlo dL_law_599 (fun H locs hH hlo => ?_)
  refine lv_istore (lv' := [(6, vi r2), (5, vi r1), (0, .ref b0), (1, vr Z 0 0), (2, vr Z 26 0), (3, vr Z 29 0), (4, vi (i : Int))]) b.1 b.2.1 dL_law_602 hl (by decide) rfl (fun ls hl => ?_)
  refine lv_aload_n b.1 b.2.1 dL_law_604 rfl (lv_at hl 4 rfl) ?_
  have R3 := R_M_thrown Z K _ _ (rfl : f_M_thrown K = some (K 26 0 7, K))
  refine lx_callV (n := 0) (As := []) (rest := []) b hfl hl.1 hH R3 ⟨(lw_in 1767 (by decide +kernel) (by decide +kernel)), (lw_in 1765 (by decide +kernel) (by decide +kernel)), (lw_in 1766 (by decide +kernel) (by decide +kernel)), (lw_in 153 (by decide +kernel) (by decide +kernel)), by decide +kernel⟩ (fun gr => ob_26) rfl rfl ⟨Nat.le_of_ble_eq_true rfl, Nat.le_of_ble_eq_true rfl⟩ (Nat.le_of_ble_eq_true rfl) ⟨show c0 + dC I J + dC J K + dC K K ≤ 600002 by have q1 := dC_add hc1 hc2; have q2 := dC_self K; omega, show s0 + dS I J + dS J K + dS K K ≤ 7302232 by have q1 := dC_add hc1 hc2; have q2 := dC_self K; omega⟩ (lw_in 1764 (by decide +kernel) (by decide +kernel)) hlo dL_law_605 (fun H locs hH hlo => ?_)
  refine lv_iload b.1 b.2.1 dL_law_608 (lv_at hl 1 rfl) ?_
  refine lx_eq (tgt := 615) b h3 dL_law_610 (by decide) ?_
  refine lv_iload b.1 b.2.1 dL_law_615 (lv_at hl 1 rfl) ?_
  refine lx_ifne (tgt := 632) b dL_law_617 (by decide) (fun z1 => ?_) (fun z1 => ?_)
  · skip
    refine lv_goto (tgt := 1888) b.1 b.2.1 dL_law_632 (by decide) ?_
    refine W.widen (k := c0 + dC I K) (n := s0 + dS I K) (show c0 + dC I J + dC J K + dC K K ≤ c0 + dC I K by have q1 := dC_add hc1 hc2; have q2 := dC_self K; omega) (show s0 + dS I J + dS J K + dS K K ≤ s0 + dS I K by have q1 := dC_add hc1 hc2; have q2 := dC_self K; omega) ?_
    exact kk H locs ls hH hlo (lv_sub hl [2, 3, 4, 5, 6] rfl)
  · skip
    refine lv_aload_n b.1 b.2.1 dL_law_620 rfl (lv_at hl 5 rfl) ?_
    refine lv_iconst (v := Int32.ofInt 0) b.1 b.2.1 dL_law_621 rfl ?_
    refine lx_lald b hH dL_law_622 ?_
    refine lv_iload b.1 b.2.1 dL_law_623 (lv_at hl 0 rfl) ?_
    refine lx_i2l b dL_law_625 ?_
    refine lx_lcmp b (h4 z1) dL_law_626 ?_
    refine lx_ifeq (x := 0) (tgt := 632) b dL_law_627 (by decide) (fun _ => ?_) (fun z => absurd (by decide) z)
    refine lv_goto (tgt := 1888) b.1 b.2.1 dL_law_632 (by decide) ?_
    refine W.widen (k := c0 + dC I K) (n := s0 + dS I K) (show c0 + dC I J + dC J K + dC K K ≤ c0 + dC I K by have q1 := dC_add hc1 hc2; have q2 := dC_self K; omega) (show s0 + dS I J + dS J K + dS K K ≤ s0 + dS I K by have q1 := dC_add hc1 hc2; have q2 := dC_self K; omega) ?_
    exact kk H locs ls hH hlo (lv_sub hl [2, 3, 4, 5, 6] rfl)
set_option maxRecDepth 20000 in
set_option maxHeartbeats 4000000 in
theorem LC_9 {p : Program} {l : Launch} {e : Env} {s : State} {m : MethodId} {args : Array Value} {below : List Frame} {meth : Method} {c : Code} {H : Heap} {locs : List Loc} {c0 s0 : Nat} {Q : State → Prop} {ls : Array Slot} {Z : ZT} {I : Mem} {b0 L i : Nat} {xs : Nat → Int32} (b : BB p s m args c RL cL_law 9 Z) (hfl : l.stackTraces = false) (hX : va_X b0 L xs s s.heap) (hbl : b0 < s.heap.size) (hZ : zB Z = s.heap.size ∧ zH Z = s.heap) (hi : i + 6 ≤ L) (hL : L < 100000) (hH : HH Z I H) (hlo : ∀ q ∈ locs, zN Z q.base) (hl : lv_has ls 9 [(0, .ref b0), (1, vr Z 0 0), (2, vr Z 26 0), (3, vr Z 29 0), (4, vi (i : Int))]) {r1 : Int} {r2 : Int} {J K : Mem} (h1 : f_L_letterAt ((xs (i + 1)).toInt) I = some (r1, J)) (h2 : f_M_letterAt ((xs (i + 1)).toInt) J = some (r2, K)) (h3 : w32 (K 26 0 7) = w32 r1) (h4 : w32 r1 = 0 → w64 (K 29 0 0) = w64 (w32 r2)) (hmc : c0 + dC I K ≤ 600002) (hms : s0 + dS I K ≤ 7302232)
    (kk : ∀ (H : Heap) (locs : List Loc) (ls : Array Slot), HH Z K H → (∀ q ∈ locs, zN Z q.base) → lv_has ls 9 [(0, .ref b0), (1, vr Z 0 0), (2, vr Z 26 0), (3, vr Z 29 0), (4, vi (i : Int))] → W p l e room_1 s m args below meth c H locs (c0 + dC I K) (s0 + dS I K) Q (F0 m 1888 ls [])) : W p l e room_1 s m args below meth c H locs c0 s0 Q (F0 m 635 ls []) := by
  have hcK : cle J K := (R_M_letterAt Z ((xs (i + 1)).toInt) J _ _ h2).1
  refine lv_aload_n b.1 b.2.1 dL_law_635 rfl (lv_at hl 1 rfl) ?_
  refine lv_aload_n b.1 b.2.1 dL_law_636 rfl (lv_at hl 0 rfl) ?_
  refine lv_iload b.1 b.2.1 dL_law_637 (lv_at hl 4 rfl) ?_
  refine lv_iconst (v := Int32.ofInt 1) b.1 b.2.1 dL_law_639 rfl ?_
  refine lx_iadd b dL_law_640 ?_
  refine lx_sld (q := i + 1) b hX hbl hZ hH hlo (w32_of (by omega) (by omega)) (by omega) dL_law_641 ?_
  refine lv_aload_n b.1 b.2.1 dL_law_642 rfl (lv_at hl 3 rfl) ?_
  have R1 := R_L_letterAt Z ((xs (i + 1)).toInt) I _ _ h1
  have hc1 : cle I J := R1.1
  refine lx_callS (n := 3) (As := [vr Z 0 0, vi (xs (i + 1)).toInt, vr Z 29 0]) (rest := []) b hfl hl.1 hH R1 (lw_in 1406 (by decide +kernel) (by decide +kernel)) (lw_in 1405 (by decide +kernel) (by decide +kernel)) (lw_in 137 (by decide +kernel) (by decide +kernel)) (by decide +kernel) rfl rfl ⟨Nat.le_of_ble_eq_true rfl, Nat.le_of_ble_eq_true rfl⟩ (Nat.le_of_ble_eq_true rfl) ⟨show c0 + dC I J ≤ 600002 by have q1 := dC_add hc1 hcK; have q2 := dC_self K; omega, show s0 + dS I J ≤ 7302232 by have q1 := dC_add hc1 hcK; have q2 := dC_self K; omega⟩ (lw_in 1404 (by decide +kernel) (by decide +kernel)) hlo dL_law_643 (fun H locs hH hlo => ?_)
  refine lv_istore (lv' := [(5, vi r1), (0, .ref b0), (1, vr Z 0 0), (2, vr Z 26 0), (3, vr Z 29 0), (4, vi (i : Int))]) b.1 b.2.1 dL_law_646 hl (by decide) rfl (fun ls hl => ?_)
  refine lv_aload_n b.1 b.2.1 dL_law_648 rfl (lv_at hl 3 rfl) ?_
  refine lv_aload_n b.1 b.2.1 dL_law_649 rfl (lv_at hl 1 rfl) ?_
  refine lv_iload b.1 b.2.1 dL_law_650 (lv_at hl 5 rfl) ?_
  refine lv_iconst (v := Int32.ofInt 1) b.1 b.2.1 dL_law_652 rfl ?_
  refine lx_iadd b dL_law_653 ?_
  refine lx_sld (q := i + 1) b hX hbl hZ hH hlo (w32_of (by omega) (by omega)) (by omega) dL_law_654 ?_
  have R2 := R_M_letterAt Z ((xs (i + 1)).toInt) J _ _ h2
  have hc2 : cle J K := R2.1
  refine lx_callV (n := 1) (As := [vi (xs (i + 1)).toInt]) (rest := []) b hfl hl.1 hH R2 ⟨(lw_in 2124 (by decide +kernel) (by decide +kernel)), (lw_in 2122 (by decide +kernel) (by decide +kernel)), (lw_in 2123 (by decide +kernel) (by decide +kernel)), (lw_in 153 (by decide +kernel) (by decide +kernel)), by decide +kernel⟩ (fun gr => ob_26) rfl rfl ⟨Nat.le_of_ble_eq_true rfl, Nat.le_of_ble_eq_true rfl⟩ (Nat.le_of_ble_eq_true rfl) ⟨show c0 + dC I J + dC J K ≤ 600002 by have q1 := dC_add hc1 hc2; have q2 := dC_self K; omega, show s0 + dS I J + dS J K ≤ 7302232 by have q1 := dC_add hc1 hc2; have q2 := dC_self K; omega⟩ (lw_in 2121 (by decide +kernel) (by decide +kernel)) hlo dL_law_655 (fun H locs hH hlo => ?_)
  refine lv_istore (lv' := [(6, vi r2), (5, vi r1), (0, .ref b0), (1, vr Z 0 0), (2, vr Z 26 0), (3, vr Z 29 0), (4, vi (i : Int))]) b.1 b.2.1 dL_law_658 hl (by decide) rfl (fun ls hl => ?_)
  refine lv_aload_n b.1 b.2.1 dL_law_660 rfl (lv_at hl 4 rfl) ?_
  have R3 := R_M_thrown Z K _ _ (rfl : f_M_thrown K = some (K 26 0 7, K))
  refine lx_callV (n := 0) (As := []) (rest := []) b hfl hl.1 hH R3 ⟨(lw_in 1767 (by decide +kernel) (by decide +kernel)), (lw_in 1765 (by decide +kernel) (by decide +kernel)), (lw_in 1766 (by decide +kernel) (by decide +kernel)), (lw_in 153 (by decide +kernel) (by decide +kernel)), by decide +kernel⟩ (fun gr => ob_26) rfl rfl ⟨Nat.le_of_ble_eq_true rfl, Nat.le_of_ble_eq_true rfl⟩ (Nat.le_of_ble_eq_true rfl) ⟨show c0 + dC I J + dC J K + dC K K ≤ 600002 by have q1 := dC_add hc1 hc2; have q2 := dC_self K; omega, show s0 + dS I J + dS J K + dS K K ≤ 7302232 by have q1 := dC_add hc1 hc2; have q2 := dC_self K; omega⟩ (lw_in 1764 (by decide +kernel) (by decide +kernel)) hlo dL_law_661 (fun H locs hH hlo => ?_)
  refine lv_iload b.1 b.2.1 dL_law_664 (lv_at hl 1 rfl) ?_
  refine lx_eq (tgt := 671) b h3 dL_law_666 (by decide) ?_
  refine lv_iload b.1 b.2.1 dL_law_671 (lv_at hl 1 rfl) ?_
  refine lx_ifne (tgt := 688) b dL_law_673 (by decide) (fun z1 => ?_) (fun z1 => ?_)
  · skip
    refine lv_goto (tgt := 1888) b.1 b.2.1 dL_law_688 (by decide) ?_
    refine W.widen (k := c0 + dC I K) (n := s0 + dS I K) (show c0 + dC I J + dC J K + dC K K ≤ c0 + dC I K by have q1 := dC_add hc1 hc2; have q2 := dC_self K; omega) (show s0 + dS I J + dS J K + dS K K ≤ s0 + dS I K by have q1 := dC_add hc1 hc2; have q2 := dC_self K; omega) ?_
    exact kk H locs ls hH hlo (lv_sub hl [2, 3, 4, 5, 6] rfl)
  · skip
    refine lv_aload_n b.1 b.2.1 dL_law_676 rfl (lv_at hl 5 rfl) ?_
    refine lv_iconst (v := Int32.ofInt 0) b.1 b.2.1 dL_law_677 rfl ?_
    refine lx_lald b hH dL_law_678 ?_
    refine lv_iload b.1 b.2.1 dL_law_679 (lv_at hl 0 rfl) ?_
    refine lx_i2l b dL_law_681 ?_
    refine lx_lcmp b (h4 z1) dL_law_682 ?_
    refine lx_ifeq (x := 0) (tgt := 688) b dL_law_683 (by decide) (fun _ => ?_) (fun z => absurd (by decide) z)
    refine lv_goto (tgt := 1888) b.1 b.2.1 dL_law_688 (by decide) ?_
    refine W.widen (k := c0 + dC I K) (n := s0 + dS I K) (show c0 + dC I J + dC J K + dC K K ≤ c0 + dC I K by have q1 := dC_add hc1 hc2; have q2 := dC_self K; omega) (show s0 + dS I J + dS J K + dS K K ≤ s0 + dS I K by have q1 := dC_add hc1 hc2; have q2 := dC_self K; omega) ?_
    exact kk H locs ls hH hlo (lv_sub hl [2, 3, 4, 5, 6] rfl)
set_option maxRecDepth 20000 in
set_option maxHeartbeats 4000000 in
theorem LC_10 {p : Program} {l : Launch} {e : Env} {s : State} {m : MethodId} {args : Array Value} {below : List Frame} {meth : Method} {c : Code} {H : Heap} {locs : List Loc} {c0 s0 : Nat} {Q : State → Prop} {ls : Array Slot} {Z : ZT} {I : Mem} {b0 L i : Nat} {xs : Nat → Int32} (b : BB p s m args c RL cL_law 9 Z) (hfl : l.stackTraces = false) (hX : va_X b0 L xs s s.heap) (hbl : b0 < s.heap.size) (hZ : zB Z = s.heap.size ∧ zH Z = s.heap) (hi : i + 6 ≤ L) (hL : L < 100000) (hH : HH Z I H) (hlo : ∀ q ∈ locs, zN Z q.base) (hl : lv_has ls 9 [(0, .ref b0), (1, vr Z 0 0), (2, vr Z 26 0), (3, vr Z 29 0), (4, vi (i : Int))]) {r1 : Int} {r2 : Int} {J K : Mem} (h1 : f_L_symbolOf ((xs (i + 1)).toInt) I = some (r1, J)) (h2 : f_M_symbolOf ((xs (i + 1)).toInt) J = some (r2, K)) (h3 : w32 (K 26 0 7) = w32 r1) (h4 : w32 r1 = 0 → w64 (K 29 0 0) = w64 (w32 r2)) (hmc : c0 + dC I K ≤ 600002) (hms : s0 + dS I K ≤ 7302232)
    (kk : ∀ (H : Heap) (locs : List Loc) (ls : Array Slot), HH Z K H → (∀ q ∈ locs, zN Z q.base) → lv_has ls 9 [(0, .ref b0), (1, vr Z 0 0), (2, vr Z 26 0), (3, vr Z 29 0), (4, vi (i : Int))] → W p l e room_1 s m args below meth c H locs (c0 + dC I K) (s0 + dS I K) Q (F0 m 1888 ls [])) : W p l e room_1 s m args below meth c H locs c0 s0 Q (F0 m 691 ls []) := by
  have hcK : cle J K := (R_M_symbolOf Z ((xs (i + 1)).toInt) J _ _ h2).1
  refine lv_aload_n b.1 b.2.1 dL_law_691 rfl (lv_at hl 1 rfl) ?_
  refine lv_aload_n b.1 b.2.1 dL_law_692 rfl (lv_at hl 0 rfl) ?_
  refine lv_iload b.1 b.2.1 dL_law_693 (lv_at hl 4 rfl) ?_
  refine lv_iconst (v := Int32.ofInt 1) b.1 b.2.1 dL_law_695 rfl ?_
  refine lx_iadd b dL_law_696 ?_
  refine lx_sld (q := i + 1) b hX hbl hZ hH hlo (w32_of (by omega) (by omega)) (by omega) dL_law_697 ?_
  refine lv_aload_n b.1 b.2.1 dL_law_698 rfl (lv_at hl 3 rfl) ?_
  have R1 := R_L_symbolOf Z ((xs (i + 1)).toInt) I _ _ h1
  have hc1 : cle I J := R1.1
  refine lx_callS (n := 3) (As := [vr Z 0 0, vi (xs (i + 1)).toInt, vr Z 29 0]) (rest := []) b hfl hl.1 hH R1 (lw_in 1421 (by decide +kernel) (by decide +kernel)) (lw_in 1420 (by decide +kernel) (by decide +kernel)) (lw_in 137 (by decide +kernel) (by decide +kernel)) (by decide +kernel) rfl rfl ⟨Nat.le_of_ble_eq_true rfl, Nat.le_of_ble_eq_true rfl⟩ (Nat.le_of_ble_eq_true rfl) ⟨show c0 + dC I J ≤ 600002 by have q1 := dC_add hc1 hcK; have q2 := dC_self K; omega, show s0 + dS I J ≤ 7302232 by have q1 := dC_add hc1 hcK; have q2 := dC_self K; omega⟩ (lw_in 1419 (by decide +kernel) (by decide +kernel)) hlo dL_law_699 (fun H locs hH hlo => ?_)
  refine lv_istore (lv' := [(5, vi r1), (0, .ref b0), (1, vr Z 0 0), (2, vr Z 26 0), (3, vr Z 29 0), (4, vi (i : Int))]) b.1 b.2.1 dL_law_702 hl (by decide) rfl (fun ls hl => ?_)
  refine lv_aload_n b.1 b.2.1 dL_law_704 rfl (lv_at hl 3 rfl) ?_
  refine lv_aload_n b.1 b.2.1 dL_law_705 rfl (lv_at hl 1 rfl) ?_
  refine lv_iload b.1 b.2.1 dL_law_706 (lv_at hl 5 rfl) ?_
  refine lv_iconst (v := Int32.ofInt 1) b.1 b.2.1 dL_law_708 rfl ?_
  refine lx_iadd b dL_law_709 ?_
  refine lx_sld (q := i + 1) b hX hbl hZ hH hlo (w32_of (by omega) (by omega)) (by omega) dL_law_710 ?_
  have R2 := R_M_symbolOf Z ((xs (i + 1)).toInt) J _ _ h2
  have hc2 : cle J K := R2.1
  refine lx_callV (n := 1) (As := [vi (xs (i + 1)).toInt]) (rest := []) b hfl hl.1 hH R2 ⟨(lw_in 2132 (by decide +kernel) (by decide +kernel)), (lw_in 2130 (by decide +kernel) (by decide +kernel)), (lw_in 2131 (by decide +kernel) (by decide +kernel)), (lw_in 153 (by decide +kernel) (by decide +kernel)), by decide +kernel⟩ (fun gr => ob_26) rfl rfl ⟨Nat.le_of_ble_eq_true rfl, Nat.le_of_ble_eq_true rfl⟩ (Nat.le_of_ble_eq_true rfl) ⟨show c0 + dC I J + dC J K ≤ 600002 by have q1 := dC_add hc1 hc2; have q2 := dC_self K; omega, show s0 + dS I J + dS J K ≤ 7302232 by have q1 := dC_add hc1 hc2; have q2 := dC_self K; omega⟩ (lw_in 2129 (by decide +kernel) (by decide +kernel)) hlo dL_law_711 (fun H locs hH hlo => ?_)
  refine lv_istore (lv' := [(6, vi r2), (5, vi r1), (0, .ref b0), (1, vr Z 0 0), (2, vr Z 26 0), (3, vr Z 29 0), (4, vi (i : Int))]) b.1 b.2.1 dL_law_714 hl (by decide) rfl (fun ls hl => ?_)
  refine lv_aload_n b.1 b.2.1 dL_law_716 rfl (lv_at hl 4 rfl) ?_
  have R3 := R_M_thrown Z K _ _ (rfl : f_M_thrown K = some (K 26 0 7, K))
  refine lx_callV (n := 0) (As := []) (rest := []) b hfl hl.1 hH R3 ⟨(lw_in 1767 (by decide +kernel) (by decide +kernel)), (lw_in 1765 (by decide +kernel) (by decide +kernel)), (lw_in 1766 (by decide +kernel) (by decide +kernel)), (lw_in 153 (by decide +kernel) (by decide +kernel)), by decide +kernel⟩ (fun gr => ob_26) rfl rfl ⟨Nat.le_of_ble_eq_true rfl, Nat.le_of_ble_eq_true rfl⟩ (Nat.le_of_ble_eq_true rfl) ⟨show c0 + dC I J + dC J K + dC K K ≤ 600002 by have q1 := dC_add hc1 hc2; have q2 := dC_self K; omega, show s0 + dS I J + dS J K + dS K K ≤ 7302232 by have q1 := dC_add hc1 hc2; have q2 := dC_self K; omega⟩ (lw_in 1764 (by decide +kernel) (by decide +kernel)) hlo dL_law_717 (fun H locs hH hlo => ?_)
  refine lv_iload b.1 b.2.1 dL_law_720 (lv_at hl 1 rfl) ?_
  refine lx_eq (tgt := 727) b h3 dL_law_722 (by decide) ?_
  refine lv_iload b.1 b.2.1 dL_law_727 (lv_at hl 1 rfl) ?_
  refine lx_ifne (tgt := 744) b dL_law_729 (by decide) (fun z1 => ?_) (fun z1 => ?_)
  · skip
    refine lv_goto (tgt := 1888) b.1 b.2.1 dL_law_744 (by decide) ?_
    refine W.widen (k := c0 + dC I K) (n := s0 + dS I K) (show c0 + dC I J + dC J K + dC K K ≤ c0 + dC I K by have q1 := dC_add hc1 hc2; have q2 := dC_self K; omega) (show s0 + dS I J + dS J K + dS K K ≤ s0 + dS I K by have q1 := dC_add hc1 hc2; have q2 := dC_self K; omega) ?_
    exact kk H locs ls hH hlo (lv_sub hl [2, 3, 4, 5, 6] rfl)
  · skip
    refine lv_aload_n b.1 b.2.1 dL_law_732 rfl (lv_at hl 5 rfl) ?_
    refine lv_iconst (v := Int32.ofInt 0) b.1 b.2.1 dL_law_733 rfl ?_
    refine lx_lald b hH dL_law_734 ?_
    refine lv_iload b.1 b.2.1 dL_law_735 (lv_at hl 0 rfl) ?_
    refine lx_i2l b dL_law_737 ?_
    refine lx_lcmp b (h4 z1) dL_law_738 ?_
    refine lx_ifeq (x := 0) (tgt := 744) b dL_law_739 (by decide) (fun _ => ?_) (fun z => absurd (by decide) z)
    refine lv_goto (tgt := 1888) b.1 b.2.1 dL_law_744 (by decide) ?_
    refine W.widen (k := c0 + dC I K) (n := s0 + dS I K) (show c0 + dC I J + dC J K + dC K K ≤ c0 + dC I K by have q1 := dC_add hc1 hc2; have q2 := dC_self K; omega) (show s0 + dS I J + dS J K + dS K K ≤ s0 + dS I K by have q1 := dC_add hc1 hc2; have q2 := dC_self K; omega) ?_
    exact kk H locs ls hH hlo (lv_sub hl [2, 3, 4, 5, 6] rfl)
set_option maxRecDepth 20000 in
set_option maxHeartbeats 4000000 in
theorem LC_11 {p : Program} {l : Launch} {e : Env} {s : State} {m : MethodId} {args : Array Value} {below : List Frame} {meth : Method} {c : Code} {H : Heap} {locs : List Loc} {c0 s0 : Nat} {Q : State → Prop} {ls : Array Slot} {Z : ZT} {I : Mem} {b0 L i : Nat} {xs : Nat → Int32} (b : BB p s m args c RL cL_law 9 Z) (hfl : l.stackTraces = false) (hX : va_X b0 L xs s s.heap) (hbl : b0 < s.heap.size) (hZ : zB Z = s.heap.size ∧ zH Z = s.heap) (hi : i + 6 ≤ L) (hL : L < 100000) (hH : HH Z I H) (hlo : ∀ q ∈ locs, zN Z q.base) (hl : lv_has ls 9 [(0, .ref b0), (1, vr Z 0 0), (2, vr Z 26 0), (3, vr Z 29 0), (4, vi (i : Int))]) {r1 : Int} {r2 : Int} {J K : Mem} (h1 : f_L_letters ((xs (i + 1)).toInt) I = some (r1, J)) (h2 : f_M_letters ((xs (i + 1)).toInt) J = some (r2, K)) (h3 : w32 (K 26 0 7) = w32 r1) (h4 : w32 r1 = 0 → w64 (K 29 0 0) = w64 (w32 r2)) (hmc : c0 + dC I K ≤ 600002) (hms : s0 + dS I K ≤ 7302232)
    (kk : ∀ (H : Heap) (locs : List Loc) (ls : Array Slot), HH Z K H → (∀ q ∈ locs, zN Z q.base) → lv_has ls 9 [(0, .ref b0), (1, vr Z 0 0), (2, vr Z 26 0), (3, vr Z 29 0), (4, vi (i : Int))] → W p l e room_1 s m args below meth c H locs (c0 + dC I K) (s0 + dS I K) Q (F0 m 1888 ls [])) : W p l e room_1 s m args below meth c H locs c0 s0 Q (F0 m 747 ls []) := by
  have hcK : cle J K := (R_M_letters Z ((xs (i + 1)).toInt) J _ _ h2).1
  refine lv_aload_n b.1 b.2.1 dL_law_747 rfl (lv_at hl 1 rfl) ?_
  refine lv_aload_n b.1 b.2.1 dL_law_748 rfl (lv_at hl 0 rfl) ?_
  refine lv_iload b.1 b.2.1 dL_law_749 (lv_at hl 4 rfl) ?_
  refine lv_iconst (v := Int32.ofInt 1) b.1 b.2.1 dL_law_751 rfl ?_
  refine lx_iadd b dL_law_752 ?_
  refine lx_sld (q := i + 1) b hX hbl hZ hH hlo (w32_of (by omega) (by omega)) (by omega) dL_law_753 ?_
  refine lv_aload_n b.1 b.2.1 dL_law_754 rfl (lv_at hl 3 rfl) ?_
  have R1 := R_L_letters Z ((xs (i + 1)).toInt) I _ _ h1
  have hc1 : cle I J := R1.1
  refine lx_callS (n := 3) (As := [vr Z 0 0, vi (xs (i + 1)).toInt, vr Z 29 0]) (rest := []) b hfl hl.1 hH R1 (lw_in 1429 (by decide +kernel) (by decide +kernel)) (lw_in 1428 (by decide +kernel) (by decide +kernel)) (lw_in 137 (by decide +kernel) (by decide +kernel)) (by decide +kernel) rfl rfl ⟨Nat.le_of_ble_eq_true rfl, Nat.le_of_ble_eq_true rfl⟩ (Nat.le_of_ble_eq_true rfl) ⟨show c0 + dC I J ≤ 600002 by have q1 := dC_add hc1 hcK; have q2 := dC_self K; omega, show s0 + dS I J ≤ 7302232 by have q1 := dC_add hc1 hcK; have q2 := dC_self K; omega⟩ (lw_in 1427 (by decide +kernel) (by decide +kernel)) hlo dL_law_755 (fun H locs hH hlo => ?_)
  refine lv_istore (lv' := [(5, vi r1), (0, .ref b0), (1, vr Z 0 0), (2, vr Z 26 0), (3, vr Z 29 0), (4, vi (i : Int))]) b.1 b.2.1 dL_law_758 hl (by decide) rfl (fun ls hl => ?_)
  refine lv_aload_n b.1 b.2.1 dL_law_760 rfl (lv_at hl 3 rfl) ?_
  refine lv_aload_n b.1 b.2.1 dL_law_761 rfl (lv_at hl 1 rfl) ?_
  refine lv_iload b.1 b.2.1 dL_law_762 (lv_at hl 5 rfl) ?_
  refine lv_iconst (v := Int32.ofInt 1) b.1 b.2.1 dL_law_764 rfl ?_
  refine lx_iadd b dL_law_765 ?_
  refine lx_sld (q := i + 1) b hX hbl hZ hH hlo (w32_of (by omega) (by omega)) (by omega) dL_law_766 ?_
  have R2 := R_M_letters Z ((xs (i + 1)).toInt) J _ _ h2
  have hc2 : cle J K := R2.1
  refine lx_callV (n := 1) (As := [vi (xs (i + 1)).toInt]) (rest := []) b hfl hl.1 hH R2 ⟨(lw_in 2136 (by decide +kernel) (by decide +kernel)), (lw_in 2134 (by decide +kernel) (by decide +kernel)), (lw_in 2135 (by decide +kernel) (by decide +kernel)), (lw_in 153 (by decide +kernel) (by decide +kernel)), by decide +kernel⟩ (fun gr => ob_26) rfl rfl ⟨Nat.le_of_ble_eq_true rfl, Nat.le_of_ble_eq_true rfl⟩ (Nat.le_of_ble_eq_true rfl) ⟨show c0 + dC I J + dC J K ≤ 600002 by have q1 := dC_add hc1 hc2; have q2 := dC_self K; omega, show s0 + dS I J + dS J K ≤ 7302232 by have q1 := dC_add hc1 hc2; have q2 := dC_self K; omega⟩ (lw_in 2133 (by decide +kernel) (by decide +kernel)) hlo dL_law_767 (fun H locs hH hlo => ?_)
  refine lv_istore (lv' := [(6, vi r2), (5, vi r1), (0, .ref b0), (1, vr Z 0 0), (2, vr Z 26 0), (3, vr Z 29 0), (4, vi (i : Int))]) b.1 b.2.1 dL_law_770 hl (by decide) rfl (fun ls hl => ?_)
  refine lv_aload_n b.1 b.2.1 dL_law_772 rfl (lv_at hl 4 rfl) ?_
  have R3 := R_M_thrown Z K _ _ (rfl : f_M_thrown K = some (K 26 0 7, K))
  refine lx_callV (n := 0) (As := []) (rest := []) b hfl hl.1 hH R3 ⟨(lw_in 1767 (by decide +kernel) (by decide +kernel)), (lw_in 1765 (by decide +kernel) (by decide +kernel)), (lw_in 1766 (by decide +kernel) (by decide +kernel)), (lw_in 153 (by decide +kernel) (by decide +kernel)), by decide +kernel⟩ (fun gr => ob_26) rfl rfl ⟨Nat.le_of_ble_eq_true rfl, Nat.le_of_ble_eq_true rfl⟩ (Nat.le_of_ble_eq_true rfl) ⟨show c0 + dC I J + dC J K + dC K K ≤ 600002 by have q1 := dC_add hc1 hc2; have q2 := dC_self K; omega, show s0 + dS I J + dS J K + dS K K ≤ 7302232 by have q1 := dC_add hc1 hc2; have q2 := dC_self K; omega⟩ (lw_in 1764 (by decide +kernel) (by decide +kernel)) hlo dL_law_773 (fun H locs hH hlo => ?_)
  refine lv_iload b.1 b.2.1 dL_law_776 (lv_at hl 1 rfl) ?_
  refine lx_eq (tgt := 783) b h3 dL_law_778 (by decide) ?_
  refine lv_iload b.1 b.2.1 dL_law_783 (lv_at hl 1 rfl) ?_
  refine lx_ifne (tgt := 800) b dL_law_785 (by decide) (fun z1 => ?_) (fun z1 => ?_)
  · skip
    refine lv_goto (tgt := 1888) b.1 b.2.1 dL_law_800 (by decide) ?_
    refine W.widen (k := c0 + dC I K) (n := s0 + dS I K) (show c0 + dC I J + dC J K + dC K K ≤ c0 + dC I K by have q1 := dC_add hc1 hc2; have q2 := dC_self K; omega) (show s0 + dS I J + dS J K + dS K K ≤ s0 + dS I K by have q1 := dC_add hc1 hc2; have q2 := dC_self K; omega) ?_
    exact kk H locs ls hH hlo (lv_sub hl [2, 3, 4, 5, 6] rfl)
  · skip
    refine lv_aload_n b.1 b.2.1 dL_law_788 rfl (lv_at hl 5 rfl) ?_
    refine lv_iconst (v := Int32.ofInt 0) b.1 b.2.1 dL_law_789 rfl ?_
    refine lx_lald b hH dL_law_790 ?_
    refine lv_iload b.1 b.2.1 dL_law_791 (lv_at hl 0 rfl) ?_
    refine lx_i2l b dL_law_793 ?_
    refine lx_lcmp b (h4 z1) dL_law_794 ?_
    refine lx_ifeq (x := 0) (tgt := 800) b dL_law_795 (by decide) (fun _ => ?_) (fun z => absurd (by decide) z)
    refine lv_goto (tgt := 1888) b.1 b.2.1 dL_law_800 (by decide) ?_
    refine W.widen (k := c0 + dC I K) (n := s0 + dS I K) (show c0 + dC I J + dC J K + dC K K ≤ c0 + dC I K by have q1 := dC_add hc1 hc2; have q2 := dC_self K; omega) (show s0 + dS I J + dS J K + dS K K ≤ s0 + dS I K by have q1 := dC_add hc1 hc2; have q2 := dC_self K; omega) ?_
    exact kk H locs ls hH hlo (lv_sub hl [2, 3, 4, 5, 6] rfl)
set_option maxRecDepth 20000 in
set_option maxHeartbeats 4000000 in
theorem LC_12 {p : Program} {l : Launch} {e : Env} {s : State} {m : MethodId} {args : Array Value} {below : List Frame} {meth : Method} {c : Code} {H : Heap} {locs : List Loc} {c0 s0 : Nat} {Q : State → Prop} {ls : Array Slot} {Z : ZT} {I : Mem} {b0 L i : Nat} {xs : Nat → Int32} (b : BB p s m args c RL cL_law 9 Z) (hfl : l.stackTraces = false) (hX : va_X b0 L xs s s.heap) (hbl : b0 < s.heap.size) (hZ : zB Z = s.heap.size ∧ zH Z = s.heap) (hi : i + 6 ≤ L) (hL : L < 100000) (hH : HH Z I H) (hlo : ∀ q ∈ locs, zN Z q.base) (hl : lv_has ls 9 [(0, .ref b0), (1, vr Z 0 0), (2, vr Z 26 0), (3, vr Z 29 0), (4, vi (i : Int))]) {r1 : Int} {r2 : Int} {J K : Mem} (h1 : f_L_account ((xs (i + 1)).toInt) I = some (r1, J)) (h2 : f_M_account ((xs (i + 1)).toInt) J = some (r2, K)) (h3 : w32 (K 26 0 7) = w32 r1) (h4 : w32 r1 = 0 → w64 (K 29 0 0) = w64 (w32 r2)) (hmc : c0 + dC I K ≤ 600002) (hms : s0 + dS I K ≤ 7302232)
    (kk : ∀ (H : Heap) (locs : List Loc) (ls : Array Slot), HH Z K H → (∀ q ∈ locs, zN Z q.base) → lv_has ls 9 [(0, .ref b0), (1, vr Z 0 0), (2, vr Z 26 0), (3, vr Z 29 0), (4, vi (i : Int))] → W p l e room_1 s m args below meth c H locs (c0 + dC I K) (s0 + dS I K) Q (F0 m 1888 ls [])) : W p l e room_1 s m args below meth c H locs c0 s0 Q (F0 m 803 ls []) := by
  have hcK : cle J K := (R_M_account Z ((xs (i + 1)).toInt) J _ _ h2).1
  refine lv_aload_n b.1 b.2.1 dL_law_803 rfl (lv_at hl 1 rfl) ?_
  refine lv_aload_n b.1 b.2.1 dL_law_804 rfl (lv_at hl 0 rfl) ?_
  refine lv_iload b.1 b.2.1 dL_law_805 (lv_at hl 4 rfl) ?_
  refine lv_iconst (v := Int32.ofInt 1) b.1 b.2.1 dL_law_807 rfl ?_
  refine lx_iadd b dL_law_808 ?_
  refine lx_sld (q := i + 1) b hX hbl hZ hH hlo (w32_of (by omega) (by omega)) (by omega) dL_law_809 ?_
  refine lv_aload_n b.1 b.2.1 dL_law_810 rfl (lv_at hl 3 rfl) ?_
  have R1 := R_L_account Z ((xs (i + 1)).toInt) I _ _ h1
  have hc1 : cle I J := R1.1
  refine lx_callS (n := 3) (As := [vr Z 0 0, vi (xs (i + 1)).toInt, vr Z 29 0]) (rest := []) b hfl hl.1 hH R1 (lw_in 1438 (by decide +kernel) (by decide +kernel)) (lw_in 1437 (by decide +kernel) (by decide +kernel)) (lw_in 137 (by decide +kernel) (by decide +kernel)) (by decide +kernel) rfl rfl ⟨Nat.le_of_ble_eq_true rfl, Nat.le_of_ble_eq_true rfl⟩ (Nat.le_of_ble_eq_true rfl) ⟨show c0 + dC I J ≤ 600002 by have q1 := dC_add hc1 hcK; have q2 := dC_self K; omega, show s0 + dS I J ≤ 7302232 by have q1 := dC_add hc1 hcK; have q2 := dC_self K; omega⟩ (lw_in 1436 (by decide +kernel) (by decide +kernel)) hlo dL_law_811 (fun H locs hH hlo => ?_)
  refine lv_istore (lv' := [(5, vi r1), (0, .ref b0), (1, vr Z 0 0), (2, vr Z 26 0), (3, vr Z 29 0), (4, vi (i : Int))]) b.1 b.2.1 dL_law_814 hl (by decide) rfl (fun ls hl => ?_)
  refine lv_aload_n b.1 b.2.1 dL_law_816 rfl (lv_at hl 3 rfl) ?_
  refine lv_aload_n b.1 b.2.1 dL_law_817 rfl (lv_at hl 1 rfl) ?_
  refine lv_iload b.1 b.2.1 dL_law_818 (lv_at hl 5 rfl) ?_
  refine lv_iconst (v := Int32.ofInt 1) b.1 b.2.1 dL_law_820 rfl ?_
  refine lx_iadd b dL_law_821 ?_
  refine lx_sld (q := i + 1) b hX hbl hZ hH hlo (w32_of (by omega) (by omega)) (by omega) dL_law_822 ?_
  have R2 := R_M_account Z ((xs (i + 1)).toInt) J _ _ h2
  have hc2 : cle J K := R2.1
  refine lx_callV (n := 1) (As := [vi (xs (i + 1)).toInt]) (rest := []) b hfl hl.1 hH R2 ⟨(lw_in 2144 (by decide +kernel) (by decide +kernel)), (lw_in 2142 (by decide +kernel) (by decide +kernel)), (lw_in 2143 (by decide +kernel) (by decide +kernel)), (lw_in 153 (by decide +kernel) (by decide +kernel)), by decide +kernel⟩ (fun gr => ob_26) rfl rfl ⟨Nat.le_of_ble_eq_true rfl, Nat.le_of_ble_eq_true rfl⟩ (Nat.le_of_ble_eq_true rfl) ⟨show c0 + dC I J + dC J K ≤ 600002 by have q1 := dC_add hc1 hc2; have q2 := dC_self K; omega, show s0 + dS I J + dS J K ≤ 7302232 by have q1 := dC_add hc1 hc2; have q2 := dC_self K; omega⟩ (lw_in 2141 (by decide +kernel) (by decide +kernel)) hlo dL_law_823 (fun H locs hH hlo => ?_)
  refine lv_istore (lv' := [(6, vi r2), (5, vi r1), (0, .ref b0), (1, vr Z 0 0), (2, vr Z 26 0), (3, vr Z 29 0), (4, vi (i : Int))]) b.1 b.2.1 dL_law_826 hl (by decide) rfl (fun ls hl => ?_)
  refine lv_aload_n b.1 b.2.1 dL_law_828 rfl (lv_at hl 4 rfl) ?_
  have R3 := R_M_thrown Z K _ _ (rfl : f_M_thrown K = some (K 26 0 7, K))
  refine lx_callV (n := 0) (As := []) (rest := []) b hfl hl.1 hH R3 ⟨(lw_in 1767 (by decide +kernel) (by decide +kernel)), (lw_in 1765 (by decide +kernel) (by decide +kernel)), (lw_in 1766 (by decide +kernel) (by decide +kernel)), (lw_in 153 (by decide +kernel) (by decide +kernel)), by decide +kernel⟩ (fun gr => ob_26) rfl rfl ⟨Nat.le_of_ble_eq_true rfl, Nat.le_of_ble_eq_true rfl⟩ (Nat.le_of_ble_eq_true rfl) ⟨show c0 + dC I J + dC J K + dC K K ≤ 600002 by have q1 := dC_add hc1 hc2; have q2 := dC_self K; omega, show s0 + dS I J + dS J K + dS K K ≤ 7302232 by have q1 := dC_add hc1 hc2; have q2 := dC_self K; omega⟩ (lw_in 1764 (by decide +kernel) (by decide +kernel)) hlo dL_law_829 (fun H locs hH hlo => ?_)
  refine lv_iload b.1 b.2.1 dL_law_832 (lv_at hl 1 rfl) ?_
  refine lx_eq (tgt := 839) b h3 dL_law_834 (by decide) ?_
  refine lv_iload b.1 b.2.1 dL_law_839 (lv_at hl 1 rfl) ?_
  refine lx_ifne (tgt := 856) b dL_law_841 (by decide) (fun z1 => ?_) (fun z1 => ?_)
  · skip
    refine lv_goto (tgt := 1888) b.1 b.2.1 dL_law_856 (by decide) ?_
    refine W.widen (k := c0 + dC I K) (n := s0 + dS I K) (show c0 + dC I J + dC J K + dC K K ≤ c0 + dC I K by have q1 := dC_add hc1 hc2; have q2 := dC_self K; omega) (show s0 + dS I J + dS J K + dS K K ≤ s0 + dS I K by have q1 := dC_add hc1 hc2; have q2 := dC_self K; omega) ?_
    exact kk H locs ls hH hlo (lv_sub hl [2, 3, 4, 5, 6] rfl)
  · skip
    refine lv_aload_n b.1 b.2.1 dL_law_844 rfl (lv_at hl 5 rfl) ?_
    refine lv_iconst (v := Int32.ofInt 0) b.1 b.2.1 dL_law_845 rfl ?_
    refine lx_lald b hH dL_law_846 ?_
    refine lv_iload b.1 b.2.1 dL_law_847 (lv_at hl 0 rfl) ?_
    refine lx_i2l b dL_law_849 ?_
    refine lx_lcmp b (h4 z1) dL_law_850 ?_
    refine lx_ifeq (x := 0) (tgt := 856) b dL_law_851 (by decide) (fun _ => ?_) (fun z => absurd (by decide) z)
    refine lv_goto (tgt := 1888) b.1 b.2.1 dL_law_856 (by decide) ?_
    refine W.widen (k := c0 + dC I K) (n := s0 + dS I K) (show c0 + dC I J + dC J K + dC K K ≤ c0 + dC I K by have q1 := dC_add hc1 hc2; have q2 := dC_self K; omega) (show s0 + dS I J + dS J K + dS K K ≤ s0 + dS I K by have q1 := dC_add hc1 hc2; have q2 := dC_self K; omega) ?_
    exact kk H locs ls hH hlo (lv_sub hl [2, 3, 4, 5, 6] rfl)
set_option maxRecDepth 20000 in
set_option maxHeartbeats 4000000 in
theorem LC_13 {p : Program} {l : Launch} {e : Env} {s : State} {m : MethodId} {args : Array Value} {below : List Frame} {meth : Method} {c : Code} {H : Heap} {locs : List Loc} {c0 s0 : Nat} {Q : State → Prop} {ls : Array Slot} {Z : ZT} {I : Mem} {b0 L i : Nat} {xs : Nat → Int32} (b : BB p s m args c RL cL_law 9 Z) (hfl : l.stackTraces = false) (hX : va_X b0 L xs s s.heap) (hbl : b0 < s.heap.size) (hZ : zB Z = s.heap.size ∧ zH Z = s.heap) (hi : i + 6 ≤ L) (hL : L < 100000) (hH : HH Z I H) (hlo : ∀ q ∈ locs, zN Z q.base) (hl : lv_has ls 9 [(0, .ref b0), (1, vr Z 0 0), (2, vr Z 26 0), (3, vr Z 29 0), (4, vi (i : Int))]) {r1 : Int} {r2 : Int} {J K : Mem} (h1 : f_PR_gap  I = some (r1, J)) (h2 : f_M_gap  J = some (r2, K)) (h3 : w32 r1 = w32 r2) (hmc : c0 + dC I K ≤ 600002) (hms : s0 + dS I K ≤ 7302232)
    (kk : ∀ (H : Heap) (locs : List Loc) (ls : Array Slot), HH Z K H → (∀ q ∈ locs, zN Z q.base) → lv_has ls 9 [(0, .ref b0), (1, vr Z 0 0), (2, vr Z 26 0), (3, vr Z 29 0), (4, vi (i : Int))] → W p l e room_1 s m args below meth c H locs (c0 + dC I K) (s0 + dS I K) Q (F0 m 1888 ls [])) : W p l e room_1 s m args below meth c H locs c0 s0 Q (F0 m 859 ls []) := by
  have hcK : cle J K := (R_M_gap Z  J _ _ h2).1
  refine lv_aload_n b.1 b.2.1 dL_law_859 rfl (lv_at hl 1 rfl) ?_
  have R1 := R_PR_gap Z  I _ _ h1
  have hc1 : cle I J := R1.1
  refine lx_callV (n := 0) (As := []) (rest := []) b hfl hl.1 hH R1 ⟨(lw_in 1106 (by decide +kernel) (by decide +kernel)), (lw_in 1104 (by decide +kernel) (by decide +kernel)), (lw_in 1105 (by decide +kernel) (by decide +kernel)), (lw_in 138 (by decide +kernel) (by decide +kernel)), by decide +kernel⟩ (fun gr => ob_0) rfl rfl ⟨Nat.le_of_ble_eq_true rfl, Nat.le_of_ble_eq_true rfl⟩ (Nat.le_of_ble_eq_true rfl) ⟨show c0 + dC I J ≤ 600002 by have q1 := dC_add hc1 hcK; have q2 := dC_self K; omega, show s0 + dS I J ≤ 7302232 by have q1 := dC_add hc1 hcK; have q2 := dC_self K; omega⟩ (lw_in 1103 (by decide +kernel) (by decide +kernel)) hlo dL_law_860 (fun H locs hH hlo => ?_)
  refine lv_aload_n b.1 b.2.1 dL_law_863 rfl (lv_at hl 2 rfl) ?_
  have R2 := R_M_gap Z  J _ _ h2
  have hc2 : cle J K := R2.1
  refine lx_callV (n := 0) (As := []) (rest := [vi r1]) b hfl hl.1 hH R2 ⟨(lw_in 2148 (by decide +kernel) (by decide +kernel)), (lw_in 2146 (by decide +kernel) (by decide +kernel)), (lw_in 2147 (by decide +kernel) (by decide +kernel)), (lw_in 153 (by decide +kernel) (by decide +kernel)), by decide +kernel⟩ (fun gr => ob_26) rfl rfl ⟨Nat.le_of_ble_eq_true rfl, Nat.le_of_ble_eq_true rfl⟩ (Nat.le_of_ble_eq_true rfl) ⟨show c0 + dC I J + dC J K ≤ 600002 by have q1 := dC_add hc1 hc2; have q2 := dC_self K; omega, show s0 + dS I J + dS J K ≤ 7302232 by have q1 := dC_add hc1 hc2; have q2 := dC_self K; omega⟩ (lw_in 2145 (by decide +kernel) (by decide +kernel)) hlo dL_law_864 (fun H locs hH hlo => ?_)
  refine lx_eq (tgt := 1888) b h3 dL_law_867 (by decide) ?_
  refine W.widen (k := c0 + dC I K) (n := s0 + dS I K) (show c0 + dC I J + dC J K ≤ c0 + dC I K by have q1 := dC_add hc1 hc2; have q2 := dC_self K; omega) (show s0 + dS I J + dS J K ≤ s0 + dS I K by have q1 := dC_add hc1 hc2; have q2 := dC_self K; omega) ?_
  exact kk H locs ls hH hlo (lv_sub hl [0, 1, 2, 3, 4] rfl)
set_option maxRecDepth 20000 in
set_option maxHeartbeats 4000000 in
theorem LC_14 {p : Program} {l : Launch} {e : Env} {s : State} {m : MethodId} {args : Array Value} {below : List Frame} {meth : Method} {c : Code} {H : Heap} {locs : List Loc} {c0 s0 : Nat} {Q : State → Prop} {ls : Array Slot} {Z : ZT} {I : Mem} {b0 L i : Nat} {xs : Nat → Int32} (b : BB p s m args c RL cL_law 9 Z) (hfl : l.stackTraces = false) (hX : va_X b0 L xs s s.heap) (hbl : b0 < s.heap.size) (hZ : zB Z = s.heap.size ∧ zH Z = s.heap) (hi : i + 6 ≤ L) (hL : L < 100000) (hH : HH Z I H) (hlo : ∀ q ∈ locs, zN Z q.base) (hl : lv_has ls 9 [(0, .ref b0), (1, vr Z 0 0), (2, vr Z 26 0), (3, vr Z 29 0), (4, vi (i : Int))]) {r1 : Int} {r2 : Int} {J K : Mem} (h1 : f_PR_rulesGap  I = some (r1, J)) (h2 : f_M_rulesGap  J = some (r2, K)) (h3 : w32 r1 = w32 r2) (hmc : c0 + dC I K ≤ 600002) (hms : s0 + dS I K ≤ 7302232)
    (kk : ∀ (H : Heap) (locs : List Loc) (ls : Array Slot), HH Z K H → (∀ q ∈ locs, zN Z q.base) → lv_has ls 9 [(0, .ref b0), (1, vr Z 0 0), (2, vr Z 26 0), (3, vr Z 29 0), (4, vi (i : Int))] → W p l e room_1 s m args below meth c H locs (c0 + dC I K) (s0 + dS I K) Q (F0 m 1888 ls [])) : W p l e room_1 s m args below meth c H locs c0 s0 Q (F0 m 872 ls []) := by
  have hcK : cle J K := (R_M_rulesGap Z  J _ _ h2).1
  refine lv_aload_n b.1 b.2.1 dL_law_872 rfl (lv_at hl 1 rfl) ?_
  have R1 := R_PR_rulesGap Z  I _ _ h1
  have hc1 : cle I J := R1.1
  refine lx_callV (n := 0) (As := []) (rest := []) b hfl hl.1 hH R1 ⟨(lw_in 1123 (by decide +kernel) (by decide +kernel)), (lw_in 1121 (by decide +kernel) (by decide +kernel)), (lw_in 1122 (by decide +kernel) (by decide +kernel)), (lw_in 138 (by decide +kernel) (by decide +kernel)), by decide +kernel⟩ (fun gr => ob_0) rfl rfl ⟨Nat.le_of_ble_eq_true rfl, Nat.le_of_ble_eq_true rfl⟩ (Nat.le_of_ble_eq_true rfl) ⟨show c0 + dC I J ≤ 600002 by have q1 := dC_add hc1 hcK; have q2 := dC_self K; omega, show s0 + dS I J ≤ 7302232 by have q1 := dC_add hc1 hcK; have q2 := dC_self K; omega⟩ (lw_in 1120 (by decide +kernel) (by decide +kernel)) hlo dL_law_873 (fun H locs hH hlo => ?_)
  refine lv_aload_n b.1 b.2.1 dL_law_876 rfl (lv_at hl 2 rfl) ?_
  have R2 := R_M_rulesGap Z  J _ _ h2
  have hc2 : cle J K := R2.1
  refine lx_callV (n := 0) (As := []) (rest := [vi r1]) b hfl hl.1 hH R2 ⟨(lw_in 2155 (by decide +kernel) (by decide +kernel)), (lw_in 2153 (by decide +kernel) (by decide +kernel)), (lw_in 2154 (by decide +kernel) (by decide +kernel)), (lw_in 153 (by decide +kernel) (by decide +kernel)), by decide +kernel⟩ (fun gr => ob_26) rfl rfl ⟨Nat.le_of_ble_eq_true rfl, Nat.le_of_ble_eq_true rfl⟩ (Nat.le_of_ble_eq_true rfl) ⟨show c0 + dC I J + dC J K ≤ 600002 by have q1 := dC_add hc1 hc2; have q2 := dC_self K; omega, show s0 + dS I J + dS J K ≤ 7302232 by have q1 := dC_add hc1 hc2; have q2 := dC_self K; omega⟩ (lw_in 2152 (by decide +kernel) (by decide +kernel)) hlo dL_law_877 (fun H locs hH hlo => ?_)
  refine lx_eq (tgt := 1888) b h3 dL_law_880 (by decide) ?_
  refine W.widen (k := c0 + dC I K) (n := s0 + dS I K) (show c0 + dC I J + dC J K ≤ c0 + dC I K by have q1 := dC_add hc1 hc2; have q2 := dC_self K; omega) (show s0 + dS I J + dS J K ≤ s0 + dS I K by have q1 := dC_add hc1 hc2; have q2 := dC_self K; omega) ?_
  exact kk H locs ls hH hlo (lv_sub hl [0, 1, 2, 3, 4] rfl)
set_option maxRecDepth 20000 in
set_option maxHeartbeats 4000000 in
theorem LC_15 {p : Program} {l : Launch} {e : Env} {s : State} {m : MethodId} {args : Array Value} {below : List Frame} {meth : Method} {c : Code} {H : Heap} {locs : List Loc} {c0 s0 : Nat} {Q : State → Prop} {ls : Array Slot} {Z : ZT} {I : Mem} {b0 L i : Nat} {xs : Nat → Int32} (b : BB p s m args c RL cL_law 9 Z) (hfl : l.stackTraces = false) (hX : va_X b0 L xs s s.heap) (hbl : b0 < s.heap.size) (hZ : zB Z = s.heap.size ∧ zH Z = s.heap) (hi : i + 6 ≤ L) (hL : L < 100000) (hH : HH Z I H) (hlo : ∀ q ∈ locs, zN Z q.base) (hl : lv_has ls 9 [(0, .ref b0), (1, vr Z 0 0), (2, vr Z 26 0), (3, vr Z 29 0), (4, vi (i : Int))]) {r1 : UInt64} {r2 : UInt64} {J K : Mem} (h1 : f_PR_ratio  I = some (r1, J)) (h2 : f_M_ratio  J = some (r2, K)) (h3 : Op.cmpValue (FP.dcmp r1 r2) .l = Int32.ofInt 0) (hmc : c0 + dC I K ≤ 600002) (hms : s0 + dS I K ≤ 7302232)
    (kk : ∀ (H : Heap) (locs : List Loc) (ls : Array Slot), HH Z K H → (∀ q ∈ locs, zN Z q.base) → lv_has ls 9 [(0, .ref b0), (1, vr Z 0 0), (2, vr Z 26 0), (3, vr Z 29 0), (4, vi (i : Int))] → W p l e room_1 s m args below meth c H locs (c0 + dC I K) (s0 + dS I K) Q (F0 m 1888 ls [])) : W p l e room_1 s m args below meth c H locs c0 s0 Q (F0 m 885 ls []) := by
  have hcK : cle J K := (R_M_ratio Z  J _ _ h2).1
  refine lv_aload_n b.1 b.2.1 dL_law_885 rfl (lv_at hl 1 rfl) ?_
  have R1 := R_PR_ratio Z  I _ _ h1
  have hc1 : cle I J := R1.1
  refine lx_callV (n := 0) (As := []) (rest := []) b hfl hl.1 hH R1 ⟨(lw_in 1136 (by decide +kernel) (by decide +kernel)), (lw_in 1134 (by decide +kernel) (by decide +kernel)), (lw_in 1135 (by decide +kernel) (by decide +kernel)), (lw_in 138 (by decide +kernel) (by decide +kernel)), by decide +kernel⟩ (fun gr => ob_0) rfl rfl ⟨Nat.le_of_ble_eq_true rfl, Nat.le_of_ble_eq_true rfl⟩ (Nat.le_of_ble_eq_true rfl) ⟨show c0 + dC I J ≤ 600002 by have q1 := dC_add hc1 hcK; have q2 := dC_self K; omega, show s0 + dS I J ≤ 7302232 by have q1 := dC_add hc1 hcK; have q2 := dC_self K; omega⟩ (lw_in 1133 (by decide +kernel) (by decide +kernel)) hlo dL_law_886 (fun H locs hH hlo => ?_)
  refine lv_dstore (lv' := [(5, .double r1), (0, .ref b0), (1, vr Z 0 0), (2, vr Z 26 0), (3, vr Z 29 0), (4, vi (i : Int))]) b.1 b.2.1 dL_law_889 hl (by decide) rfl (fun ls hl => ?_)
  refine lv_aload_n b.1 b.2.1 dL_law_891 rfl (lv_at hl 3 rfl) ?_
  have R2 := R_M_ratio Z  J _ _ h2
  have hc2 : cle J K := R2.1
  refine lx_callV (n := 0) (As := []) (rest := []) b hfl hl.1 hH R2 ⟨(lw_in 2159 (by decide +kernel) (by decide +kernel)), (lw_in 2157 (by decide +kernel) (by decide +kernel)), (lw_in 2158 (by decide +kernel) (by decide +kernel)), (lw_in 153 (by decide +kernel) (by decide +kernel)), by decide +kernel⟩ (fun gr => ob_26) rfl rfl ⟨Nat.le_of_ble_eq_true rfl, Nat.le_of_ble_eq_true rfl⟩ (Nat.le_of_ble_eq_true rfl) ⟨show c0 + dC I J + dC J K ≤ 600002 by have q1 := dC_add hc1 hc2; have q2 := dC_self K; omega, show s0 + dS I J + dS J K ≤ 7302232 by have q1 := dC_add hc1 hc2; have q2 := dC_self K; omega⟩ (lw_in 2156 (by decide +kernel) (by decide +kernel)) hlo dL_law_892 (fun H locs hH hlo => ?_)
  refine lv_dstore (lv' := [(7, .double r2), (5, .double r1), (0, .ref b0), (1, vr Z 0 0), (2, vr Z 26 0), (3, vr Z 29 0), (4, vi (i : Int))]) b.1 b.2.1 dL_law_895 hl (by decide) rfl (fun ls hl => ?_)
  refine lv_dload b.1 b.2.1 dL_law_897 (lv_at hl 1 rfl) ?_
  refine lv_dload b.1 b.2.1 dL_law_899 (lv_at hl 0 rfl) ?_
  refine lv_dcmp b.1 b.2.1 dL_law_901 ?_
  rw [h3]
  refine lx_ifeq (x := 0) (tgt := 923) b dL_law_902 (by decide) (fun _ => ?_) (fun z => absurd (by decide) z)
  refine lv_goto (tgt := 1888) b.1 b.2.1 dL_law_923 (by decide) ?_
  refine W.widen (k := c0 + dC I K) (n := s0 + dS I K) (show c0 + dC I J + dC J K ≤ c0 + dC I K by have q1 := dC_add hc1 hc2; have q2 := dC_self K; omega) (show s0 + dS I J + dS J K ≤ s0 + dS I K by have q1 := dC_add hc1 hc2; have q2 := dC_self K; omega) ?_
  exact kk H locs ls hH hlo (lv_sub hl [2, 3, 4, 5, 6] rfl)
set_option maxRecDepth 20000 in
set_option maxHeartbeats 4000000 in
theorem LC_16 {p : Program} {l : Launch} {e : Env} {s : State} {m : MethodId} {args : Array Value} {below : List Frame} {meth : Method} {c : Code} {H : Heap} {locs : List Loc} {c0 s0 : Nat} {Q : State → Prop} {ls : Array Slot} {Z : ZT} {I : Mem} {b0 L i : Nat} {xs : Nat → Int32} (b : BB p s m args c RL cL_law 9 Z) (hfl : l.stackTraces = false) (hX : va_X b0 L xs s s.heap) (hbl : b0 < s.heap.size) (hZ : zB Z = s.heap.size ∧ zH Z = s.heap) (hi : i + 6 ≤ L) (hL : L < 100000) (hH : HH Z I H) (hlo : ∀ q ∈ locs, zN Z q.base) (hl : lv_has ls 9 [(0, .ref b0), (1, vr Z 0 0), (2, vr Z 26 0), (3, vr Z 29 0), (4, vi (i : Int))]) {r1 : Int} {r2 : Int} {J K : Mem} (h1 : f_PR_meanBits  I = some (r1, J)) (h2 : f_M_meanBits  J = some (r2, K)) (h3 : w32 r1 = w32 r2) (hmc : c0 + dC I K ≤ 600002) (hms : s0 + dS I K ≤ 7302232)
    (kk : ∀ (H : Heap) (locs : List Loc) (ls : Array Slot), HH Z K H → (∀ q ∈ locs, zN Z q.base) → lv_has ls 9 [(0, .ref b0), (1, vr Z 0 0), (2, vr Z 26 0), (3, vr Z 29 0), (4, vi (i : Int))] → W p l e room_1 s m args below meth c H locs (c0 + dC I K) (s0 + dS I K) Q (F0 m 1888 ls [])) : W p l e room_1 s m args below meth c H locs c0 s0 Q (F0 m 926 ls []) := by
  have hcK : cle J K := (R_M_meanBits Z  J _ _ h2).1
  refine lv_aload_n b.1 b.2.1 dL_law_926 rfl (lv_at hl 1 rfl) ?_
  have R1 := R_PR_meanBits Z  I _ _ h1
  have hc1 : cle I J := R1.1
  refine lx_callV (n := 0) (As := []) (rest := []) b hfl hl.1 hH R1 ⟨(lw_in 1144 (by decide +kernel) (by decide +kernel)), (lw_in 1142 (by decide +kernel) (by decide +kernel)), (lw_in 1143 (by decide +kernel) (by decide +kernel)), (lw_in 138 (by decide +kernel) (by decide +kernel)), by decide +kernel⟩ (fun gr => ob_0) rfl rfl ⟨Nat.le_of_ble_eq_true rfl, Nat.le_of_ble_eq_true rfl⟩ (Nat.le_of_ble_eq_true rfl) ⟨show c0 + dC I J ≤ 600002 by have q1 := dC_add hc1 hcK; have q2 := dC_self K; omega, show s0 + dS I J ≤ 7302232 by have q1 := dC_add hc1 hcK; have q2 := dC_self K; omega⟩ (lw_in 1141 (by decide +kernel) (by decide +kernel)) hlo dL_law_927 (fun H locs hH hlo => ?_)
  refine lv_aload_n b.1 b.2.1 dL_law_930 rfl (lv_at hl 2 rfl) ?_
  have R2 := R_M_meanBits Z  J _ _ h2
  have hc2 : cle J K := R2.1
  refine lx_callV (n := 0) (As := []) (rest := [vi r1]) b hfl hl.1 hH R2 ⟨(lw_in 2163 (by decide +kernel) (by decide +kernel)), (lw_in 2161 (by decide +kernel) (by decide +kernel)), (lw_in 2162 (by decide +kernel) (by decide +kernel)), (lw_in 153 (by decide +kernel) (by decide +kernel)), by decide +kernel⟩ (fun gr => ob_26) rfl rfl ⟨Nat.le_of_ble_eq_true rfl, Nat.le_of_ble_eq_true rfl⟩ (Nat.le_of_ble_eq_true rfl) ⟨show c0 + dC I J + dC J K ≤ 600002 by have q1 := dC_add hc1 hc2; have q2 := dC_self K; omega, show s0 + dS I J + dS J K ≤ 7302232 by have q1 := dC_add hc1 hc2; have q2 := dC_self K; omega⟩ (lw_in 2160 (by decide +kernel) (by decide +kernel)) hlo dL_law_931 (fun H locs hH hlo => ?_)
  refine lx_eq (tgt := 1888) b h3 dL_law_934 (by decide) ?_
  refine W.widen (k := c0 + dC I K) (n := s0 + dS I K) (show c0 + dC I J + dC J K ≤ c0 + dC I K by have q1 := dC_add hc1 hc2; have q2 := dC_self K; omega) (show s0 + dS I J + dS J K ≤ s0 + dS I K by have q1 := dC_add hc1 hc2; have q2 := dC_self K; omega) ?_
  exact kk H locs ls hH hlo (lv_sub hl [0, 1, 2, 3, 4] rfl)
set_option maxRecDepth 20000 in
set_option maxHeartbeats 4000000 in
theorem LC_17 {p : Program} {l : Launch} {e : Env} {s : State} {m : MethodId} {args : Array Value} {below : List Frame} {meth : Method} {c : Code} {H : Heap} {locs : List Loc} {c0 s0 : Nat} {Q : State → Prop} {ls : Array Slot} {Z : ZT} {I : Mem} {b0 L i : Nat} {xs : Nat → Int32} (b : BB p s m args c RL cL_law 9 Z) (hfl : l.stackTraces = false) (hX : va_X b0 L xs s s.heap) (hbl : b0 < s.heap.size) (hZ : zB Z = s.heap.size ∧ zH Z = s.heap) (hi : i + 6 ≤ L) (hL : L < 100000) (hH : HH Z I H) (hlo : ∀ q ∈ locs, zN Z q.base) (hl : lv_has ls 9 [(0, .ref b0), (1, vr Z 0 0), (2, vr Z 26 0), (3, vr Z 29 0), (4, vi (i : Int))]) {r1 : Int} {r2 : Int} {J K : Mem} (h1 : f_PR_digest  I = some (r1, J)) (h2 : f_M_digest  J = some (r2, K)) (h3 : w64 r1 = w64 r2) (hmc : c0 + dC I K ≤ 600002) (hms : s0 + dS I K ≤ 7302232)
    (kk : ∀ (H : Heap) (locs : List Loc) (ls : Array Slot), HH Z K H → (∀ q ∈ locs, zN Z q.base) → lv_has ls 9 [(0, .ref b0), (1, vr Z 0 0), (2, vr Z 26 0), (3, vr Z 29 0), (4, vi (i : Int))] → W p l e room_1 s m args below meth c H locs (c0 + dC I K) (s0 + dS I K) Q (F0 m 1888 ls [])) : W p l e room_1 s m args below meth c H locs c0 s0 Q (F0 m 939 ls []) := by
  have hcK : cle J K := (R_M_digest Z  J _ _ h2).1
  refine lv_aload_n b.1 b.2.1 dL_law_939 rfl (lv_at hl 1 rfl) ?_
  have R1 := R_PR_digest Z  I _ _ h1
  have hc1 : cle I J := R1.1
  refine lx_callV (n := 0) (As := []) (rest := []) b hfl hl.1 hH R1 ⟨(lw_in 1155 (by decide +kernel) (by decide +kernel)), (lw_in 1153 (by decide +kernel) (by decide +kernel)), (lw_in 1154 (by decide +kernel) (by decide +kernel)), (lw_in 138 (by decide +kernel) (by decide +kernel)), by decide +kernel⟩ (fun gr => ob_0) rfl rfl ⟨Nat.le_of_ble_eq_true rfl, Nat.le_of_ble_eq_true rfl⟩ (Nat.le_of_ble_eq_true rfl) ⟨show c0 + dC I J ≤ 600002 by have q1 := dC_add hc1 hcK; have q2 := dC_self K; omega, show s0 + dS I J ≤ 7302232 by have q1 := dC_add hc1 hcK; have q2 := dC_self K; omega⟩ (lw_in 1152 (by decide +kernel) (by decide +kernel)) hlo dL_law_940 (fun H locs hH hlo => ?_)
  refine lv_aload_n b.1 b.2.1 dL_law_943 rfl (lv_at hl 2 rfl) ?_
  have R2 := R_M_digest Z  J _ _ h2
  have hc2 : cle J K := R2.1
  refine lx_callV (n := 0) (As := []) (rest := [vl r1]) b hfl hl.1 hH R2 ⟨(lw_in 2177 (by decide +kernel) (by decide +kernel)), (lw_in 2175 (by decide +kernel) (by decide +kernel)), (lw_in 2176 (by decide +kernel) (by decide +kernel)), (lw_in 153 (by decide +kernel) (by decide +kernel)), by decide +kernel⟩ (fun gr => ob_26) rfl rfl ⟨Nat.le_of_ble_eq_true rfl, Nat.le_of_ble_eq_true rfl⟩ (Nat.le_of_ble_eq_true rfl) ⟨show c0 + dC I J + dC J K ≤ 600002 by have q1 := dC_add hc1 hc2; have q2 := dC_self K; omega, show s0 + dS I J + dS J K ≤ 7302232 by have q1 := dC_add hc1 hc2; have q2 := dC_self K; omega⟩ (lw_in 2174 (by decide +kernel) (by decide +kernel)) hlo dL_law_944 (fun H locs hH hlo => ?_)
  refine lx_lcmp b h3 dL_law_947 ?_
  refine lx_ifeq (x := 0) (tgt := 1888) b dL_law_948 (by decide) (fun _ => ?_) (fun z => absurd (by decide) z)
  refine W.widen (k := c0 + dC I K) (n := s0 + dS I K) (show c0 + dC I J + dC J K ≤ c0 + dC I K by have q1 := dC_add hc1 hc2; have q2 := dC_self K; omega) (show s0 + dS I J + dS J K ≤ s0 + dS I K by have q1 := dC_add hc1 hc2; have q2 := dC_self K; omega) ?_
  exact kk H locs ls hH hlo (lv_sub hl [0, 1, 2, 3, 4] rfl)
set_option maxRecDepth 20000 in
set_option maxHeartbeats 4000000 in
theorem LC_18 {p : Program} {l : Launch} {e : Env} {s : State} {m : MethodId} {args : Array Value} {below : List Frame} {meth : Method} {c : Code} {H : Heap} {locs : List Loc} {c0 s0 : Nat} {Q : State → Prop} {ls : Array Slot} {Z : ZT} {I : Mem} {b0 L i : Nat} {xs : Nat → Int32} (b : BB p s m args c RL cL_law 9 Z) (hfl : l.stackTraces = false) (hX : va_X b0 L xs s s.heap) (hbl : b0 < s.heap.size) (hZ : zB Z = s.heap.size ∧ zH Z = s.heap) (hi : i + 6 ≤ L) (hL : L < 100000) (hH : HH Z I H) (hlo : ∀ q ∈ locs, zN Z q.base) (hl : lv_has ls 9 [(0, .ref b0), (1, vr Z 0 0), (2, vr Z 26 0), (3, vr Z 29 0), (4, vi (i : Int))]) {r1 : Int} {r2 : Int} {J K : Mem} (h1 : f_L_count ((xs (i + 1)).toInt) ((xs (i + 2)).toInt) I = some (r1, J)) (h2 : f_M_count ((xs (i + 1)).toInt) ((xs (i + 2)).toInt) J = some (r2, K)) (h3 : w32 (K 26 0 7) = w32 r1) (h4 : w32 r1 = 0 → w64 (K 29 0 0) = w64 (w32 r2)) (hmc : c0 + dC I K ≤ 600002) (hms : s0 + dS I K ≤ 7302232)
    (kk : ∀ (H : Heap) (locs : List Loc) (ls : Array Slot), HH Z K H → (∀ q ∈ locs, zN Z q.base) → lv_has ls 9 [(0, .ref b0), (1, vr Z 0 0), (2, vr Z 26 0), (3, vr Z 29 0), (4, vi (i : Int))] → W p l e room_1 s m args below meth c H locs (c0 + dC I K) (s0 + dS I K) Q (F0 m 1888 ls [])) : W p l e room_1 s m args below meth c H locs c0 s0 Q (F0 m 953 ls []) := by
  have hcK : cle J K := (R_M_count Z ((xs (i + 1)).toInt) ((xs (i + 2)).toInt) J _ _ h2).1
  refine lv_aload_n b.1 b.2.1 dL_law_953 rfl (lv_at hl 1 rfl) ?_
  refine lv_aload_n b.1 b.2.1 dL_law_954 rfl (lv_at hl 0 rfl) ?_
  refine lv_iload b.1 b.2.1 dL_law_955 (lv_at hl 4 rfl) ?_
  refine lv_iconst (v := Int32.ofInt 1) b.1 b.2.1 dL_law_957 rfl ?_
  refine lx_iadd b dL_law_958 ?_
  refine lx_sld (q := i + 1) b hX hbl hZ hH hlo (w32_of (by omega) (by omega)) (by omega) dL_law_959 ?_
  refine lv_aload_n b.1 b.2.1 dL_law_960 rfl (lv_at hl 0 rfl) ?_
  refine lv_iload b.1 b.2.1 dL_law_961 (lv_at hl 4 rfl) ?_
  refine lv_iconst (v := Int32.ofInt 2) b.1 b.2.1 dL_law_963 rfl ?_
  refine lx_iadd b dL_law_964 ?_
  refine lx_sld (q := i + 2) b hX hbl hZ hH hlo (w32_of (by omega) (by omega)) (by omega) dL_law_965 ?_
  refine lv_aload_n b.1 b.2.1 dL_law_966 rfl (lv_at hl 3 rfl) ?_
  have R1 := R_L_count Z ((xs (i + 1)).toInt) ((xs (i + 2)).toInt) I _ _ h1
  have hc1 : cle I J := R1.1
  refine lx_callS (n := 4) (As := [vr Z 0 0, vi (xs (i + 1)).toInt, vi (xs (i + 2)).toInt, vr Z 29 0]) (rest := []) b hfl hl.1 hH R1 (lw_in 1445 (by decide +kernel) (by decide +kernel)) (lw_in 1444 (by decide +kernel) (by decide +kernel)) (lw_in 137 (by decide +kernel) (by decide +kernel)) (by decide +kernel) rfl rfl ⟨Nat.le_of_ble_eq_true rfl, Nat.le_of_ble_eq_true rfl⟩ (Nat.le_of_ble_eq_true rfl) ⟨show c0 + dC I J ≤ 600002 by have q1 := dC_add hc1 hcK; have q2 := dC_self K; omega, show s0 + dS I J ≤ 7302232 by have q1 := dC_add hc1 hcK; have q2 := dC_self K; omega⟩ (lw_in 1443 (by decide +kernel) (by decide +kernel)) hlo dL_law_967 (fun H locs hH hlo => ?_)
  refine lv_istore (lv' := [(5, vi r1), (0, .ref b0), (1, vr Z 0 0), (2, vr Z 26 0), (3, vr Z 29 0), (4, vi (i : Int))]) b.1 b.2.1 dL_law_970 hl (by decide) rfl (fun ls hl => ?_)
  refine lv_aload_n b.1 b.2.1 dL_law_972 rfl (lv_at hl 3 rfl) ?_
  refine lv_aload_n b.1 b.2.1 dL_law_973 rfl (lv_at hl 1 rfl) ?_
  refine lv_iload b.1 b.2.1 dL_law_974 (lv_at hl 5 rfl) ?_
  refine lv_iconst (v := Int32.ofInt 1) b.1 b.2.1 dL_law_976 rfl ?_
  refine lx_iadd b dL_law_977 ?_
  refine lx_sld (q := i + 1) b hX hbl hZ hH hlo (w32_of (by omega) (by omega)) (by omega) dL_law_978 ?_
  refine lv_aload_n b.1 b.2.1 dL_law_979 rfl (lv_at hl 1 rfl) ?_
  refine lv_iload b.1 b.2.1 dL_law_980 (lv_at hl 5 rfl) ?_
  refine lv_iconst (v := Int32.ofInt 2) b.1 b.2.1 dL_law_982 rfl ?_
  refine lx_iadd b dL_law_983 ?_
  refine lx_sld (q := i + 2) b hX hbl hZ hH hlo (w32_of (by omega) (by omega)) (by omega) dL_law_984 ?_
  have R2 := R_M_count Z ((xs (i + 1)).toInt) ((xs (i + 2)).toInt) J _ _ h2
  have hc2 : cle J K := R2.1
  refine lx_callV (n := 2) (As := [vi (xs (i + 1)).toInt, vi (xs (i + 2)).toInt]) (rest := []) b hfl hl.1 hH R2 ⟨(lw_in 2182 (by decide +kernel) (by decide +kernel)), (lw_in 2180 (by decide +kernel) (by decide +kernel)), (lw_in 2181 (by decide +kernel) (by decide +kernel)), (lw_in 153 (by decide +kernel) (by decide +kernel)), by decide +kernel⟩ (fun gr => ob_26) rfl rfl ⟨Nat.le_of_ble_eq_true rfl, Nat.le_of_ble_eq_true rfl⟩ (Nat.le_of_ble_eq_true rfl) ⟨show c0 + dC I J + dC J K ≤ 600002 by have q1 := dC_add hc1 hc2; have q2 := dC_self K; omega, show s0 + dS I J + dS J K ≤ 7302232 by have q1 := dC_add hc1 hc2; have q2 := dC_self K; omega⟩ (lw_in 2179 (by decide +kernel) (by decide +kernel)) hlo dL_law_985 (fun H locs hH hlo => ?_)
  refine lv_istore (lv' := [(6, vi r2), (5, vi r1), (0, .ref b0), (1, vr Z 0 0), (2, vr Z 26 0), (3, vr Z 29 0), (4, vi (i : Int))]) b.1 b.2.1 dL_law_988 hl (by decide) rfl (fun ls hl => ?_)
  refine lv_aload_n b.1 b.2.1 dL_law_990 rfl (lv_at hl 4 rfl) ?_
  have R3 := R_M_thrown Z K _ _ (rfl : f_M_thrown K = some (K 26 0 7, K))
  refine lx_callV (n := 0) (As := []) (rest := []) b hfl hl.1 hH R3 ⟨(lw_in 1767 (by decide +kernel) (by decide +kernel)), (lw_in 1765 (by decide +kernel) (by decide +kernel)), (lw_in 1766 (by decide +kernel) (by decide +kernel)), (lw_in 153 (by decide +kernel) (by decide +kernel)), by decide +kernel⟩ (fun gr => ob_26) rfl rfl ⟨Nat.le_of_ble_eq_true rfl, Nat.le_of_ble_eq_true rfl⟩ (Nat.le_of_ble_eq_true rfl) ⟨show c0 + dC I J + dC J K + dC K K ≤ 600002 by have q1 := dC_add hc1 hc2; have q2 := dC_self K; omega, show s0 + dS I J + dS J K + dS K K ≤ 7302232 by have q1 := dC_add hc1 hc2; have q2 := dC_self K; omega⟩ (lw_in 1764 (by decide +kernel) (by decide +kernel)) hlo dL_law_991 (fun H locs hH hlo => ?_)
  refine lv_iload b.1 b.2.1 dL_law_994 (lv_at hl 1 rfl) ?_
  refine lx_eq (tgt := 1001) b h3 dL_law_996 (by decide) ?_
  refine lv_iload b.1 b.2.1 dL_law_1001 (lv_at hl 1 rfl) ?_
  refine lx_ifne (tgt := 1018) b dL_law_1003 (by decide) (fun z1 => ?_) (fun z1 => ?_)
  · skip
    refine lv_goto (tgt := 1888) b.1 b.2.1 dL_law_1018 (by decide) ?_
    refine W.widen (k := c0 + dC I K) (n := s0 + dS I K) (show c0 + dC I J + dC J K + dC K K ≤ c0 + dC I K by have q1 := dC_add hc1 hc2; have q2 := dC_self K; omega) (show s0 + dS I J + dS J K + dS K K ≤ s0 + dS I K by have q1 := dC_add hc1 hc2; have q2 := dC_self K; omega) ?_
    exact kk H locs ls hH hlo (lv_sub hl [2, 3, 4, 5, 6] rfl)
  · skip
    refine lv_aload_n b.1 b.2.1 dL_law_1006 rfl (lv_at hl 5 rfl) ?_
    refine lv_iconst (v := Int32.ofInt 0) b.1 b.2.1 dL_law_1007 rfl ?_
    refine lx_lald b hH dL_law_1008 ?_
    refine lv_iload b.1 b.2.1 dL_law_1009 (lv_at hl 0 rfl) ?_
    refine lx_i2l b dL_law_1011 ?_
    refine lx_lcmp b (h4 z1) dL_law_1012 ?_
    refine lx_ifeq (x := 0) (tgt := 1018) b dL_law_1013 (by decide) (fun _ => ?_) (fun z => absurd (by decide) z)
    refine lv_goto (tgt := 1888) b.1 b.2.1 dL_law_1018 (by decide) ?_
    refine W.widen (k := c0 + dC I K) (n := s0 + dS I K) (show c0 + dC I J + dC J K + dC K K ≤ c0 + dC I K by have q1 := dC_add hc1 hc2; have q2 := dC_self K; omega) (show s0 + dS I J + dS J K + dS K K ≤ s0 + dS I K by have q1 := dC_add hc1 hc2; have q2 := dC_self K; omega) ?_
    exact kk H locs ls hH hlo (lv_sub hl [2, 3, 4, 5, 6] rfl)
set_option maxRecDepth 20000 in
set_option maxHeartbeats 4000000 in
theorem LC_19 {p : Program} {l : Launch} {e : Env} {s : State} {m : MethodId} {args : Array Value} {below : List Frame} {meth : Method} {c : Code} {H : Heap} {locs : List Loc} {c0 s0 : Nat} {Q : State → Prop} {ls : Array Slot} {Z : ZT} {I : Mem} {b0 L i : Nat} {xs : Nat → Int32} (b : BB p s m args c RL cL_law 9 Z) (hfl : l.stackTraces = false) (hX : va_X b0 L xs s s.heap) (hbl : b0 < s.heap.size) (hZ : zB Z = s.heap.size ∧ zH Z = s.heap) (hi : i + 6 ≤ L) (hL : L < 100000) (hH : HH Z I H) (hlo : ∀ q ∈ locs, zN Z q.base) (hl : lv_has ls 9 [(0, .ref b0), (1, vr Z 0 0), (2, vr Z 26 0), (3, vr Z 29 0), (4, vi (i : Int))]) {r1 : Int} {r2 : Int} {J K : Mem} (h1 : f_L_best ((xs (i + 1)).toInt) I = some (r1, J)) (h2 : f_M_best ((xs (i + 1)).toInt) J = some (r2, K)) (h3 : w32 (K 26 0 7) = w32 r1) (h4 : w32 r1 = 0 → w64 (K 29 0 0) = w64 (w32 r2)) (hmc : c0 + dC I K ≤ 600002) (hms : s0 + dS I K ≤ 7302232)
    (kk : ∀ (H : Heap) (locs : List Loc) (ls : Array Slot), HH Z K H → (∀ q ∈ locs, zN Z q.base) → lv_has ls 9 [(0, .ref b0), (1, vr Z 0 0), (2, vr Z 26 0), (3, vr Z 29 0), (4, vi (i : Int))] → W p l e room_1 s m args below meth c H locs (c0 + dC I K) (s0 + dS I K) Q (F0 m 1888 ls [])) : W p l e room_1 s m args below meth c H locs c0 s0 Q (F0 m 1021 ls []) := by
  have hcK : cle J K := (R_M_best Z ((xs (i + 1)).toInt) J _ _ h2).1
  refine lv_aload_n b.1 b.2.1 dL_law_1021 rfl (lv_at hl 1 rfl) ?_
  refine lv_aload_n b.1 b.2.1 dL_law_1022 rfl (lv_at hl 0 rfl) ?_
  refine lv_iload b.1 b.2.1 dL_law_1023 (lv_at hl 4 rfl) ?_
  refine lv_iconst (v := Int32.ofInt 1) b.1 b.2.1 dL_law_1025 rfl ?_
  refine lx_iadd b dL_law_1026 ?_
  refine lx_sld (q := i + 1) b hX hbl hZ hH hlo (w32_of (by omega) (by omega)) (by omega) dL_law_1027 ?_
  refine lv_aload_n b.1 b.2.1 dL_law_1028 rfl (lv_at hl 3 rfl) ?_
  have R1 := R_L_best Z ((xs (i + 1)).toInt) I _ _ h1
  have hc1 : cle I J := R1.1
  refine lx_callS (n := 3) (As := [vr Z 0 0, vi (xs (i + 1)).toInt, vr Z 29 0]) (rest := []) b hfl hl.1 hH R1 (lw_in 1453 (by decide +kernel) (by decide +kernel)) (lw_in 1452 (by decide +kernel) (by decide +kernel)) (lw_in 137 (by decide +kernel) (by decide +kernel)) (by decide +kernel) rfl rfl ⟨Nat.le_of_ble_eq_true rfl, Nat.le_of_ble_eq_true rfl⟩ (Nat.le_of_ble_eq_true rfl) ⟨show c0 + dC I J ≤ 600002 by have q1 := dC_add hc1 hcK; have q2 := dC_self K; omega, show s0 + dS I J ≤ 7302232 by have q1 := dC_add hc1 hcK; have q2 := dC_self K; omega⟩ (lw_in 1451 (by decide +kernel) (by decide +kernel)) hlo dL_law_1029 (fun H locs hH hlo => ?_)
  refine lv_istore (lv' := [(5, vi r1), (0, .ref b0), (1, vr Z 0 0), (2, vr Z 26 0), (3, vr Z 29 0), (4, vi (i : Int))]) b.1 b.2.1 dL_law_1032 hl (by decide) rfl (fun ls hl => ?_)
  refine lv_aload_n b.1 b.2.1 dL_law_1034 rfl (lv_at hl 3 rfl) ?_
  refine lv_aload_n b.1 b.2.1 dL_law_1035 rfl (lv_at hl 1 rfl) ?_
  refine lv_iload b.1 b.2.1 dL_law_1036 (lv_at hl 5 rfl) ?_
  refine lv_iconst (v := Int32.ofInt 1) b.1 b.2.1 dL_law_1038 rfl ?_
  refine lx_iadd b dL_law_1039 ?_
  refine lx_sld (q := i + 1) b hX hbl hZ hH hlo (w32_of (by omega) (by omega)) (by omega) dL_law_1040 ?_
  have R2 := R_M_best Z ((xs (i + 1)).toInt) J _ _ h2
  have hc2 : cle J K := R2.1
  refine lx_callV (n := 1) (As := [vi (xs (i + 1)).toInt]) (rest := []) b hfl hl.1 hH R2 ⟨(lw_in 2190 (by decide +kernel) (by decide +kernel)), (lw_in 2188 (by decide +kernel) (by decide +kernel)), (lw_in 2189 (by decide +kernel) (by decide +kernel)), (lw_in 153 (by decide +kernel) (by decide +kernel)), by decide +kernel⟩ (fun gr => ob_26) rfl rfl ⟨Nat.le_of_ble_eq_true rfl, Nat.le_of_ble_eq_true rfl⟩ (Nat.le_of_ble_eq_true rfl) ⟨show c0 + dC I J + dC J K ≤ 600002 by have q1 := dC_add hc1 hc2; have q2 := dC_self K; omega, show s0 + dS I J + dS J K ≤ 7302232 by have q1 := dC_add hc1 hc2; have q2 := dC_self K; omega⟩ (lw_in 2187 (by decide +kernel) (by decide +kernel)) hlo dL_law_1041 (fun H locs hH hlo => ?_)
  refine lv_istore (lv' := [(6, vi r2), (5, vi r1), (0, .ref b0), (1, vr Z 0 0), (2, vr Z 26 0), (3, vr Z 29 0), (4, vi (i : Int))]) b.1 b.2.1 dL_law_1044 hl (by decide) rfl (fun ls hl => ?_)
  refine lv_aload_n b.1 b.2.1 dL_law_1046 rfl (lv_at hl 4 rfl) ?_
  have R3 := R_M_thrown Z K _ _ (rfl : f_M_thrown K = some (K 26 0 7, K))
  refine lx_callV (n := 0) (As := []) (rest := []) b hfl hl.1 hH R3 ⟨(lw_in 1767 (by decide +kernel) (by decide +kernel)), (lw_in 1765 (by decide +kernel) (by decide +kernel)), (lw_in 1766 (by decide +kernel) (by decide +kernel)), (lw_in 153 (by decide +kernel) (by decide +kernel)), by decide +kernel⟩ (fun gr => ob_26) rfl rfl ⟨Nat.le_of_ble_eq_true rfl, Nat.le_of_ble_eq_true rfl⟩ (Nat.le_of_ble_eq_true rfl) ⟨show c0 + dC I J + dC J K + dC K K ≤ 600002 by have q1 := dC_add hc1 hc2; have q2 := dC_self K; omega, show s0 + dS I J + dS J K + dS K K ≤ 7302232 by have q1 := dC_add hc1 hc2; have q2 := dC_self K; omega⟩ (lw_in 1764 (by decide +kernel) (by decide +kernel)) hlo dL_law_1047 (fun H locs hH hlo => ?_)
  refine lv_iload b.1 b.2.1 dL_law_1050 (lv_at hl 1 rfl) ?_
  refine lx_eq (tgt := 1057) b h3 dL_law_1052 (by decide) ?_
  refine lv_iload b.1 b.2.1 dL_law_1057 (lv_at hl 1 rfl) ?_
  refine lx_ifne (tgt := 1074) b dL_law_1059 (by decide) (fun z1 => ?_) (fun z1 => ?_)
  · skip
    refine lv_goto (tgt := 1888) b.1 b.2.1 dL_law_1074 (by decide) ?_
    refine W.widen (k := c0 + dC I K) (n := s0 + dS I K) (show c0 + dC I J + dC J K + dC K K ≤ c0 + dC I K by have q1 := dC_add hc1 hc2; have q2 := dC_self K; omega) (show s0 + dS I J + dS J K + dS K K ≤ s0 + dS I K by have q1 := dC_add hc1 hc2; have q2 := dC_self K; omega) ?_
    exact kk H locs ls hH hlo (lv_sub hl [2, 3, 4, 5, 6] rfl)
  · skip
    refine lv_aload_n b.1 b.2.1 dL_law_1062 rfl (lv_at hl 5 rfl) ?_
    refine lv_iconst (v := Int32.ofInt 0) b.1 b.2.1 dL_law_1063 rfl ?_
    refine lx_lald b hH dL_law_1064 ?_
    refine lv_iload b.1 b.2.1 dL_law_1065 (lv_at hl 0 rfl) ?_
    refine lx_i2l b dL_law_1067 ?_
    refine lx_lcmp b (h4 z1) dL_law_1068 ?_
    refine lx_ifeq (x := 0) (tgt := 1074) b dL_law_1069 (by decide) (fun _ => ?_) (fun z => absurd (by decide) z)
    refine lv_goto (tgt := 1888) b.1 b.2.1 dL_law_1074 (by decide) ?_
    refine W.widen (k := c0 + dC I K) (n := s0 + dS I K) (show c0 + dC I J + dC J K + dC K K ≤ c0 + dC I K by have q1 := dC_add hc1 hc2; have q2 := dC_self K; omega) (show s0 + dS I J + dS J K + dS K K ≤ s0 + dS I K by have q1 := dC_add hc1 hc2; have q2 := dC_self K; omega) ?_
    exact kk H locs ls hH hlo (lv_sub hl [2, 3, 4, 5, 6] rfl)
set_option maxRecDepth 20000 in
set_option maxHeartbeats 4000000 in
theorem LC_20 {p : Program} {l : Launch} {e : Env} {s : State} {m : MethodId} {args : Array Value} {below : List Frame} {meth : Method} {c : Code} {H : Heap} {locs : List Loc} {c0 s0 : Nat} {Q : State → Prop} {ls : Array Slot} {Z : ZT} {I : Mem} {b0 L i : Nat} {xs : Nat → Int32} (b : BB p s m args c RL cL_law 9 Z) (hfl : l.stackTraces = false) (hX : va_X b0 L xs s s.heap) (hbl : b0 < s.heap.size) (hZ : zB Z = s.heap.size ∧ zH Z = s.heap) (hi : i + 6 ≤ L) (hL : L < 100000) (hH : HH Z I H) (hlo : ∀ q ∈ locs, zN Z q.base) (hl : lv_has ls 9 [(0, .ref b0), (1, vr Z 0 0), (2, vr Z 26 0), (3, vr Z 29 0), (4, vi (i : Int))]) {r1 : Int} {r2 : Int} {J K : Mem} (h1 : f_L_why ((xs (i + 1)).toInt) ((xs (i + 2)).toInt) I = some (r1, J)) (h2 : f_M_why ((xs (i + 1)).toInt) ((xs (i + 2)).toInt) J = some (r2, K)) (h3 : w32 (K 26 0 7) = w32 r1) (h4 : w32 r1 = 0 → w64 (K 29 0 0) = w64 (w32 r2)) (hmc : c0 + dC I K ≤ 600002) (hms : s0 + dS I K ≤ 7302232)
    (kk : ∀ (H : Heap) (locs : List Loc) (ls : Array Slot), HH Z K H → (∀ q ∈ locs, zN Z q.base) → lv_has ls 9 [(0, .ref b0), (1, vr Z 0 0), (2, vr Z 26 0), (3, vr Z 29 0), (4, vi (i : Int))] → W p l e room_1 s m args below meth c H locs (c0 + dC I K) (s0 + dS I K) Q (F0 m 1888 ls [])) : W p l e room_1 s m args below meth c H locs c0 s0 Q (F0 m 1077 ls []) := by
  have hcK : cle J K := (R_M_why Z ((xs (i + 1)).toInt) ((xs (i + 2)).toInt) J _ _ h2).1
  refine lv_aload_n b.1 b.2.1 dL_law_1077 rfl (lv_at hl 1 rfl) ?_
  refine lv_aload_n b.1 b.2.1 dL_law_1078 rfl (lv_at hl 0 rfl) ?_
  refine lv_iload b.1 b.2.1 dL_law_1079 (lv_at hl 4 rfl) ?_
  refine lv_iconst (v := Int32.ofInt 1) b.1 b.2.1 dL_law_1081 rfl ?_
  refine lx_iadd b dL_law_1082 ?_
  refine lx_sld (q := i + 1) b hX hbl hZ hH hlo (w32_of (by omega) (by omega)) (by omega) dL_law_1083 ?_
  refine lv_aload_n b.1 b.2.1 dL_law_1084 rfl (lv_at hl 0 rfl) ?_
  refine lv_iload b.1 b.2.1 dL_law_1085 (lv_at hl 4 rfl) ?_
  refine lv_iconst (v := Int32.ofInt 2) b.1 b.2.1 dL_law_1087 rfl ?_
  refine lx_iadd b dL_law_1088 ?_
  refine lx_sld (q := i + 2) b hX hbl hZ hH hlo (w32_of (by omega) (by omega)) (by omega) dL_law_1089 ?_
  refine lv_aload_n b.1 b.2.1 dL_law_1090 rfl (lv_at hl 3 rfl) ?_
  have R1 := R_L_why Z ((xs (i + 1)).toInt) ((xs (i + 2)).toInt) I _ _ h1
  have hc1 : cle I J := R1.1
  refine lx_callS (n := 4) (As := [vr Z 0 0, vi (xs (i + 1)).toInt, vi (xs (i + 2)).toInt, vr Z 29 0]) (rest := []) b hfl hl.1 hH R1 (lw_in 1467 (by decide +kernel) (by decide +kernel)) (lw_in 1466 (by decide +kernel) (by decide +kernel)) (lw_in 137 (by decide +kernel) (by decide +kernel)) (by decide +kernel) rfl rfl ⟨Nat.le_of_ble_eq_true rfl, Nat.le_of_ble_eq_true rfl⟩ (Nat.le_of_ble_eq_true rfl) ⟨show c0 + dC I J ≤ 600002 by have q1 := dC_add hc1 hcK; have q2 := dC_self K; omega, show s0 + dS I J ≤ 7302232 by have q1 := dC_add hc1 hcK; have q2 := dC_self K; omega⟩ (lw_in 1465 (by decide +kernel) (by decide +kernel)) hlo dL_law_1091 (fun H locs hH hlo => ?_)
  refine lv_istore (lv' := [(5, vi r1), (0, .ref b0), (1, vr Z 0 0), (2, vr Z 26 0), (3, vr Z 29 0), (4, vi (i : Int))]) b.1 b.2.1 dL_law_1094 hl (by decide) rfl (fun ls hl => ?_)
  refine lv_aload_n b.1 b.2.1 dL_law_1096 rfl (lv_at hl 3 rfl) ?_
  refine lv_aload_n b.1 b.2.1 dL_law_1097 rfl (lv_at hl 1 rfl) ?_
  refine lv_iload b.1 b.2.1 dL_law_1098 (lv_at hl 5 rfl) ?_
  refine lv_iconst (v := Int32.ofInt 1) b.1 b.2.1 dL_law_1100 rfl ?_
  refine lx_iadd b dL_law_1101 ?_
  refine lx_sld (q := i + 1) b hX hbl hZ hH hlo (w32_of (by omega) (by omega)) (by omega) dL_law_1102 ?_
  refine lv_aload_n b.1 b.2.1 dL_law_1103 rfl (lv_at hl 1 rfl) ?_
  refine lv_iload b.1 b.2.1 dL_law_1104 (lv_at hl 5 rfl) ?_
  refine lv_iconst (v := Int32.ofInt 2) b.1 b.2.1 dL_law_1106 rfl ?_
  refine lx_iadd b dL_law_1107 ?_
  refine lx_sld (q := i + 2) b hX hbl hZ hH hlo (w32_of (by omega) (by omega)) (by omega) dL_law_1108 ?_
  have R2 := R_M_why Z ((xs (i + 1)).toInt) ((xs (i + 2)).toInt) J _ _ h2
  have hc2 : cle J K := R2.1
  refine lx_callV (n := 2) (As := [vi (xs (i + 1)).toInt, vi (xs (i + 2)).toInt]) (rest := []) b hfl hl.1 hH R2 ⟨(lw_in 2194 (by decide +kernel) (by decide +kernel)), (lw_in 2192 (by decide +kernel) (by decide +kernel)), (lw_in 2193 (by decide +kernel) (by decide +kernel)), (lw_in 153 (by decide +kernel) (by decide +kernel)), by decide +kernel⟩ (fun gr => ob_26) rfl rfl ⟨Nat.le_of_ble_eq_true rfl, Nat.le_of_ble_eq_true rfl⟩ (Nat.le_of_ble_eq_true rfl) ⟨show c0 + dC I J + dC J K ≤ 600002 by have q1 := dC_add hc1 hc2; have q2 := dC_self K; omega, show s0 + dS I J + dS J K ≤ 7302232 by have q1 := dC_add hc1 hc2; have q2 := dC_self K; omega⟩ (lw_in 2191 (by decide +kernel) (by decide +kernel)) hlo dL_law_1109 (fun H locs hH hlo => ?_)
  refine lv_istore (lv' := [(6, vi r2), (5, vi r1), (0, .ref b0), (1, vr Z 0 0), (2, vr Z 26 0), (3, vr Z 29 0), (4, vi (i : Int))]) b.1 b.2.1 dL_law_1112 hl (by decide) rfl (fun ls hl => ?_)
  refine lv_aload_n b.1 b.2.1 dL_law_1114 rfl (lv_at hl 4 rfl) ?_
  have R3 := R_M_thrown Z K _ _ (rfl : f_M_thrown K = some (K 26 0 7, K))
  refine lx_callV (n := 0) (As := []) (rest := []) b hfl hl.1 hH R3 ⟨(lw_in 1767 (by decide +kernel) (by decide +kernel)), (lw_in 1765 (by decide +kernel) (by decide +kernel)), (lw_in 1766 (by decide +kernel) (by decide +kernel)), (lw_in 153 (by decide +kernel) (by decide +kernel)), by decide +kernel⟩ (fun gr => ob_26) rfl rfl ⟨Nat.le_of_ble_eq_true rfl, Nat.le_of_ble_eq_true rfl⟩ (Nat.le_of_ble_eq_true rfl) ⟨show c0 + dC I J + dC J K + dC K K ≤ 600002 by have q1 := dC_add hc1 hc2; have q2 := dC_self K; omega, show s0 + dS I J + dS J K + dS K K ≤ 7302232 by have q1 := dC_add hc1 hc2; have q2 := dC_self K; omega⟩ (lw_in 1764 (by decide +kernel) (by decide +kernel)) hlo dL_law_1115 (fun H locs hH hlo => ?_)
  refine lv_iload b.1 b.2.1 dL_law_1118 (lv_at hl 1 rfl) ?_
  refine lx_eq (tgt := 1125) b h3 dL_law_1120 (by decide) ?_
  refine lv_iload b.1 b.2.1 dL_law_1125 (lv_at hl 1 rfl) ?_
  refine lx_ifne (tgt := 1142) b dL_law_1127 (by decide) (fun z1 => ?_) (fun z1 => ?_)
  · skip
    refine lv_goto (tgt := 1888) b.1 b.2.1 dL_law_1142 (by decide) ?_
    refine W.widen (k := c0 + dC I K) (n := s0 + dS I K) (show c0 + dC I J + dC J K + dC K K ≤ c0 + dC I K by have q1 := dC_add hc1 hc2; have q2 := dC_self K; omega) (show s0 + dS I J + dS J K + dS K K ≤ s0 + dS I K by have q1 := dC_add hc1 hc2; have q2 := dC_self K; omega) ?_
    exact kk H locs ls hH hlo (lv_sub hl [2, 3, 4, 5, 6] rfl)
  · skip
    refine lv_aload_n b.1 b.2.1 dL_law_1130 rfl (lv_at hl 5 rfl) ?_
    refine lv_iconst (v := Int32.ofInt 0) b.1 b.2.1 dL_law_1131 rfl ?_
    refine lx_lald b hH dL_law_1132 ?_
    refine lv_iload b.1 b.2.1 dL_law_1133 (lv_at hl 0 rfl) ?_
    refine lx_i2l b dL_law_1135 ?_
    refine lx_lcmp b (h4 z1) dL_law_1136 ?_
    refine lx_ifeq (x := 0) (tgt := 1142) b dL_law_1137 (by decide) (fun _ => ?_) (fun z => absurd (by decide) z)
    refine lv_goto (tgt := 1888) b.1 b.2.1 dL_law_1142 (by decide) ?_
    refine W.widen (k := c0 + dC I K) (n := s0 + dS I K) (show c0 + dC I J + dC J K + dC K K ≤ c0 + dC I K by have q1 := dC_add hc1 hc2; have q2 := dC_self K; omega) (show s0 + dS I J + dS J K + dS K K ≤ s0 + dS I K by have q1 := dC_add hc1 hc2; have q2 := dC_self K; omega) ?_
    exact kk H locs ls hH hlo (lv_sub hl [2, 3, 4, 5, 6] rfl)
set_option maxRecDepth 20000 in
set_option maxHeartbeats 4000000 in
theorem LC_21 {p : Program} {l : Launch} {e : Env} {s : State} {m : MethodId} {args : Array Value} {below : List Frame} {meth : Method} {c : Code} {H : Heap} {locs : List Loc} {c0 s0 : Nat} {Q : State → Prop} {ls : Array Slot} {Z : ZT} {I : Mem} {b0 L i : Nat} {xs : Nat → Int32} (b : BB p s m args c RL cL_law 9 Z) (hfl : l.stackTraces = false) (hX : va_X b0 L xs s s.heap) (hbl : b0 < s.heap.size) (hZ : zB Z = s.heap.size ∧ zH Z = s.heap) (hi : i + 6 ≤ L) (hL : L < 100000) (hH : HH Z I H) (hlo : ∀ q ∈ locs, zN Z q.base) (hl : lv_has ls 9 [(0, .ref b0), (1, vr Z 0 0), (2, vr Z 26 0), (3, vr Z 29 0), (4, vi (i : Int))]) {r1 : Int} {r2 : Int} {J K : Mem} (h1 : f_L_gain ((xs (i + 1)).toInt) ((xs (i + 2)).toInt) I = some (r1, J)) (h2 : f_M_gain ((xs (i + 1)).toInt) ((xs (i + 2)).toInt) J = some (r2, K)) (h3 : w32 (K 26 0 7) = w32 r1) (h4 : w32 r1 = 0 → w64 (K 29 0 0) = w64 (w32 r2)) (hmc : c0 + dC I K ≤ 600002) (hms : s0 + dS I K ≤ 7302232)
    (kk : ∀ (H : Heap) (locs : List Loc) (ls : Array Slot), HH Z K H → (∀ q ∈ locs, zN Z q.base) → lv_has ls 9 [(0, .ref b0), (1, vr Z 0 0), (2, vr Z 26 0), (3, vr Z 29 0), (4, vi (i : Int))] → W p l e room_1 s m args below meth c H locs (c0 + dC I K) (s0 + dS I K) Q (F0 m 1888 ls [])) : W p l e room_1 s m args below meth c H locs c0 s0 Q (F0 m 1145 ls []) := by
  have hcK : cle J K := (R_M_gain Z ((xs (i + 1)).toInt) ((xs (i + 2)).toInt) J _ _ h2).1
  refine lv_aload_n b.1 b.2.1 dL_law_1145 rfl (lv_at hl 1 rfl) ?_
  refine lv_aload_n b.1 b.2.1 dL_law_1146 rfl (lv_at hl 0 rfl) ?_
  refine lv_iload b.1 b.2.1 dL_law_1147 (lv_at hl 4 rfl) ?_
  refine lv_iconst (v := Int32.ofInt 1) b.1 b.2.1 dL_law_1149 rfl ?_
  refine lx_iadd b dL_law_1150 ?_
  refine lx_sld (q := i + 1) b hX hbl hZ hH hlo (w32_of (by omega) (by omega)) (by omega) dL_law_1151 ?_
  refine lv_aload_n b.1 b.2.1 dL_law_1152 rfl (lv_at hl 0 rfl) ?_
  refine lv_iload b.1 b.2.1 dL_law_1153 (lv_at hl 4 rfl) ?_
  refine lv_iconst (v := Int32.ofInt 2) b.1 b.2.1 dL_law_1155 rfl ?_
  refine lx_iadd b dL_law_1156 ?_
  refine lx_sld (q := i + 2) b hX hbl hZ hH hlo (w32_of (by omega) (by omega)) (by omega) dL_law_1157 ?_
  refine lv_aload_n b.1 b.2.1 dL_law_1158 rfl (lv_at hl 3 rfl) ?_
  have R1 := R_L_gain Z ((xs (i + 1)).toInt) ((xs (i + 2)).toInt) I _ _ h1
  have hc1 : cle I J := R1.1
  refine lx_callS (n := 4) (As := [vr Z 0 0, vi (xs (i + 1)).toInt, vi (xs (i + 2)).toInt, vr Z 29 0]) (rest := []) b hfl hl.1 hH R1 (lw_in 1475 (by decide +kernel) (by decide +kernel)) (lw_in 1474 (by decide +kernel) (by decide +kernel)) (lw_in 137 (by decide +kernel) (by decide +kernel)) (by decide +kernel) rfl rfl ⟨Nat.le_of_ble_eq_true rfl, Nat.le_of_ble_eq_true rfl⟩ (Nat.le_of_ble_eq_true rfl) ⟨show c0 + dC I J ≤ 600002 by have q1 := dC_add hc1 hcK; have q2 := dC_self K; omega, show s0 + dS I J ≤ 7302232 by have q1 := dC_add hc1 hcK; have q2 := dC_self K; omega⟩ (lw_in 1473 (by decide +kernel) (by decide +kernel)) hlo dL_law_1159 (fun H locs hH hlo => ?_)
  refine lv_istore (lv' := [(5, vi r1), (0, .ref b0), (1, vr Z 0 0), (2, vr Z 26 0), (3, vr Z 29 0), (4, vi (i : Int))]) b.1 b.2.1 dL_law_1162 hl (by decide) rfl (fun ls hl => ?_)
  refine lv_aload_n b.1 b.2.1 dL_law_1164 rfl (lv_at hl 3 rfl) ?_
  refine lv_aload_n b.1 b.2.1 dL_law_1165 rfl (lv_at hl 1 rfl) ?_
  refine lv_iload b.1 b.2.1 dL_law_1166 (lv_at hl 5 rfl) ?_
  refine lv_iconst (v := Int32.ofInt 1) b.1 b.2.1 dL_law_1168 rfl ?_
  refine lx_iadd b dL_law_1169 ?_
  refine lx_sld (q := i + 1) b hX hbl hZ hH hlo (w32_of (by omega) (by omega)) (by omega) dL_law_1170 ?_
  refine lv_aload_n b.1 b.2.1 dL_law_1171 rfl (lv_at hl 1 rfl) ?_
  refine lv_iload b.1 b.2.1 dL_law_1172 (lv_at hl 5 rfl) ?_
  refine lv_iconst (v := Int32.ofInt 2) b.1 b.2.1 dL_law_1174 rfl ?_
  refine lx_iadd b dL_law_1175 ?_
  refine lx_sld (q := i + 2) b hX hbl hZ hH hlo (w32_of (by omega) (by omega)) (by omega) dL_law_1176 ?_
  have R2 := R_M_gain Z ((xs (i + 1)).toInt) ((xs (i + 2)).toInt) J _ _ h2
  have hc2 : cle J K := R2.1
  refine lx_callV (n := 2) (As := [vi (xs (i + 1)).toInt, vi (xs (i + 2)).toInt]) (rest := []) b hfl hl.1 hH R2 ⟨(lw_in 2198 (by decide +kernel) (by decide +kernel)), (lw_in 2196 (by decide +kernel) (by decide +kernel)), (lw_in 2197 (by decide +kernel) (by decide +kernel)), (lw_in 153 (by decide +kernel) (by decide +kernel)), by decide +kernel⟩ (fun gr => ob_26) rfl rfl ⟨Nat.le_of_ble_eq_true rfl, Nat.le_of_ble_eq_true rfl⟩ (Nat.le_of_ble_eq_true rfl) ⟨show c0 + dC I J + dC J K ≤ 600002 by have q1 := dC_add hc1 hc2; have q2 := dC_self K; omega, show s0 + dS I J + dS J K ≤ 7302232 by have q1 := dC_add hc1 hc2; have q2 := dC_self K; omega⟩ (lw_in 2195 (by decide +kernel) (by decide +kernel)) hlo dL_law_1177 (fun H locs hH hlo => ?_)
  refine lv_istore (lv' := [(6, vi r2), (5, vi r1), (0, .ref b0), (1, vr Z 0 0), (2, vr Z 26 0), (3, vr Z 29 0), (4, vi (i : Int))]) b.1 b.2.1 dL_law_1180 hl (by decide) rfl (fun ls hl => ?_)
  refine lv_aload_n b.1 b.2.1 dL_law_1182 rfl (lv_at hl 4 rfl) ?_
  have R3 := R_M_thrown Z K _ _ (rfl : f_M_thrown K = some (K 26 0 7, K))
  refine lx_callV (n := 0) (As := []) (rest := []) b hfl hl.1 hH R3 ⟨(lw_in 1767 (by decide +kernel) (by decide +kernel)), (lw_in 1765 (by decide +kernel) (by decide +kernel)), (lw_in 1766 (by decide +kernel) (by decide +kernel)), (lw_in 153 (by decide +kernel) (by decide +kernel)), by decide +kernel⟩ (fun gr => ob_26) rfl rfl ⟨Nat.le_of_ble_eq_true rfl, Nat.le_of_ble_eq_true rfl⟩ (Nat.le_of_ble_eq_true rfl) ⟨show c0 + dC I J + dC J K + dC K K ≤ 600002 by have q1 := dC_add hc1 hc2; have q2 := dC_self K; omega, show s0 + dS I J + dS J K + dS K K ≤ 7302232 by have q1 := dC_add hc1 hc2; have q2 := dC_self K; omega⟩ (lw_in 1764 (by decide +kernel) (by decide +kernel)) hlo dL_law_1183 (fun H locs hH hlo => ?_)
  refine lv_iload b.1 b.2.1 dL_law_1186 (lv_at hl 1 rfl) ?_
  refine lx_eq (tgt := 1193) b h3 dL_law_1188 (by decide) ?_
  refine lv_iload b.1 b.2.1 dL_law_1193 (lv_at hl 1 rfl) ?_
  refine lx_ifne (tgt := 1210) b dL_law_1195 (by decide) (fun z1 => ?_) (fun z1 => ?_)
  · skip
    refine lv_goto (tgt := 1888) b.1 b.2.1 dL_law_1210 (by decide) ?_
    refine W.widen (k := c0 + dC I K) (n := s0 + dS I K) (show c0 + dC I J + dC J K + dC K K ≤ c0 + dC I K by have q1 := dC_add hc1 hc2; have q2 := dC_self K; omega) (show s0 + dS I J + dS J K + dS K K ≤ s0 + dS I K by have q1 := dC_add hc1 hc2; have q2 := dC_self K; omega) ?_
    exact kk H locs ls hH hlo (lv_sub hl [2, 3, 4, 5, 6] rfl)
  · skip
    refine lv_aload_n b.1 b.2.1 dL_law_1198 rfl (lv_at hl 5 rfl) ?_
    refine lv_iconst (v := Int32.ofInt 0) b.1 b.2.1 dL_law_1199 rfl ?_
    refine lx_lald b hH dL_law_1200 ?_
    refine lv_iload b.1 b.2.1 dL_law_1201 (lv_at hl 0 rfl) ?_
    refine lx_i2l b dL_law_1203 ?_
    refine lx_lcmp b (h4 z1) dL_law_1204 ?_
    refine lx_ifeq (x := 0) (tgt := 1210) b dL_law_1205 (by decide) (fun _ => ?_) (fun z => absurd (by decide) z)
    refine lv_goto (tgt := 1888) b.1 b.2.1 dL_law_1210 (by decide) ?_
    refine W.widen (k := c0 + dC I K) (n := s0 + dS I K) (show c0 + dC I J + dC J K + dC K K ≤ c0 + dC I K by have q1 := dC_add hc1 hc2; have q2 := dC_self K; omega) (show s0 + dS I J + dS J K + dS K K ≤ s0 + dS I K by have q1 := dC_add hc1 hc2; have q2 := dC_self K; omega) ?_
    exact kk H locs ls hH hlo (lv_sub hl [2, 3, 4, 5, 6] rfl)
set_option maxRecDepth 20000 in
set_option maxHeartbeats 4000000 in
theorem LC_22 {p : Program} {l : Launch} {e : Env} {s : State} {m : MethodId} {args : Array Value} {below : List Frame} {meth : Method} {c : Code} {H : Heap} {locs : List Loc} {c0 s0 : Nat} {Q : State → Prop} {ls : Array Slot} {Z : ZT} {I : Mem} {b0 L i : Nat} {xs : Nat → Int32} (b : BB p s m args c RL cL_law 9 Z) (hfl : l.stackTraces = false) (hX : va_X b0 L xs s s.heap) (hbl : b0 < s.heap.size) (hZ : zB Z = s.heap.size ∧ zH Z = s.heap) (hi : i + 6 ≤ L) (hL : L < 100000) (hH : HH Z I H) (hlo : ∀ q ∈ locs, zN Z q.base) (hl : lv_has ls 9 [(0, .ref b0), (1, vr Z 0 0), (2, vr Z 26 0), (3, vr Z 29 0), (4, vi (i : Int))]) {r1 : Int} {r2 : Int} {J K : Mem} (h1 : f_PR_stepsLeft  I = some (r1, J)) (h2 : f_M_stepsLeft  J = some (r2, K)) (h3 : w32 r1 = w32 r2) (hmc : c0 + dC I K ≤ 600002) (hms : s0 + dS I K ≤ 7302232)
    (kk : ∀ (H : Heap) (locs : List Loc) (ls : Array Slot), HH Z K H → (∀ q ∈ locs, zN Z q.base) → lv_has ls 9 [(0, .ref b0), (1, vr Z 0 0), (2, vr Z 26 0), (3, vr Z 29 0), (4, vi (i : Int))] → W p l e room_1 s m args below meth c H locs (c0 + dC I K) (s0 + dS I K) Q (F0 m 1888 ls [])) : W p l e room_1 s m args below meth c H locs c0 s0 Q (F0 m 1213 ls []) := by
  have hcK : cle J K := (R_M_stepsLeft Z  J _ _ h2).1
  refine lv_aload_n b.1 b.2.1 dL_law_1213 rfl (lv_at hl 1 rfl) ?_
  have R1 := R_PR_stepsLeft Z  I _ _ h1
  have hc1 : cle I J := R1.1
  refine lx_callV (n := 0) (As := []) (rest := []) b hfl hl.1 hH R1 ⟨(lw_in 1164 (by decide +kernel) (by decide +kernel)), (lw_in 1162 (by decide +kernel) (by decide +kernel)), (lw_in 1163 (by decide +kernel) (by decide +kernel)), (lw_in 138 (by decide +kernel) (by decide +kernel)), by decide +kernel⟩ (fun gr => ob_0) rfl rfl ⟨Nat.le_of_ble_eq_true rfl, Nat.le_of_ble_eq_true rfl⟩ (Nat.le_of_ble_eq_true rfl) ⟨show c0 + dC I J ≤ 600002 by have q1 := dC_add hc1 hcK; have q2 := dC_self K; omega, show s0 + dS I J ≤ 7302232 by have q1 := dC_add hc1 hcK; have q2 := dC_self K; omega⟩ (lw_in 1161 (by decide +kernel) (by decide +kernel)) hlo dL_law_1214 (fun H locs hH hlo => ?_)
  refine lv_aload_n b.1 b.2.1 dL_law_1217 rfl (lv_at hl 2 rfl) ?_
  have R2 := R_M_stepsLeft Z  J _ _ h2
  have hc2 : cle J K := R2.1
  refine lx_callV (n := 0) (As := []) (rest := [vi r1]) b hfl hl.1 hH R2 ⟨(lw_in 2202 (by decide +kernel) (by decide +kernel)), (lw_in 2200 (by decide +kernel) (by decide +kernel)), (lw_in 2201 (by decide +kernel) (by decide +kernel)), (lw_in 153 (by decide +kernel) (by decide +kernel)), by decide +kernel⟩ (fun gr => ob_26) rfl rfl ⟨Nat.le_of_ble_eq_true rfl, Nat.le_of_ble_eq_true rfl⟩ (Nat.le_of_ble_eq_true rfl) ⟨show c0 + dC I J + dC J K ≤ 600002 by have q1 := dC_add hc1 hc2; have q2 := dC_self K; omega, show s0 + dS I J + dS J K ≤ 7302232 by have q1 := dC_add hc1 hc2; have q2 := dC_self K; omega⟩ (lw_in 2199 (by decide +kernel) (by decide +kernel)) hlo dL_law_1218 (fun H locs hH hlo => ?_)
  refine lx_eq (tgt := 1888) b h3 dL_law_1221 (by decide) ?_
  refine W.widen (k := c0 + dC I K) (n := s0 + dS I K) (show c0 + dC I J + dC J K ≤ c0 + dC I K by have q1 := dC_add hc1 hc2; have q2 := dC_self K; omega) (show s0 + dS I J + dS J K ≤ s0 + dS I K by have q1 := dC_add hc1 hc2; have q2 := dC_self K; omega) ?_
  exact kk H locs ls hH hlo (lv_sub hl [0, 1, 2, 3, 4] rfl)
set_option maxRecDepth 20000 in
set_option maxHeartbeats 4000000 in
theorem LC_23 {p : Program} {l : Launch} {e : Env} {s : State} {m : MethodId} {args : Array Value} {below : List Frame} {meth : Method} {c : Code} {H : Heap} {locs : List Loc} {c0 s0 : Nat} {Q : State → Prop} {ls : Array Slot} {Z : ZT} {I : Mem} {b0 L i : Nat} {xs : Nat → Int32} (b : BB p s m args c RL cL_law 9 Z) (hfl : l.stackTraces = false) (hX : va_X b0 L xs s s.heap) (hbl : b0 < s.heap.size) (hZ : zB Z = s.heap.size ∧ zH Z = s.heap) (hi : i + 6 ≤ L) (hL : L < 100000) (hH : HH Z I H) (hlo : ∀ q ∈ locs, zN Z q.base) (hl : lv_has ls 9 [(0, .ref b0), (1, vr Z 0 0), (2, vr Z 26 0), (3, vr Z 29 0), (4, vi (i : Int))]) {r1 : Int} {r2 : Int} {J K : Mem} (h1 : f_L_sizeIn ((xs (i + 1)).toInt) I = some (r1, J)) (h2 : f_M_sizeIn ((xs (i + 1)).toInt) J = some (r2, K)) (h3 : w32 (K 26 0 7) = w32 r1) (h4 : w32 r1 = 0 → w64 (K 29 0 0) = w64 (w32 r2)) (hmc : c0 + dC I K ≤ 600002) (hms : s0 + dS I K ≤ 7302232)
    (kk : ∀ (H : Heap) (locs : List Loc) (ls : Array Slot), HH Z K H → (∀ q ∈ locs, zN Z q.base) → lv_has ls 9 [(0, .ref b0), (1, vr Z 0 0), (2, vr Z 26 0), (3, vr Z 29 0), (4, vi (i : Int))] → W p l e room_1 s m args below meth c H locs (c0 + dC I K) (s0 + dS I K) Q (F0 m 1888 ls [])) : W p l e room_1 s m args below meth c H locs c0 s0 Q (F0 m 1226 ls []) := by
  have hcK : cle J K := (R_M_sizeIn Z ((xs (i + 1)).toInt) J _ _ h2).1
  refine lv_aload_n b.1 b.2.1 dL_law_1226 rfl (lv_at hl 1 rfl) ?_
  refine lv_aload_n b.1 b.2.1 dL_law_1227 rfl (lv_at hl 0 rfl) ?_
  refine lv_iload b.1 b.2.1 dL_law_1228 (lv_at hl 4 rfl) ?_
  refine lv_iconst (v := Int32.ofInt 1) b.1 b.2.1 dL_law_1230 rfl ?_
  refine lx_iadd b dL_law_1231 ?_
  refine lx_sld (q := i + 1) b hX hbl hZ hH hlo (w32_of (by omega) (by omega)) (by omega) dL_law_1232 ?_
  refine lv_aload_n b.1 b.2.1 dL_law_1233 rfl (lv_at hl 3 rfl) ?_
  have R1 := R_L_sizeIn Z ((xs (i + 1)).toInt) I _ _ h1
  have hc1 : cle I J := R1.1
  refine lx_callS (n := 3) (As := [vr Z 0 0, vi (xs (i + 1)).toInt, vr Z 29 0]) (rest := []) b hfl hl.1 hH R1 (lw_in 1482 (by decide +kernel) (by decide +kernel)) (lw_in 1481 (by decide +kernel) (by decide +kernel)) (lw_in 137 (by decide +kernel) (by decide +kernel)) (by decide +kernel) rfl rfl ⟨Nat.le_of_ble_eq_true rfl, Nat.le_of_ble_eq_true rfl⟩ (Nat.le_of_ble_eq_true rfl) ⟨show c0 + dC I J ≤ 600002 by have q1 := dC_add hc1 hcK; have q2 := dC_self K; omega, show s0 + dS I J ≤ 7302232 by have q1 := dC_add hc1 hcK; have q2 := dC_self K; omega⟩ (lw_in 1480 (by decide +kernel) (by decide +kernel)) hlo dL_law_1234 (fun H locs hH hlo => ?_)
  refine lv_istore (lv' := [(5, vi r1), (0, .ref b0), (1, vr Z 0 0), (2, vr Z 26 0), (3, vr Z 29 0), (4, vi (i : Int))]) b.1 b.2.1 dL_law_1237 hl (by decide) rfl (fun ls hl => ?_)
  refine lv_aload_n b.1 b.2.1 dL_law_1239 rfl (lv_at hl 3 rfl) ?_
  refine lv_aload_n b.1 b.2.1 dL_law_1240 rfl (lv_at hl 1 rfl) ?_
  refine lv_iload b.1 b.2.1 dL_law_1241 (lv_at hl 5 rfl) ?_
  refine lv_iconst (v := Int32.ofInt 1) b.1 b.2.1 dL_law_1243 rfl ?_
  refine lx_iadd b dL_law_1244 ?_
  refine lx_sld (q := i + 1) b hX hbl hZ hH hlo (w32_of (by omega) (by omega)) (by omega) dL_law_1245 ?_
  have R2 := R_M_sizeIn Z ((xs (i + 1)).toInt) J _ _ h2
  have hc2 : cle J K := R2.1
  refine lx_callV (n := 1) (As := [vi (xs (i + 1)).toInt]) (rest := []) b hfl hl.1 hH R2 ⟨(lw_in 2206 (by decide +kernel) (by decide +kernel)), (lw_in 2204 (by decide +kernel) (by decide +kernel)), (lw_in 2205 (by decide +kernel) (by decide +kernel)), (lw_in 153 (by decide +kernel) (by decide +kernel)), by decide +kernel⟩ (fun gr => ob_26) rfl rfl ⟨Nat.le_of_ble_eq_true rfl, Nat.le_of_ble_eq_true rfl⟩ (Nat.le_of_ble_eq_true rfl) ⟨show c0 + dC I J + dC J K ≤ 600002 by have q1 := dC_add hc1 hc2; have q2 := dC_self K; omega, show s0 + dS I J + dS J K ≤ 7302232 by have q1 := dC_add hc1 hc2; have q2 := dC_self K; omega⟩ (lw_in 2203 (by decide +kernel) (by decide +kernel)) hlo dL_law_1246 (fun H locs hH hlo => ?_)
  refine lv_istore (lv' := [(6, vi r2), (5, vi r1), (0, .ref b0), (1, vr Z 0 0), (2, vr Z 26 0), (3, vr Z 29 0), (4, vi (i : Int))]) b.1 b.2.1 dL_law_1249 hl (by decide) rfl (fun ls hl => ?_)
  refine lv_aload_n b.1 b.2.1 dL_law_1251 rfl (lv_at hl 4 rfl) ?_
  have R3 := R_M_thrown Z K _ _ (rfl : f_M_thrown K = some (K 26 0 7, K))
  refine lx_callV (n := 0) (As := []) (rest := []) b hfl hl.1 hH R3 ⟨(lw_in 1767 (by decide +kernel) (by decide +kernel)), (lw_in 1765 (by decide +kernel) (by decide +kernel)), (lw_in 1766 (by decide +kernel) (by decide +kernel)), (lw_in 153 (by decide +kernel) (by decide +kernel)), by decide +kernel⟩ (fun gr => ob_26) rfl rfl ⟨Nat.le_of_ble_eq_true rfl, Nat.le_of_ble_eq_true rfl⟩ (Nat.le_of_ble_eq_true rfl) ⟨show c0 + dC I J + dC J K + dC K K ≤ 600002 by have q1 := dC_add hc1 hc2; have q2 := dC_self K; omega, show s0 + dS I J + dS J K + dS K K ≤ 7302232 by have q1 := dC_add hc1 hc2; have q2 := dC_self K; omega⟩ (lw_in 1764 (by decide +kernel) (by decide +kernel)) hlo dL_law_1252 (fun H locs hH hlo => ?_)
  refine lv_iload b.1 b.2.1 dL_law_1255 (lv_at hl 1 rfl) ?_
  refine lx_eq (tgt := 1262) b h3 dL_law_1257 (by decide) ?_
  refine lv_iload b.1 b.2.1 dL_law_1262 (lv_at hl 1 rfl) ?_
  refine lx_ifne (tgt := 1279) b dL_law_1264 (by decide) (fun z1 => ?_) (fun z1 => ?_)
  · skip
    refine lv_goto (tgt := 1888) b.1 b.2.1 dL_law_1279 (by decide) ?_
    refine W.widen (k := c0 + dC I K) (n := s0 + dS I K) (show c0 + dC I J + dC J K + dC K K ≤ c0 + dC I K by have q1 := dC_add hc1 hc2; have q2 := dC_self K; omega) (show s0 + dS I J + dS J K + dS K K ≤ s0 + dS I K by have q1 := dC_add hc1 hc2; have q2 := dC_self K; omega) ?_
    exact kk H locs ls hH hlo (lv_sub hl [2, 3, 4, 5, 6] rfl)
  · skip
    refine lv_aload_n b.1 b.2.1 dL_law_1267 rfl (lv_at hl 5 rfl) ?_
    refine lv_iconst (v := Int32.ofInt 0) b.1 b.2.1 dL_law_1268 rfl ?_
    refine lx_lald b hH dL_law_1269 ?_
    refine lv_iload b.1 b.2.1 dL_law_1270 (lv_at hl 0 rfl) ?_
    refine lx_i2l b dL_law_1272 ?_
    refine lx_lcmp b (h4 z1) dL_law_1273 ?_
    refine lx_ifeq (x := 0) (tgt := 1279) b dL_law_1274 (by decide) (fun _ => ?_) (fun z => absurd (by decide) z)
    refine lv_goto (tgt := 1888) b.1 b.2.1 dL_law_1279 (by decide) ?_
    refine W.widen (k := c0 + dC I K) (n := s0 + dS I K) (show c0 + dC I J + dC J K + dC K K ≤ c0 + dC I K by have q1 := dC_add hc1 hc2; have q2 := dC_self K; omega) (show s0 + dS I J + dS J K + dS K K ≤ s0 + dS I K by have q1 := dC_add hc1 hc2; have q2 := dC_self K; omega) ?_
    exact kk H locs ls hH hlo (lv_sub hl [2, 3, 4, 5, 6] rfl)
set_option maxRecDepth 20000 in
set_option maxHeartbeats 4000000 in
theorem LC_24 {p : Program} {l : Launch} {e : Env} {s : State} {m : MethodId} {args : Array Value} {below : List Frame} {meth : Method} {c : Code} {H : Heap} {locs : List Loc} {c0 s0 : Nat} {Q : State → Prop} {ls : Array Slot} {Z : ZT} {I : Mem} {b0 L i : Nat} {xs : Nat → Int32} (b : BB p s m args c RL cL_law 9 Z) (hfl : l.stackTraces = false) (hX : va_X b0 L xs s s.heap) (hbl : b0 < s.heap.size) (hZ : zB Z = s.heap.size ∧ zH Z = s.heap) (hi : i + 6 ≤ L) (hL : L < 100000) (hH : HH Z I H) (hlo : ∀ q ∈ locs, zN Z q.base) (hl : lv_has ls 9 [(0, .ref b0), (1, vr Z 0 0), (2, vr Z 26 0), (3, vr Z 29 0), (4, vi (i : Int))]) {r1 : Int} {r2 : Int} {J K : Mem} (h1 : f_PR_bestTie  I = some (r1, J)) (h2 : f_M_bestTie  J = some (r2, K)) (h3 : w32 r1 = w32 r2) (hmc : c0 + dC I K ≤ 600002) (hms : s0 + dS I K ≤ 7302232)
    (kk : ∀ (H : Heap) (locs : List Loc) (ls : Array Slot), HH Z K H → (∀ q ∈ locs, zN Z q.base) → lv_has ls 9 [(0, .ref b0), (1, vr Z 0 0), (2, vr Z 26 0), (3, vr Z 29 0), (4, vi (i : Int))] → W p l e room_1 s m args below meth c H locs (c0 + dC I K) (s0 + dS I K) Q (F0 m 1888 ls [])) : W p l e room_1 s m args below meth c H locs c0 s0 Q (F0 m 1282 ls []) := by
  have hcK : cle J K := (R_M_bestTie Z  J _ _ h2).1
  refine lv_aload_n b.1 b.2.1 dL_law_1282 rfl (lv_at hl 1 rfl) ?_
  have R1 := R_PR_bestTie Z  I _ _ h1
  have hc1 : cle I J := R1.1
  refine lx_callV (n := 0) (As := []) (rest := []) b hfl hl.1 hH R1 ⟨(lw_in 1169 (by decide +kernel) (by decide +kernel)), (lw_in 1167 (by decide +kernel) (by decide +kernel)), (lw_in 1168 (by decide +kernel) (by decide +kernel)), (lw_in 138 (by decide +kernel) (by decide +kernel)), by decide +kernel⟩ (fun gr => ob_0) rfl rfl ⟨Nat.le_of_ble_eq_true rfl, Nat.le_of_ble_eq_true rfl⟩ (Nat.le_of_ble_eq_true rfl) ⟨show c0 + dC I J ≤ 600002 by have q1 := dC_add hc1 hcK; have q2 := dC_self K; omega, show s0 + dS I J ≤ 7302232 by have q1 := dC_add hc1 hcK; have q2 := dC_self K; omega⟩ (lw_in 1166 (by decide +kernel) (by decide +kernel)) hlo dL_law_1283 (fun H locs hH hlo => ?_)
  refine lv_aload_n b.1 b.2.1 dL_law_1286 rfl (lv_at hl 2 rfl) ?_
  have R2 := R_M_bestTie Z  J _ _ h2
  have hc2 : cle J K := R2.1
  refine lx_callV (n := 0) (As := []) (rest := [vi r1]) b hfl hl.1 hH R2 ⟨(lw_in 2210 (by decide +kernel) (by decide +kernel)), (lw_in 2208 (by decide +kernel) (by decide +kernel)), (lw_in 2209 (by decide +kernel) (by decide +kernel)), (lw_in 153 (by decide +kernel) (by decide +kernel)), by decide +kernel⟩ (fun gr => ob_26) rfl rfl ⟨Nat.le_of_ble_eq_true rfl, Nat.le_of_ble_eq_true rfl⟩ (Nat.le_of_ble_eq_true rfl) ⟨show c0 + dC I J + dC J K ≤ 600002 by have q1 := dC_add hc1 hc2; have q2 := dC_self K; omega, show s0 + dS I J + dS J K ≤ 7302232 by have q1 := dC_add hc1 hc2; have q2 := dC_self K; omega⟩ (lw_in 2207 (by decide +kernel) (by decide +kernel)) hlo dL_law_1287 (fun H locs hH hlo => ?_)
  refine lx_eq (tgt := 1888) b h3 dL_law_1290 (by decide) ?_
  refine W.widen (k := c0 + dC I K) (n := s0 + dS I K) (show c0 + dC I J + dC J K ≤ c0 + dC I K by have q1 := dC_add hc1 hc2; have q2 := dC_self K; omega) (show s0 + dS I J + dS J K ≤ s0 + dS I K by have q1 := dC_add hc1 hc2; have q2 := dC_self K; omega) ?_
  exact kk H locs ls hH hlo (lv_sub hl [0, 1, 2, 3, 4] rfl)
set_option maxRecDepth 20000 in
set_option maxHeartbeats 4000000 in
theorem LC_25 {p : Program} {l : Launch} {e : Env} {s : State} {m : MethodId} {args : Array Value} {below : List Frame} {meth : Method} {c : Code} {H : Heap} {locs : List Loc} {c0 s0 : Nat} {Q : State → Prop} {ls : Array Slot} {Z : ZT} {I : Mem} {b0 L i : Nat} {xs : Nat → Int32} (b : BB p s m args c RL cL_law 9 Z) (hfl : l.stackTraces = false) (hX : va_X b0 L xs s s.heap) (hbl : b0 < s.heap.size) (hZ : zB Z = s.heap.size ∧ zH Z = s.heap) (hi : i + 6 ≤ L) (hL : L < 100000) (hH : HH Z I H) (hlo : ∀ q ∈ locs, zN Z q.base) (hl : lv_has ls 9 [(0, .ref b0), (1, vr Z 0 0), (2, vr Z 26 0), (3, vr Z 29 0), (4, vi (i : Int))]) {r1 : Int} {r2 : Int} {J K : Mem} (h1 : f_PR_bestLeast  I = some (r1, J)) (h2 : f_M_bestLeast  J = some (r2, K)) (h3 : w32 r1 = w32 r2) (hmc : c0 + dC I K ≤ 600002) (hms : s0 + dS I K ≤ 7302232)
    (kk : ∀ (H : Heap) (locs : List Loc) (ls : Array Slot), HH Z K H → (∀ q ∈ locs, zN Z q.base) → lv_has ls 9 [(0, .ref b0), (1, vr Z 0 0), (2, vr Z 26 0), (3, vr Z 29 0), (4, vi (i : Int))] → W p l e room_1 s m args below meth c H locs (c0 + dC I K) (s0 + dS I K) Q (F0 m 1888 ls [])) : W p l e room_1 s m args below meth c H locs c0 s0 Q (F0 m 1295 ls []) := by
  have hcK : cle J K := (R_M_bestLeast Z  J _ _ h2).1
  refine lv_aload_n b.1 b.2.1 dL_law_1295 rfl (lv_at hl 1 rfl) ?_
  have R1 := R_PR_bestLeast Z  I _ _ h1
  have hc1 : cle I J := R1.1
  refine lx_callV (n := 0) (As := []) (rest := []) b hfl hl.1 hH R1 ⟨(lw_in 1183 (by decide +kernel) (by decide +kernel)), (lw_in 1181 (by decide +kernel) (by decide +kernel)), (lw_in 1182 (by decide +kernel) (by decide +kernel)), (lw_in 138 (by decide +kernel) (by decide +kernel)), by decide +kernel⟩ (fun gr => ob_0) rfl rfl ⟨Nat.le_of_ble_eq_true rfl, Nat.le_of_ble_eq_true rfl⟩ (Nat.le_of_ble_eq_true rfl) ⟨show c0 + dC I J ≤ 600002 by have q1 := dC_add hc1 hcK; have q2 := dC_self K; omega, show s0 + dS I J ≤ 7302232 by have q1 := dC_add hc1 hcK; have q2 := dC_self K; omega⟩ (lw_in 1180 (by decide +kernel) (by decide +kernel)) hlo dL_law_1296 (fun H locs hH hlo => ?_)
  refine lv_aload_n b.1 b.2.1 dL_law_1299 rfl (lv_at hl 2 rfl) ?_
  have R2 := R_M_bestLeast Z  J _ _ h2
  have hc2 : cle J K := R2.1
  refine lx_callV (n := 0) (As := []) (rest := [vi r1]) b hfl hl.1 hH R2 ⟨(lw_in 2222 (by decide +kernel) (by decide +kernel)), (lw_in 2220 (by decide +kernel) (by decide +kernel)), (lw_in 2221 (by decide +kernel) (by decide +kernel)), (lw_in 153 (by decide +kernel) (by decide +kernel)), by decide +kernel⟩ (fun gr => ob_26) rfl rfl ⟨Nat.le_of_ble_eq_true rfl, Nat.le_of_ble_eq_true rfl⟩ (Nat.le_of_ble_eq_true rfl) ⟨show c0 + dC I J + dC J K ≤ 600002 by have q1 := dC_add hc1 hc2; have q2 := dC_self K; omega, show s0 + dS I J + dS J K ≤ 7302232 by have q1 := dC_add hc1 hc2; have q2 := dC_self K; omega⟩ (lw_in 2219 (by decide +kernel) (by decide +kernel)) hlo dL_law_1300 (fun H locs hH hlo => ?_)
  refine lx_eq (tgt := 1888) b h3 dL_law_1303 (by decide) ?_
  refine W.widen (k := c0 + dC I K) (n := s0 + dS I K) (show c0 + dC I J + dC J K ≤ c0 + dC I K by have q1 := dC_add hc1 hc2; have q2 := dC_self K; omega) (show s0 + dS I J + dS J K ≤ s0 + dS I K by have q1 := dC_add hc1 hc2; have q2 := dC_self K; omega) ?_
  exact kk H locs ls hH hlo (lv_sub hl [0, 1, 2, 3, 4] rfl)
set_option maxRecDepth 20000 in
set_option maxHeartbeats 4000000 in
theorem LC_26 {p : Program} {l : Launch} {e : Env} {s : State} {m : MethodId} {args : Array Value} {below : List Frame} {meth : Method} {c : Code} {H : Heap} {locs : List Loc} {c0 s0 : Nat} {Q : State → Prop} {ls : Array Slot} {Z : ZT} {I : Mem} {b0 L i : Nat} {xs : Nat → Int32} (b : BB p s m args c RL cL_law 9 Z) (hfl : l.stackTraces = false) (hX : va_X b0 L xs s s.heap) (hbl : b0 < s.heap.size) (hZ : zB Z = s.heap.size ∧ zH Z = s.heap) (hi : i + 6 ≤ L) (hL : L < 100000) (hH : HH Z I H) (hlo : ∀ q ∈ locs, zN Z q.base) (hl : lv_has ls 9 [(0, .ref b0), (1, vr Z 0 0), (2, vr Z 26 0), (3, vr Z 29 0), (4, vi (i : Int))]) {r1 : Int} {r2 : Int} {J K : Mem} (h1 : f_PR_inlinable  I = some (r1, J)) (h2 : f_M_inlinable  J = some (r2, K)) (h3 : w32 r1 = w32 r2) (hmc : c0 + dC I K ≤ 600002) (hms : s0 + dS I K ≤ 7302232)
    (kk : ∀ (H : Heap) (locs : List Loc) (ls : Array Slot), HH Z K H → (∀ q ∈ locs, zN Z q.base) → lv_has ls 9 [(0, .ref b0), (1, vr Z 0 0), (2, vr Z 26 0), (3, vr Z 29 0), (4, vi (i : Int))] → W p l e room_1 s m args below meth c H locs (c0 + dC I K) (s0 + dS I K) Q (F0 m 1888 ls [])) : W p l e room_1 s m args below meth c H locs c0 s0 Q (F0 m 1308 ls []) := by
  have hcK : cle J K := (R_M_inlinable Z  J _ _ h2).1
  refine lv_aload_n b.1 b.2.1 dL_law_1308 rfl (lv_at hl 1 rfl) ?_
  have R1 := R_PR_inlinable Z  I _ _ h1
  have hc1 : cle I J := R1.1
  refine lx_callV (n := 0) (As := []) (rest := []) b hfl hl.1 hH R1 ⟨(lw_in 1187 (by decide +kernel) (by decide +kernel)), (lw_in 1185 (by decide +kernel) (by decide +kernel)), (lw_in 1186 (by decide +kernel) (by decide +kernel)), (lw_in 138 (by decide +kernel) (by decide +kernel)), by decide +kernel⟩ (fun gr => ob_0) rfl rfl ⟨Nat.le_of_ble_eq_true rfl, Nat.le_of_ble_eq_true rfl⟩ (Nat.le_of_ble_eq_true rfl) ⟨show c0 + dC I J ≤ 600002 by have q1 := dC_add hc1 hcK; have q2 := dC_self K; omega, show s0 + dS I J ≤ 7302232 by have q1 := dC_add hc1 hcK; have q2 := dC_self K; omega⟩ (lw_in 1184 (by decide +kernel) (by decide +kernel)) hlo dL_law_1309 (fun H locs hH hlo => ?_)
  refine lv_aload_n b.1 b.2.1 dL_law_1312 rfl (lv_at hl 2 rfl) ?_
  have R2 := R_M_inlinable Z  J _ _ h2
  have hc2 : cle J K := R2.1
  refine lx_callV (n := 0) (As := []) (rest := [vi r1]) b hfl hl.1 hH R2 ⟨(lw_in 2226 (by decide +kernel) (by decide +kernel)), (lw_in 2224 (by decide +kernel) (by decide +kernel)), (lw_in 2225 (by decide +kernel) (by decide +kernel)), (lw_in 153 (by decide +kernel) (by decide +kernel)), by decide +kernel⟩ (fun gr => ob_26) rfl rfl ⟨Nat.le_of_ble_eq_true rfl, Nat.le_of_ble_eq_true rfl⟩ (Nat.le_of_ble_eq_true rfl) ⟨show c0 + dC I J + dC J K ≤ 600002 by have q1 := dC_add hc1 hc2; have q2 := dC_self K; omega, show s0 + dS I J + dS J K ≤ 7302232 by have q1 := dC_add hc1 hc2; have q2 := dC_self K; omega⟩ (lw_in 2223 (by decide +kernel) (by decide +kernel)) hlo dL_law_1313 (fun H locs hH hlo => ?_)
  refine lx_eq (tgt := 1888) b h3 dL_law_1316 (by decide) ?_
  refine W.widen (k := c0 + dC I K) (n := s0 + dS I K) (show c0 + dC I J + dC J K ≤ c0 + dC I K by have q1 := dC_add hc1 hc2; have q2 := dC_self K; omega) (show s0 + dS I J + dS J K ≤ s0 + dS I K by have q1 := dC_add hc1 hc2; have q2 := dC_self K; omega) ?_
  exact kk H locs ls hH hlo (lv_sub hl [0, 1, 2, 3, 4] rfl)
set_option maxRecDepth 20000 in
set_option maxHeartbeats 4000000 in
theorem LC_27 {p : Program} {l : Launch} {e : Env} {s : State} {m : MethodId} {args : Array Value} {below : List Frame} {meth : Method} {c : Code} {H : Heap} {locs : List Loc} {c0 s0 : Nat} {Q : State → Prop} {ls : Array Slot} {Z : ZT} {I : Mem} {b0 L i : Nat} {xs : Nat → Int32} (b : BB p s m args c RL cL_law 9 Z) (hfl : l.stackTraces = false) (hX : va_X b0 L xs s s.heap) (hbl : b0 < s.heap.size) (hZ : zB Z = s.heap.size ∧ zH Z = s.heap) (hi : i + 6 ≤ L) (hL : L < 100000) (hH : HH Z I H) (hlo : ∀ q ∈ locs, zN Z q.base) (hl : lv_has ls 9 [(0, .ref b0), (1, vr Z 0 0), (2, vr Z 26 0), (3, vr Z 29 0), (4, vi (i : Int))]) {r1 : Int} {r2 : Int} {J K : Mem} (h1 : f_L_step ((xs (i + 1)).toInt) I = some (r1, J)) (h2 : f_M_step ((xs (i + 1)).toInt) J = some (r2, K)) (h3 : w32 (K 26 0 7) = w32 r1) (h4 : w32 r1 = 0 → w64 (K 29 0 0) = w64 (w32 r2)) (hmc : c0 + dC I K ≤ 600002) (hms : s0 + dS I K ≤ 7302232)
    (kk : ∀ (H : Heap) (locs : List Loc) (ls : Array Slot), HH Z K H → (∀ q ∈ locs, zN Z q.base) → lv_has ls 9 [(0, .ref b0), (1, vr Z 0 0), (2, vr Z 26 0), (3, vr Z 29 0), (4, vi (i : Int))] → W p l e room_1 s m args below meth c H locs (c0 + dC I K) (s0 + dS I K) Q (F0 m 1888 ls [])) : W p l e room_1 s m args below meth c H locs c0 s0 Q (F0 m 1321 ls []) := by
  have hcK : cle J K := (R_M_step Z ((xs (i + 1)).toInt) J _ _ h2).1
  refine lv_aload_n b.1 b.2.1 dL_law_1321 rfl (lv_at hl 1 rfl) ?_
  refine lv_aload_n b.1 b.2.1 dL_law_1322 rfl (lv_at hl 0 rfl) ?_
  refine lv_iload b.1 b.2.1 dL_law_1323 (lv_at hl 4 rfl) ?_
  refine lv_iconst (v := Int32.ofInt 1) b.1 b.2.1 dL_law_1325 rfl ?_
  refine lx_iadd b dL_law_1326 ?_
  refine lx_sld (q := i + 1) b hX hbl hZ hH hlo (w32_of (by omega) (by omega)) (by omega) dL_law_1327 ?_
  refine lv_aload_n b.1 b.2.1 dL_law_1328 rfl (lv_at hl 3 rfl) ?_
  have R1 := R_L_step Z ((xs (i + 1)).toInt) I _ _ h1
  have hc1 : cle I J := R1.1
  refine lx_callS (n := 3) (As := [vr Z 0 0, vi (xs (i + 1)).toInt, vr Z 29 0]) (rest := []) b hfl hl.1 hH R1 (lw_in 1489 (by decide +kernel) (by decide +kernel)) (lw_in 1488 (by decide +kernel) (by decide +kernel)) (lw_in 137 (by decide +kernel) (by decide +kernel)) (by decide +kernel) rfl rfl ⟨Nat.le_of_ble_eq_true rfl, Nat.le_of_ble_eq_true rfl⟩ (Nat.le_of_ble_eq_true rfl) ⟨show c0 + dC I J ≤ 600002 by have q1 := dC_add hc1 hcK; have q2 := dC_self K; omega, show s0 + dS I J ≤ 7302232 by have q1 := dC_add hc1 hcK; have q2 := dC_self K; omega⟩ (lw_in 1487 (by decide +kernel) (by decide +kernel)) hlo dL_law_1329 (fun H locs hH hlo => ?_)
  refine lv_istore (lv' := [(5, vi r1), (0, .ref b0), (1, vr Z 0 0), (2, vr Z 26 0), (3, vr Z 29 0), (4, vi (i : Int))]) b.1 b.2.1 dL_law_1332 hl (by decide) rfl (fun ls hl => ?_)
  refine lv_aload_n b.1 b.2.1 dL_law_1334 rfl (lv_at hl 3 rfl) ?_
  refine lv_aload_n b.1 b.2.1 dL_law_1335 rfl (lv_at hl 1 rfl) ?_
  refine lv_iload b.1 b.2.1 dL_law_1336 (lv_at hl 5 rfl) ?_
  refine lv_iconst (v := Int32.ofInt 1) b.1 b.2.1 dL_law_1338 rfl ?_
  refine lx_iadd b dL_law_1339 ?_
  refine lx_sld (q := i + 1) b hX hbl hZ hH hlo (w32_of (by omega) (by omega)) (by omega) dL_law_1340 ?_
  have R2 := R_M_step Z ((xs (i + 1)).toInt) J _ _ h2
  have hc2 : cle J K := R2.1
  refine lx_callV (n := 1) (As := [vi (xs (i + 1)).toInt]) (rest := []) b hfl hl.1 hH R2 ⟨(lw_in 2230 (by decide +kernel) (by decide +kernel)), (lw_in 2228 (by decide +kernel) (by decide +kernel)), (lw_in 2229 (by decide +kernel) (by decide +kernel)), (lw_in 153 (by decide +kernel) (by decide +kernel)), by decide +kernel⟩ (fun gr => ob_26) rfl rfl ⟨Nat.le_of_ble_eq_true rfl, Nat.le_of_ble_eq_true rfl⟩ (Nat.le_of_ble_eq_true rfl) ⟨show c0 + dC I J + dC J K ≤ 600002 by have q1 := dC_add hc1 hc2; have q2 := dC_self K; omega, show s0 + dS I J + dS J K ≤ 7302232 by have q1 := dC_add hc1 hc2; have q2 := dC_self K; omega⟩ (lw_in 2227 (by decide +kernel) (by decide +kernel)) hlo dL_law_1341 (fun H locs hH hlo => ?_)
  refine lv_istore (lv' := [(6, vi r2), (5, vi r1), (0, .ref b0), (1, vr Z 0 0), (2, vr Z 26 0), (3, vr Z 29 0), (4, vi (i : Int))]) b.1 b.2.1 dL_law_1344 hl (by decide) rfl (fun ls hl => ?_)
  refine lv_aload_n b.1 b.2.1 dL_law_1346 rfl (lv_at hl 4 rfl) ?_
  have R3 := R_M_thrown Z K _ _ (rfl : f_M_thrown K = some (K 26 0 7, K))
  refine lx_callV (n := 0) (As := []) (rest := []) b hfl hl.1 hH R3 ⟨(lw_in 1767 (by decide +kernel) (by decide +kernel)), (lw_in 1765 (by decide +kernel) (by decide +kernel)), (lw_in 1766 (by decide +kernel) (by decide +kernel)), (lw_in 153 (by decide +kernel) (by decide +kernel)), by decide +kernel⟩ (fun gr => ob_26) rfl rfl ⟨Nat.le_of_ble_eq_true rfl, Nat.le_of_ble_eq_true rfl⟩ (Nat.le_of_ble_eq_true rfl) ⟨show c0 + dC I J + dC J K + dC K K ≤ 600002 by have q1 := dC_add hc1 hc2; have q2 := dC_self K; omega, show s0 + dS I J + dS J K + dS K K ≤ 7302232 by have q1 := dC_add hc1 hc2; have q2 := dC_self K; omega⟩ (lw_in 1764 (by decide +kernel) (by decide +kernel)) hlo dL_law_1347 (fun H locs hH hlo => ?_)
  refine lv_iload b.1 b.2.1 dL_law_1350 (lv_at hl 1 rfl) ?_
  refine lx_eq (tgt := 1357) b h3 dL_law_1352 (by decide) ?_
  refine lv_iload b.1 b.2.1 dL_law_1357 (lv_at hl 1 rfl) ?_
  refine lx_ifne (tgt := 1374) b dL_law_1359 (by decide) (fun z1 => ?_) (fun z1 => ?_)
  · skip
    refine lv_goto (tgt := 1888) b.1 b.2.1 dL_law_1374 (by decide) ?_
    refine W.widen (k := c0 + dC I K) (n := s0 + dS I K) (show c0 + dC I J + dC J K + dC K K ≤ c0 + dC I K by have q1 := dC_add hc1 hc2; have q2 := dC_self K; omega) (show s0 + dS I J + dS J K + dS K K ≤ s0 + dS I K by have q1 := dC_add hc1 hc2; have q2 := dC_self K; omega) ?_
    exact kk H locs ls hH hlo (lv_sub hl [2, 3, 4, 5, 6] rfl)
  · skip
    refine lv_aload_n b.1 b.2.1 dL_law_1362 rfl (lv_at hl 5 rfl) ?_
    refine lv_iconst (v := Int32.ofInt 0) b.1 b.2.1 dL_law_1363 rfl ?_
    refine lx_lald b hH dL_law_1364 ?_
    refine lv_iload b.1 b.2.1 dL_law_1365 (lv_at hl 0 rfl) ?_
    refine lx_i2l b dL_law_1367 ?_
    refine lx_lcmp b (h4 z1) dL_law_1368 ?_
    refine lx_ifeq (x := 0) (tgt := 1374) b dL_law_1369 (by decide) (fun _ => ?_) (fun z => absurd (by decide) z)
    refine lv_goto (tgt := 1888) b.1 b.2.1 dL_law_1374 (by decide) ?_
    refine W.widen (k := c0 + dC I K) (n := s0 + dS I K) (show c0 + dC I J + dC J K + dC K K ≤ c0 + dC I K by have q1 := dC_add hc1 hc2; have q2 := dC_self K; omega) (show s0 + dS I J + dS J K + dS K K ≤ s0 + dS I K by have q1 := dC_add hc1 hc2; have q2 := dC_self K; omega) ?_
    exact kk H locs ls hH hlo (lv_sub hl [2, 3, 4, 5, 6] rfl)
set_option maxRecDepth 20000 in
set_option maxHeartbeats 4000000 in
theorem LC_28 {p : Program} {l : Launch} {e : Env} {s : State} {m : MethodId} {args : Array Value} {below : List Frame} {meth : Method} {c : Code} {H : Heap} {locs : List Loc} {c0 s0 : Nat} {Q : State → Prop} {ls : Array Slot} {Z : ZT} {I : Mem} {b0 L i : Nat} {xs : Nat → Int32} (b : BB p s m args c RL cL_law 9 Z) (hfl : l.stackTraces = false) (hX : va_X b0 L xs s s.heap) (hbl : b0 < s.heap.size) (hZ : zB Z = s.heap.size ∧ zH Z = s.heap) (hi : i + 6 ≤ L) (hL : L < 100000) (hH : HH Z I H) (hlo : ∀ q ∈ locs, zN Z q.base) (hl : lv_has ls 9 [(0, .ref b0), (1, vr Z 0 0), (2, vr Z 26 0), (3, vr Z 29 0), (4, vi (i : Int))]) {r1 : Int} {r2 : Int} {J K : Mem} (h1 : f_PR_inline  I = some (r1, J)) (h2 : f_M_inline  J = some (r2, K)) (h3 : w32 r1 = w32 r2) (hmc : c0 + dC I K ≤ 600002) (hms : s0 + dS I K ≤ 7302232)
    (kk : ∀ (H : Heap) (locs : List Loc) (ls : Array Slot), HH Z K H → (∀ q ∈ locs, zN Z q.base) → lv_has ls 9 [(0, .ref b0), (1, vr Z 0 0), (2, vr Z 26 0), (3, vr Z 29 0), (4, vi (i : Int))] → W p l e room_1 s m args below meth c H locs (c0 + dC I K) (s0 + dS I K) Q (F0 m 1888 ls [])) : W p l e room_1 s m args below meth c H locs c0 s0 Q (F0 m 1377 ls []) := by
  have hcK : cle J K := (R_M_inline Z  J _ _ h2).1
  refine lv_aload_n b.1 b.2.1 dL_law_1377 rfl (lv_at hl 1 rfl) ?_
  have R1 := R_PR_inline Z  I _ _ h1
  have hc1 : cle I J := R1.1
  refine lx_callV (n := 0) (As := []) (rest := []) b hfl hl.1 hH R1 ⟨(lw_in 1191 (by decide +kernel) (by decide +kernel)), (lw_in 1189 (by decide +kernel) (by decide +kernel)), (lw_in 1190 (by decide +kernel) (by decide +kernel)), (lw_in 138 (by decide +kernel) (by decide +kernel)), by decide +kernel⟩ (fun gr => ob_0) rfl rfl ⟨Nat.le_of_ble_eq_true rfl, Nat.le_of_ble_eq_true rfl⟩ (Nat.le_of_ble_eq_true rfl) ⟨show c0 + dC I J ≤ 600002 by have q1 := dC_add hc1 hcK; have q2 := dC_self K; omega, show s0 + dS I J ≤ 7302232 by have q1 := dC_add hc1 hcK; have q2 := dC_self K; omega⟩ (lw_in 1188 (by decide +kernel) (by decide +kernel)) hlo dL_law_1378 (fun H locs hH hlo => ?_)
  refine lv_aload_n b.1 b.2.1 dL_law_1381 rfl (lv_at hl 2 rfl) ?_
  have R2 := R_M_inline Z  J _ _ h2
  have hc2 : cle J K := R2.1
  refine lx_callV (n := 0) (As := []) (rest := [vi r1]) b hfl hl.1 hH R2 ⟨(lw_in 2242 (by decide +kernel) (by decide +kernel)), (lw_in 2240 (by decide +kernel) (by decide +kernel)), (lw_in 2241 (by decide +kernel) (by decide +kernel)), (lw_in 153 (by decide +kernel) (by decide +kernel)), by decide +kernel⟩ (fun gr => ob_26) rfl rfl ⟨Nat.le_of_ble_eq_true rfl, Nat.le_of_ble_eq_true rfl⟩ (Nat.le_of_ble_eq_true rfl) ⟨show c0 + dC I J + dC J K ≤ 600002 by have q1 := dC_add hc1 hc2; have q2 := dC_self K; omega, show s0 + dS I J + dS J K ≤ 7302232 by have q1 := dC_add hc1 hc2; have q2 := dC_self K; omega⟩ (lw_in 2239 (by decide +kernel) (by decide +kernel)) hlo dL_law_1382 (fun H locs hH hlo => ?_)
  refine lx_eq (tgt := 1888) b h3 dL_law_1385 (by decide) ?_
  refine W.widen (k := c0 + dC I K) (n := s0 + dS I K) (show c0 + dC I J + dC J K ≤ c0 + dC I K by have q1 := dC_add hc1 hc2; have q2 := dC_self K; omega) (show s0 + dS I J + dS J K ≤ s0 + dS I K by have q1 := dC_add hc1 hc2; have q2 := dC_self K; omega) ?_
  exact kk H locs ls hH hlo (lv_sub hl [0, 1, 2, 3, 4] rfl)
set_option maxRecDepth 20000 in
set_option maxHeartbeats 4000000 in
theorem LC_29 {p : Program} {l : Launch} {e : Env} {s : State} {m : MethodId} {args : Array Value} {below : List Frame} {meth : Method} {c : Code} {H : Heap} {locs : List Loc} {c0 s0 : Nat} {Q : State → Prop} {ls : Array Slot} {Z : ZT} {I : Mem} {b0 L i : Nat} {xs : Nat → Int32} (b : BB p s m args c RL cL_law 9 Z) (hfl : l.stackTraces = false) (hX : va_X b0 L xs s s.heap) (hbl : b0 < s.heap.size) (hZ : zB Z = s.heap.size ∧ zH Z = s.heap) (hi : i + 6 ≤ L) (hL : L < 100000) (hH : HH Z I H) (hlo : ∀ q ∈ locs, zN Z q.base) (hl : lv_has ls 9 [(0, .ref b0), (1, vr Z 0 0), (2, vr Z 26 0), (3, vr Z 29 0), (4, vi (i : Int))]) {r1 : Int} {r2 : Int} {J K : Mem} (h1 : f_L_make ((xs (i + 1)).toInt) ((xs (i + 2)).toInt) I = some (r1, J)) (h2 : f_M_make ((xs (i + 1)).toInt) ((xs (i + 2)).toInt) J = some (r2, K)) (h3 : w32 (K 26 0 7) = w32 r1) (h4 : w32 r1 = 0 → w64 (K 29 0 0) = w64 (w32 r2)) (hmc : c0 + dC I K ≤ 600002) (hms : s0 + dS I K ≤ 7302232)
    (kk : ∀ (H : Heap) (locs : List Loc) (ls : Array Slot), HH Z K H → (∀ q ∈ locs, zN Z q.base) → lv_has ls 9 [(0, .ref b0), (1, vr Z 0 0), (2, vr Z 26 0), (3, vr Z 29 0), (4, vi (i : Int))] → W p l e room_1 s m args below meth c H locs (c0 + dC I K) (s0 + dS I K) Q (F0 m 1888 ls [])) : W p l e room_1 s m args below meth c H locs c0 s0 Q (F0 m 1390 ls []) := by
  have hcK : cle J K := (R_M_make Z ((xs (i + 1)).toInt) ((xs (i + 2)).toInt) J _ _ h2).1
  refine lv_aload_n b.1 b.2.1 dL_law_1390 rfl (lv_at hl 1 rfl) ?_
  refine lv_aload_n b.1 b.2.1 dL_law_1391 rfl (lv_at hl 0 rfl) ?_
  refine lv_iload b.1 b.2.1 dL_law_1392 (lv_at hl 4 rfl) ?_
  refine lv_iconst (v := Int32.ofInt 1) b.1 b.2.1 dL_law_1394 rfl ?_
  refine lx_iadd b dL_law_1395 ?_
  refine lx_sld (q := i + 1) b hX hbl hZ hH hlo (w32_of (by omega) (by omega)) (by omega) dL_law_1396 ?_
  refine lv_aload_n b.1 b.2.1 dL_law_1397 rfl (lv_at hl 0 rfl) ?_
  refine lv_iload b.1 b.2.1 dL_law_1398 (lv_at hl 4 rfl) ?_
  refine lv_iconst (v := Int32.ofInt 2) b.1 b.2.1 dL_law_1400 rfl ?_
  refine lx_iadd b dL_law_1401 ?_
  refine lx_sld (q := i + 2) b hX hbl hZ hH hlo (w32_of (by omega) (by omega)) (by omega) dL_law_1402 ?_
  refine lv_aload_n b.1 b.2.1 dL_law_1403 rfl (lv_at hl 3 rfl) ?_
  have R1 := R_L_make Z ((xs (i + 1)).toInt) ((xs (i + 2)).toInt) I _ _ h1
  have hc1 : cle I J := R1.1
  refine lx_callS (n := 4) (As := [vr Z 0 0, vi (xs (i + 1)).toInt, vi (xs (i + 2)).toInt, vr Z 29 0]) (rest := []) b hfl hl.1 hH R1 (lw_in 1496 (by decide +kernel) (by decide +kernel)) (lw_in 1495 (by decide +kernel) (by decide +kernel)) (lw_in 137 (by decide +kernel) (by decide +kernel)) (by decide +kernel) rfl rfl ⟨Nat.le_of_ble_eq_true rfl, Nat.le_of_ble_eq_true rfl⟩ (Nat.le_of_ble_eq_true rfl) ⟨show c0 + dC I J ≤ 600002 by have q1 := dC_add hc1 hcK; have q2 := dC_self K; omega, show s0 + dS I J ≤ 7302232 by have q1 := dC_add hc1 hcK; have q2 := dC_self K; omega⟩ (lw_in 1494 (by decide +kernel) (by decide +kernel)) hlo dL_law_1404 (fun H locs hH hlo => ?_)
  refine lv_istore (lv' := [(5, vi r1), (0, .ref b0), (1, vr Z 0 0), (2, vr Z 26 0), (3, vr Z 29 0), (4, vi (i : Int))]) b.1 b.2.1 dL_law_1407 hl (by decide) rfl (fun ls hl => ?_)
  refine lv_aload_n b.1 b.2.1 dL_law_1409 rfl (lv_at hl 3 rfl) ?_
  refine lv_aload_n b.1 b.2.1 dL_law_1410 rfl (lv_at hl 1 rfl) ?_
  refine lv_iload b.1 b.2.1 dL_law_1411 (lv_at hl 5 rfl) ?_
  refine lv_iconst (v := Int32.ofInt 1) b.1 b.2.1 dL_law_1413 rfl ?_
  refine lx_iadd b dL_law_1414 ?_
  refine lx_sld (q := i + 1) b hX hbl hZ hH hlo (w32_of (by omega) (by omega)) (by omega) dL_law_1415 ?_
  refine lv_aload_n b.1 b.2.1 dL_law_1416 rfl (lv_at hl 1 rfl) ?_
  refine lv_iload b.1 b.2.1 dL_law_1417 (lv_at hl 5 rfl) ?_
  refine lv_iconst (v := Int32.ofInt 2) b.1 b.2.1 dL_law_1419 rfl ?_
  refine lx_iadd b dL_law_1420 ?_
  refine lx_sld (q := i + 2) b hX hbl hZ hH hlo (w32_of (by omega) (by omega)) (by omega) dL_law_1421 ?_
  have R2 := R_M_make Z ((xs (i + 1)).toInt) ((xs (i + 2)).toInt) J _ _ h2
  have hc2 : cle J K := R2.1
  refine lx_callV (n := 2) (As := [vi (xs (i + 1)).toInt, vi (xs (i + 2)).toInt]) (rest := []) b hfl hl.1 hH R2 ⟨(lw_in 2246 (by decide +kernel) (by decide +kernel)), (lw_in 2244 (by decide +kernel) (by decide +kernel)), (lw_in 2245 (by decide +kernel) (by decide +kernel)), (lw_in 153 (by decide +kernel) (by decide +kernel)), by decide +kernel⟩ (fun gr => ob_26) rfl rfl ⟨Nat.le_of_ble_eq_true rfl, Nat.le_of_ble_eq_true rfl⟩ (Nat.le_of_ble_eq_true rfl) ⟨show c0 + dC I J + dC J K ≤ 600002 by have q1 := dC_add hc1 hc2; have q2 := dC_self K; omega, show s0 + dS I J + dS J K ≤ 7302232 by have q1 := dC_add hc1 hc2; have q2 := dC_self K; omega⟩ (lw_in 2243 (by decide +kernel) (by decide +kernel)) hlo dL_law_1422 (fun H locs hH hlo => ?_)
  refine lv_istore (lv' := [(6, vi r2), (5, vi r1), (0, .ref b0), (1, vr Z 0 0), (2, vr Z 26 0), (3, vr Z 29 0), (4, vi (i : Int))]) b.1 b.2.1 dL_law_1425 hl (by decide) rfl (fun ls hl => ?_)
  refine lv_aload_n b.1 b.2.1 dL_law_1427 rfl (lv_at hl 4 rfl) ?_
  have R3 := R_M_thrown Z K _ _ (rfl : f_M_thrown K = some (K 26 0 7, K))
  refine lx_callV (n := 0) (As := []) (rest := []) b hfl hl.1 hH R3 ⟨(lw_in 1767 (by decide +kernel) (by decide +kernel)), (lw_in 1765 (by decide +kernel) (by decide +kernel)), (lw_in 1766 (by decide +kernel) (by decide +kernel)), (lw_in 153 (by decide +kernel) (by decide +kernel)), by decide +kernel⟩ (fun gr => ob_26) rfl rfl ⟨Nat.le_of_ble_eq_true rfl, Nat.le_of_ble_eq_true rfl⟩ (Nat.le_of_ble_eq_true rfl) ⟨show c0 + dC I J + dC J K + dC K K ≤ 600002 by have q1 := dC_add hc1 hc2; have q2 := dC_self K; omega, show s0 + dS I J + dS J K + dS K K ≤ 7302232 by have q1 := dC_add hc1 hc2; have q2 := dC_self K; omega⟩ (lw_in 1764 (by decide +kernel) (by decide +kernel)) hlo dL_law_1428 (fun H locs hH hlo => ?_)
  refine lv_iload b.1 b.2.1 dL_law_1431 (lv_at hl 1 rfl) ?_
  refine lx_eq (tgt := 1438) b h3 dL_law_1433 (by decide) ?_
  refine lv_iload b.1 b.2.1 dL_law_1438 (lv_at hl 1 rfl) ?_
  refine lx_ifne (tgt := 1455) b dL_law_1440 (by decide) (fun z1 => ?_) (fun z1 => ?_)
  · skip
    refine lv_goto (tgt := 1888) b.1 b.2.1 dL_law_1455 (by decide) ?_
    refine W.widen (k := c0 + dC I K) (n := s0 + dS I K) (show c0 + dC I J + dC J K + dC K K ≤ c0 + dC I K by have q1 := dC_add hc1 hc2; have q2 := dC_self K; omega) (show s0 + dS I J + dS J K + dS K K ≤ s0 + dS I K by have q1 := dC_add hc1 hc2; have q2 := dC_self K; omega) ?_
    exact kk H locs ls hH hlo (lv_sub hl [2, 3, 4, 5, 6] rfl)
  · skip
    refine lv_aload_n b.1 b.2.1 dL_law_1443 rfl (lv_at hl 5 rfl) ?_
    refine lv_iconst (v := Int32.ofInt 0) b.1 b.2.1 dL_law_1444 rfl ?_
    refine lx_lald b hH dL_law_1445 ?_
    refine lv_iload b.1 b.2.1 dL_law_1446 (lv_at hl 0 rfl) ?_
    refine lx_i2l b dL_law_1448 ?_
    refine lx_lcmp b (h4 z1) dL_law_1449 ?_
    refine lx_ifeq (x := 0) (tgt := 1455) b dL_law_1450 (by decide) (fun _ => ?_) (fun z => absurd (by decide) z)
    refine lv_goto (tgt := 1888) b.1 b.2.1 dL_law_1455 (by decide) ?_
    refine W.widen (k := c0 + dC I K) (n := s0 + dS I K) (show c0 + dC I J + dC J K + dC K K ≤ c0 + dC I K by have q1 := dC_add hc1 hc2; have q2 := dC_self K; omega) (show s0 + dS I J + dS J K + dS K K ≤ s0 + dS I K by have q1 := dC_add hc1 hc2; have q2 := dC_self K; omega) ?_
    exact kk H locs ls hH hlo (lv_sub hl [2, 3, 4, 5, 6] rfl)
set_option maxRecDepth 20000 in
set_option maxHeartbeats 4000000 in
theorem LC_30 {p : Program} {l : Launch} {e : Env} {s : State} {m : MethodId} {args : Array Value} {below : List Frame} {meth : Method} {c : Code} {H : Heap} {locs : List Loc} {c0 s0 : Nat} {Q : State → Prop} {ls : Array Slot} {Z : ZT} {I : Mem} {b0 L i : Nat} {xs : Nat → Int32} (b : BB p s m args c RL cL_law 9 Z) (hfl : l.stackTraces = false) (hX : va_X b0 L xs s s.heap) (hbl : b0 < s.heap.size) (hZ : zB Z = s.heap.size ∧ zH Z = s.heap) (hi : i + 6 ≤ L) (hL : L < 100000) (hH : HH Z I H) (hlo : ∀ q ∈ locs, zN Z q.base) (hl : lv_has ls 9 [(0, .ref b0), (1, vr Z 0 0), (2, vr Z 26 0), (3, vr Z 29 0), (4, vi (i : Int))]) {r1 : Int} {r2 : Int} {J K : Mem} (h1 : f_L_expand ((xs (i + 1)).toInt) I = some (r1, J)) (h2 : f_M_expand ((xs (i + 1)).toInt) J = some (r2, K)) (h3 : w32 (K 26 0 7) = w32 r1) (h4 : w32 r1 = 0 → w64 (K 29 0 0) = w64 (w32 r2)) (hmc : c0 + dC I K ≤ 600002) (hms : s0 + dS I K ≤ 7302232)
    (kk : ∀ (H : Heap) (locs : List Loc) (ls : Array Slot), HH Z K H → (∀ q ∈ locs, zN Z q.base) → lv_has ls 9 [(0, .ref b0), (1, vr Z 0 0), (2, vr Z 26 0), (3, vr Z 29 0), (4, vi (i : Int))] → W p l e room_1 s m args below meth c H locs (c0 + dC I K) (s0 + dS I K) Q (F0 m 1888 ls [])) : W p l e room_1 s m args below meth c H locs c0 s0 Q (F0 m 1458 ls []) := by
  have hcK : cle J K := (R_M_expand Z ((xs (i + 1)).toInt) J _ _ h2).1
  refine lv_aload_n b.1 b.2.1 dL_law_1458 rfl (lv_at hl 1 rfl) ?_
  refine lv_aload_n b.1 b.2.1 dL_law_1459 rfl (lv_at hl 0 rfl) ?_
  refine lv_iload b.1 b.2.1 dL_law_1460 (lv_at hl 4 rfl) ?_
  refine lv_iconst (v := Int32.ofInt 1) b.1 b.2.1 dL_law_1462 rfl ?_
  refine lx_iadd b dL_law_1463 ?_
  refine lx_sld (q := i + 1) b hX hbl hZ hH hlo (w32_of (by omega) (by omega)) (by omega) dL_law_1464 ?_
  refine lv_aload_n b.1 b.2.1 dL_law_1465 rfl (lv_at hl 3 rfl) ?_
  have R1 := R_L_expand Z ((xs (i + 1)).toInt) I _ _ h1
  have hc1 : cle I J := R1.1
  refine lx_callS (n := 3) (As := [vr Z 0 0, vi (xs (i + 1)).toInt, vr Z 29 0]) (rest := []) b hfl hl.1 hH R1 (lw_in 1503 (by decide +kernel) (by decide +kernel)) (lw_in 1502 (by decide +kernel) (by decide +kernel)) (lw_in 137 (by decide +kernel) (by decide +kernel)) (by decide +kernel) rfl rfl ⟨Nat.le_of_ble_eq_true rfl, Nat.le_of_ble_eq_true rfl⟩ (Nat.le_of_ble_eq_true rfl) ⟨show c0 + dC I J ≤ 600002 by have q1 := dC_add hc1 hcK; have q2 := dC_self K; omega, show s0 + dS I J ≤ 7302232 by have q1 := dC_add hc1 hcK; have q2 := dC_self K; omega⟩ (lw_in 1501 (by decide +kernel) (by decide +kernel)) hlo dL_law_1466 (fun H locs hH hlo => ?_)
  refine lv_istore (lv' := [(5, vi r1), (0, .ref b0), (1, vr Z 0 0), (2, vr Z 26 0), (3, vr Z 29 0), (4, vi (i : Int))]) b.1 b.2.1 dL_law_1469 hl (by decide) rfl (fun ls hl => ?_)
  refine lv_aload_n b.1 b.2.1 dL_law_1471 rfl (lv_at hl 3 rfl) ?_
  refine lv_aload_n b.1 b.2.1 dL_law_1472 rfl (lv_at hl 1 rfl) ?_
  refine lv_iload b.1 b.2.1 dL_law_1473 (lv_at hl 5 rfl) ?_
  refine lv_iconst (v := Int32.ofInt 1) b.1 b.2.1 dL_law_1475 rfl ?_
  refine lx_iadd b dL_law_1476 ?_
  refine lx_sld (q := i + 1) b hX hbl hZ hH hlo (w32_of (by omega) (by omega)) (by omega) dL_law_1477 ?_
  have R2 := R_M_expand Z ((xs (i + 1)).toInt) J _ _ h2
  have hc2 : cle J K := R2.1
  refine lx_callV (n := 1) (As := [vi (xs (i + 1)).toInt]) (rest := []) b hfl hl.1 hH R2 ⟨(lw_in 2250 (by decide +kernel) (by decide +kernel)), (lw_in 2248 (by decide +kernel) (by decide +kernel)), (lw_in 2249 (by decide +kernel) (by decide +kernel)), (lw_in 153 (by decide +kernel) (by decide +kernel)), by decide +kernel⟩ (fun gr => ob_26) rfl rfl ⟨Nat.le_of_ble_eq_true rfl, Nat.le_of_ble_eq_true rfl⟩ (Nat.le_of_ble_eq_true rfl) ⟨show c0 + dC I J + dC J K ≤ 600002 by have q1 := dC_add hc1 hc2; have q2 := dC_self K; omega, show s0 + dS I J + dS J K ≤ 7302232 by have q1 := dC_add hc1 hc2; have q2 := dC_self K; omega⟩ (lw_in 2247 (by decide +kernel) (by decide +kernel)) hlo dL_law_1478 (fun H locs hH hlo => ?_)
  refine lv_istore (lv' := [(6, vi r2), (5, vi r1), (0, .ref b0), (1, vr Z 0 0), (2, vr Z 26 0), (3, vr Z 29 0), (4, vi (i : Int))]) b.1 b.2.1 dL_law_1481 hl (by decide) rfl (fun ls hl => ?_)
  refine lv_aload_n b.1 b.2.1 dL_law_1483 rfl (lv_at hl 4 rfl) ?_
  have R3 := R_M_thrown Z K _ _ (rfl : f_M_thrown K = some (K 26 0 7, K))
  refine lx_callV (n := 0) (As := []) (rest := []) b hfl hl.1 hH R3 ⟨(lw_in 1767 (by decide +kernel) (by decide +kernel)), (lw_in 1765 (by decide +kernel) (by decide +kernel)), (lw_in 1766 (by decide +kernel) (by decide +kernel)), (lw_in 153 (by decide +kernel) (by decide +kernel)), by decide +kernel⟩ (fun gr => ob_26) rfl rfl ⟨Nat.le_of_ble_eq_true rfl, Nat.le_of_ble_eq_true rfl⟩ (Nat.le_of_ble_eq_true rfl) ⟨show c0 + dC I J + dC J K + dC K K ≤ 600002 by have q1 := dC_add hc1 hc2; have q2 := dC_self K; omega, show s0 + dS I J + dS J K + dS K K ≤ 7302232 by have q1 := dC_add hc1 hc2; have q2 := dC_self K; omega⟩ (lw_in 1764 (by decide +kernel) (by decide +kernel)) hlo dL_law_1484 (fun H locs hH hlo => ?_)
  refine lv_iload b.1 b.2.1 dL_law_1487 (lv_at hl 1 rfl) ?_
  refine lx_eq (tgt := 1494) b h3 dL_law_1489 (by decide) ?_
  refine lv_iload b.1 b.2.1 dL_law_1494 (lv_at hl 1 rfl) ?_
  refine lx_ifne (tgt := 1511) b dL_law_1496 (by decide) (fun z1 => ?_) (fun z1 => ?_)
  · skip
    refine lv_goto (tgt := 1888) b.1 b.2.1 dL_law_1511 (by decide) ?_
    refine W.widen (k := c0 + dC I K) (n := s0 + dS I K) (show c0 + dC I J + dC J K + dC K K ≤ c0 + dC I K by have q1 := dC_add hc1 hc2; have q2 := dC_self K; omega) (show s0 + dS I J + dS J K + dS K K ≤ s0 + dS I K by have q1 := dC_add hc1 hc2; have q2 := dC_self K; omega) ?_
    exact kk H locs ls hH hlo (lv_sub hl [2, 3, 4, 5, 6] rfl)
  · skip
    refine lv_aload_n b.1 b.2.1 dL_law_1499 rfl (lv_at hl 5 rfl) ?_
    refine lv_iconst (v := Int32.ofInt 0) b.1 b.2.1 dL_law_1500 rfl ?_
    refine lx_lald b hH dL_law_1501 ?_
    refine lv_iload b.1 b.2.1 dL_law_1502 (lv_at hl 0 rfl) ?_
    refine lx_i2l b dL_law_1504 ?_
    refine lx_lcmp b (h4 z1) dL_law_1505 ?_
    refine lx_ifeq (x := 0) (tgt := 1511) b dL_law_1506 (by decide) (fun _ => ?_) (fun z => absurd (by decide) z)
    refine lv_goto (tgt := 1888) b.1 b.2.1 dL_law_1511 (by decide) ?_
    refine W.widen (k := c0 + dC I K) (n := s0 + dS I K) (show c0 + dC I J + dC J K + dC K K ≤ c0 + dC I K by have q1 := dC_add hc1 hc2; have q2 := dC_self K; omega) (show s0 + dS I J + dS J K + dS K K ≤ s0 + dS I K by have q1 := dC_add hc1 hc2; have q2 := dC_self K; omega) ?_
    exact kk H locs ls hH hlo (lv_sub hl [2, 3, 4, 5, 6] rfl)
set_option maxRecDepth 20000 in
set_option maxHeartbeats 4000000 in
theorem LC_31 {p : Program} {l : Launch} {e : Env} {s : State} {m : MethodId} {args : Array Value} {below : List Frame} {meth : Method} {c : Code} {H : Heap} {locs : List Loc} {c0 s0 : Nat} {Q : State → Prop} {ls : Array Slot} {Z : ZT} {I : Mem} {b0 L i : Nat} {xs : Nat → Int32} (b : BB p s m args c RL cL_law 9 Z) (hfl : l.stackTraces = false) (hX : va_X b0 L xs s s.heap) (hbl : b0 < s.heap.size) (hZ : zB Z = s.heap.size ∧ zH Z = s.heap) (hi : i + 6 ≤ L) (hL : L < 100000) (hH : HH Z I H) (hlo : ∀ q ∈ locs, zN Z q.base) (hl : lv_has ls 9 [(0, .ref b0), (1, vr Z 0 0), (2, vr Z 26 0), (3, vr Z 29 0), (4, vi (i : Int))]) {r1 : Int} {r2 : Int} {J K : Mem} (h1 : f_L_append ((xs (i + 1)).toInt) I = some (r1, J)) (h2 : f_M_append ((xs (i + 1)).toInt) J = some (r2, K)) (h3 : w32 (K 26 0 7) = w32 r1) (h4 : w32 r1 = 0 → w64 (K 29 0 0) = w64 (w32 r2)) (hmc : c0 + dC I K ≤ 600002) (hms : s0 + dS I K ≤ 7302232)
    (kk : ∀ (H : Heap) (locs : List Loc) (ls : Array Slot), HH Z K H → (∀ q ∈ locs, zN Z q.base) → lv_has ls 9 [(0, .ref b0), (1, vr Z 0 0), (2, vr Z 26 0), (3, vr Z 29 0), (4, vi (i : Int))] → W p l e room_1 s m args below meth c H locs (c0 + dC I K) (s0 + dS I K) Q (F0 m 1888 ls [])) : W p l e room_1 s m args below meth c H locs c0 s0 Q (F0 m 1514 ls []) := by
  have hcK : cle J K := (R_M_append Z ((xs (i + 1)).toInt) J _ _ h2).1
  refine lv_aload_n b.1 b.2.1 dL_law_1514 rfl (lv_at hl 1 rfl) ?_
  refine lv_aload_n b.1 b.2.1 dL_law_1515 rfl (lv_at hl 0 rfl) ?_
  refine lv_iload b.1 b.2.1 dL_law_1516 (lv_at hl 4 rfl) ?_
  refine lv_iconst (v := Int32.ofInt 1) b.1 b.2.1 dL_law_1518 rfl ?_
  refine lx_iadd b dL_law_1519 ?_
  refine lx_sld (q := i + 1) b hX hbl hZ hH hlo (w32_of (by omega) (by omega)) (by omega) dL_law_1520 ?_
  refine lv_aload_n b.1 b.2.1 dL_law_1521 rfl (lv_at hl 3 rfl) ?_
  have R1 := R_L_append Z ((xs (i + 1)).toInt) I _ _ h1
  have hc1 : cle I J := R1.1
  refine lx_callS (n := 3) (As := [vr Z 0 0, vi (xs (i + 1)).toInt, vr Z 29 0]) (rest := []) b hfl hl.1 hH R1 (lw_in 1510 (by decide +kernel) (by decide +kernel)) (lw_in 1509 (by decide +kernel) (by decide +kernel)) (lw_in 137 (by decide +kernel) (by decide +kernel)) (by decide +kernel) rfl rfl ⟨Nat.le_of_ble_eq_true rfl, Nat.le_of_ble_eq_true rfl⟩ (Nat.le_of_ble_eq_true rfl) ⟨show c0 + dC I J ≤ 600002 by have q1 := dC_add hc1 hcK; have q2 := dC_self K; omega, show s0 + dS I J ≤ 7302232 by have q1 := dC_add hc1 hcK; have q2 := dC_self K; omega⟩ (lw_in 1508 (by decide +kernel) (by decide +kernel)) hlo dL_law_1522 (fun H locs hH hlo => ?_)
  refine lv_istore (lv' := [(5, vi r1), (0, .ref b0), (1, vr Z 0 0), (2, vr Z 26 0), (3, vr Z 29 0), (4, vi (i : Int))]) b.1 b.2.1 dL_law_1525 hl (by decide) rfl (fun ls hl => ?_)
  refine lv_aload_n b.1 b.2.1 dL_law_1527 rfl (lv_at hl 3 rfl) ?_
  refine lv_aload_n b.1 b.2.1 dL_law_1528 rfl (lv_at hl 1 rfl) ?_
  refine lv_iload b.1 b.2.1 dL_law_1529 (lv_at hl 5 rfl) ?_
  refine lv_iconst (v := Int32.ofInt 1) b.1 b.2.1 dL_law_1531 rfl ?_
  refine lx_iadd b dL_law_1532 ?_
  refine lx_sld (q := i + 1) b hX hbl hZ hH hlo (w32_of (by omega) (by omega)) (by omega) dL_law_1533 ?_
  have R2 := R_M_append Z ((xs (i + 1)).toInt) J _ _ h2
  have hc2 : cle J K := R2.1
  refine lx_callV (n := 1) (As := [vi (xs (i + 1)).toInt]) (rest := []) b hfl hl.1 hH R2 ⟨(lw_in 2254 (by decide +kernel) (by decide +kernel)), (lw_in 2252 (by decide +kernel) (by decide +kernel)), (lw_in 2253 (by decide +kernel) (by decide +kernel)), (lw_in 153 (by decide +kernel) (by decide +kernel)), by decide +kernel⟩ (fun gr => ob_26) rfl rfl ⟨Nat.le_of_ble_eq_true rfl, Nat.le_of_ble_eq_true rfl⟩ (Nat.le_of_ble_eq_true rfl) ⟨show c0 + dC I J + dC J K ≤ 600002 by have q1 := dC_add hc1 hc2; have q2 := dC_self K; omega, show s0 + dS I J + dS J K ≤ 7302232 by have q1 := dC_add hc1 hc2; have q2 := dC_self K; omega⟩ (lw_in 2251 (by decide +kernel) (by decide +kernel)) hlo dL_law_1534 (fun H locs hH hlo => ?_)
  refine lv_istore (lv' := [(6, vi r2), (5, vi r1), (0, .ref b0), (1, vr Z 0 0), (2, vr Z 26 0), (3, vr Z 29 0), (4, vi (i : Int))]) b.1 b.2.1 dL_law_1537 hl (by decide) rfl (fun ls hl => ?_)
  refine lv_aload_n b.1 b.2.1 dL_law_1539 rfl (lv_at hl 4 rfl) ?_
  have R3 := R_M_thrown Z K _ _ (rfl : f_M_thrown K = some (K 26 0 7, K))
  refine lx_callV (n := 0) (As := []) (rest := []) b hfl hl.1 hH R3 ⟨(lw_in 1767 (by decide +kernel) (by decide +kernel)), (lw_in 1765 (by decide +kernel) (by decide +kernel)), (lw_in 1766 (by decide +kernel) (by decide +kernel)), (lw_in 153 (by decide +kernel) (by decide +kernel)), by decide +kernel⟩ (fun gr => ob_26) rfl rfl ⟨Nat.le_of_ble_eq_true rfl, Nat.le_of_ble_eq_true rfl⟩ (Nat.le_of_ble_eq_true rfl) ⟨show c0 + dC I J + dC J K + dC K K ≤ 600002 by have q1 := dC_add hc1 hc2; have q2 := dC_self K; omega, show s0 + dS I J + dS J K + dS K K ≤ 7302232 by have q1 := dC_add hc1 hc2; have q2 := dC_self K; omega⟩ (lw_in 1764 (by decide +kernel) (by decide +kernel)) hlo dL_law_1540 (fun H locs hH hlo => ?_)
  refine lv_iload b.1 b.2.1 dL_law_1543 (lv_at hl 1 rfl) ?_
  refine lx_eq (tgt := 1550) b h3 dL_law_1545 (by decide) ?_
  refine lv_iload b.1 b.2.1 dL_law_1550 (lv_at hl 1 rfl) ?_
  refine lx_ifne (tgt := 1567) b dL_law_1552 (by decide) (fun z1 => ?_) (fun z1 => ?_)
  · skip
    refine lv_goto (tgt := 1888) b.1 b.2.1 dL_law_1567 (by decide) ?_
    refine W.widen (k := c0 + dC I K) (n := s0 + dS I K) (show c0 + dC I J + dC J K + dC K K ≤ c0 + dC I K by have q1 := dC_add hc1 hc2; have q2 := dC_self K; omega) (show s0 + dS I J + dS J K + dS K K ≤ s0 + dS I K by have q1 := dC_add hc1 hc2; have q2 := dC_self K; omega) ?_
    exact kk H locs ls hH hlo (lv_sub hl [2, 3, 4, 5, 6] rfl)
  · skip
    refine lv_aload_n b.1 b.2.1 dL_law_1555 rfl (lv_at hl 5 rfl) ?_
    refine lv_iconst (v := Int32.ofInt 0) b.1 b.2.1 dL_law_1556 rfl ?_
    refine lx_lald b hH dL_law_1557 ?_
    refine lv_iload b.1 b.2.1 dL_law_1558 (lv_at hl 0 rfl) ?_
    refine lx_i2l b dL_law_1560 ?_
    refine lx_lcmp b (h4 z1) dL_law_1561 ?_
    refine lx_ifeq (x := 0) (tgt := 1567) b dL_law_1562 (by decide) (fun _ => ?_) (fun z => absurd (by decide) z)
    refine lv_goto (tgt := 1888) b.1 b.2.1 dL_law_1567 (by decide) ?_
    refine W.widen (k := c0 + dC I K) (n := s0 + dS I K) (show c0 + dC I J + dC J K + dC K K ≤ c0 + dC I K by have q1 := dC_add hc1 hc2; have q2 := dC_self K; omega) (show s0 + dS I J + dS J K + dS K K ≤ s0 + dS I K by have q1 := dC_add hc1 hc2; have q2 := dC_self K; omega) ?_
    exact kk H locs ls hH hlo (lv_sub hl [2, 3, 4, 5, 6] rfl)
set_option maxRecDepth 20000 in
set_option maxHeartbeats 4000000 in
theorem LC_32 {p : Program} {l : Launch} {e : Env} {s : State} {m : MethodId} {args : Array Value} {below : List Frame} {meth : Method} {c : Code} {H : Heap} {locs : List Loc} {c0 s0 : Nat} {Q : State → Prop} {ls : Array Slot} {Z : ZT} {I : Mem} {b0 L i : Nat} {xs : Nat → Int32} (b : BB p s m args c RL cL_law 9 Z) (hfl : l.stackTraces = false) (hX : va_X b0 L xs s s.heap) (hbl : b0 < s.heap.size) (hZ : zB Z = s.heap.size ∧ zH Z = s.heap) (hi : i + 6 ≤ L) (hL : L < 100000) (hH : HH Z I H) (hlo : ∀ q ∈ locs, zN Z q.base) (hl : lv_has ls 9 [(0, .ref b0), (1, vr Z 0 0), (2, vr Z 26 0), (3, vr Z 29 0), (4, vi (i : Int))]) {r1 : Int} {r2 : Int} {J K : Mem} (h1 : f_L_cut ((xs (i + 1)).toInt) I = some (r1, J)) (h2 : f_M_cut ((xs (i + 1)).toInt) J = some (r2, K)) (h3 : w32 (K 26 0 7) = w32 r1) (h4 : w32 r1 = 0 → w64 (K 29 0 0) = w64 (w32 r2)) (hmc : c0 + dC I K ≤ 600002) (hms : s0 + dS I K ≤ 7302232)
    (kk : ∀ (H : Heap) (locs : List Loc) (ls : Array Slot), HH Z K H → (∀ q ∈ locs, zN Z q.base) → lv_has ls 9 [(0, .ref b0), (1, vr Z 0 0), (2, vr Z 26 0), (3, vr Z 29 0), (4, vi (i : Int))] → W p l e room_1 s m args below meth c H locs (c0 + dC I K) (s0 + dS I K) Q (F0 m 1888 ls [])) : W p l e room_1 s m args below meth c H locs c0 s0 Q (F0 m 1570 ls []) := by
  have hcK : cle J K := (R_M_cut Z ((xs (i + 1)).toInt) J _ _ h2).1
  refine lv_aload_n b.1 b.2.1 dL_law_1570 rfl (lv_at hl 1 rfl) ?_
  refine lv_aload_n b.1 b.2.1 dL_law_1571 rfl (lv_at hl 0 rfl) ?_
  refine lv_iload b.1 b.2.1 dL_law_1572 (lv_at hl 4 rfl) ?_
  refine lv_iconst (v := Int32.ofInt 1) b.1 b.2.1 dL_law_1574 rfl ?_
  refine lx_iadd b dL_law_1575 ?_
  refine lx_sld (q := i + 1) b hX hbl hZ hH hlo (w32_of (by omega) (by omega)) (by omega) dL_law_1576 ?_
  refine lv_aload_n b.1 b.2.1 dL_law_1577 rfl (lv_at hl 3 rfl) ?_
  have R1 := R_L_cut Z ((xs (i + 1)).toInt) I _ _ h1
  have hc1 : cle I J := R1.1
  refine lx_callS (n := 3) (As := [vr Z 0 0, vi (xs (i + 1)).toInt, vr Z 29 0]) (rest := []) b hfl hl.1 hH R1 (lw_in 1517 (by decide +kernel) (by decide +kernel)) (lw_in 1516 (by decide +kernel) (by decide +kernel)) (lw_in 137 (by decide +kernel) (by decide +kernel)) (by decide +kernel) rfl rfl ⟨Nat.le_of_ble_eq_true rfl, Nat.le_of_ble_eq_true rfl⟩ (Nat.le_of_ble_eq_true rfl) ⟨show c0 + dC I J ≤ 600002 by have q1 := dC_add hc1 hcK; have q2 := dC_self K; omega, show s0 + dS I J ≤ 7302232 by have q1 := dC_add hc1 hcK; have q2 := dC_self K; omega⟩ (lw_in 1515 (by decide +kernel) (by decide +kernel)) hlo dL_law_1578 (fun H locs hH hlo => ?_)
  refine lv_istore (lv' := [(5, vi r1), (0, .ref b0), (1, vr Z 0 0), (2, vr Z 26 0), (3, vr Z 29 0), (4, vi (i : Int))]) b.1 b.2.1 dL_law_1581 hl (by decide) rfl (fun ls hl => ?_)
  refine lv_aload_n b.1 b.2.1 dL_law_1583 rfl (lv_at hl 3 rfl) ?_
  refine lv_aload_n b.1 b.2.1 dL_law_1584 rfl (lv_at hl 1 rfl) ?_
  refine lv_iload b.1 b.2.1 dL_law_1585 (lv_at hl 5 rfl) ?_
  refine lv_iconst (v := Int32.ofInt 1) b.1 b.2.1 dL_law_1587 rfl ?_
  refine lx_iadd b dL_law_1588 ?_
  refine lx_sld (q := i + 1) b hX hbl hZ hH hlo (w32_of (by omega) (by omega)) (by omega) dL_law_1589 ?_
  have R2 := R_M_cut Z ((xs (i + 1)).toInt) J _ _ h2
  have hc2 : cle J K := R2.1
  refine lx_callV (n := 1) (As := [vi (xs (i + 1)).toInt]) (rest := []) b hfl hl.1 hH R2 ⟨(lw_in 2258 (by decide +kernel) (by decide +kernel)), (lw_in 2256 (by decide +kernel) (by decide +kernel)), (lw_in 2257 (by decide +kernel) (by decide +kernel)), (lw_in 153 (by decide +kernel) (by decide +kernel)), by decide +kernel⟩ (fun gr => ob_26) rfl rfl ⟨Nat.le_of_ble_eq_true rfl, Nat.le_of_ble_eq_true rfl⟩ (Nat.le_of_ble_eq_true rfl) ⟨show c0 + dC I J + dC J K ≤ 600002 by have q1 := dC_add hc1 hc2; have q2 := dC_self K; omega, show s0 + dS I J + dS J K ≤ 7302232 by have q1 := dC_add hc1 hc2; have q2 := dC_self K; omega⟩ (lw_in 2255 (by decide +kernel) (by decide +kernel)) hlo dL_law_1590 (fun H locs hH hlo => ?_)
  refine lv_istore (lv' := [(6, vi r2), (5, vi r1), (0, .ref b0), (1, vr Z 0 0), (2, vr Z 26 0), (3, vr Z 29 0), (4, vi (i : Int))]) b.1 b.2.1 dL_law_1593 hl (by decide) rfl (fun ls hl => ?_)
  refine lv_aload_n b.1 b.2.1 dL_law_1595 rfl (lv_at hl 4 rfl) ?_
  have R3 := R_M_thrown Z K _ _ (rfl : f_M_thrown K = some (K 26 0 7, K))
  refine lx_callV (n := 0) (As := []) (rest := []) b hfl hl.1 hH R3 ⟨(lw_in 1767 (by decide +kernel) (by decide +kernel)), (lw_in 1765 (by decide +kernel) (by decide +kernel)), (lw_in 1766 (by decide +kernel) (by decide +kernel)), (lw_in 153 (by decide +kernel) (by decide +kernel)), by decide +kernel⟩ (fun gr => ob_26) rfl rfl ⟨Nat.le_of_ble_eq_true rfl, Nat.le_of_ble_eq_true rfl⟩ (Nat.le_of_ble_eq_true rfl) ⟨show c0 + dC I J + dC J K + dC K K ≤ 600002 by have q1 := dC_add hc1 hc2; have q2 := dC_self K; omega, show s0 + dS I J + dS J K + dS K K ≤ 7302232 by have q1 := dC_add hc1 hc2; have q2 := dC_self K; omega⟩ (lw_in 1764 (by decide +kernel) (by decide +kernel)) hlo dL_law_1596 (fun H locs hH hlo => ?_)
  refine lv_iload b.1 b.2.1 dL_law_1599 (lv_at hl 1 rfl) ?_
  refine lx_eq (tgt := 1606) b h3 dL_law_1601 (by decide) ?_
  refine lv_iload b.1 b.2.1 dL_law_1606 (lv_at hl 1 rfl) ?_
  refine lx_ifne (tgt := 1623) b dL_law_1608 (by decide) (fun z1 => ?_) (fun z1 => ?_)
  · skip
    refine lv_goto (tgt := 1888) b.1 b.2.1 dL_law_1623 (by decide) ?_
    refine W.widen (k := c0 + dC I K) (n := s0 + dS I K) (show c0 + dC I J + dC J K + dC K K ≤ c0 + dC I K by have q1 := dC_add hc1 hc2; have q2 := dC_self K; omega) (show s0 + dS I J + dS J K + dS K K ≤ s0 + dS I K by have q1 := dC_add hc1 hc2; have q2 := dC_self K; omega) ?_
    exact kk H locs ls hH hlo (lv_sub hl [2, 3, 4, 5, 6] rfl)
  · skip
    refine lv_aload_n b.1 b.2.1 dL_law_1611 rfl (lv_at hl 5 rfl) ?_
    refine lv_iconst (v := Int32.ofInt 0) b.1 b.2.1 dL_law_1612 rfl ?_
    refine lx_lald b hH dL_law_1613 ?_
    refine lv_iload b.1 b.2.1 dL_law_1614 (lv_at hl 0 rfl) ?_
    refine lx_i2l b dL_law_1616 ?_
    refine lx_lcmp b (h4 z1) dL_law_1617 ?_
    refine lx_ifeq (x := 0) (tgt := 1623) b dL_law_1618 (by decide) (fun _ => ?_) (fun z => absurd (by decide) z)
    refine lv_goto (tgt := 1888) b.1 b.2.1 dL_law_1623 (by decide) ?_
    refine W.widen (k := c0 + dC I K) (n := s0 + dS I K) (show c0 + dC I J + dC J K + dC K K ≤ c0 + dC I K by have q1 := dC_add hc1 hc2; have q2 := dC_self K; omega) (show s0 + dS I J + dS J K + dS K K ≤ s0 + dS I K by have q1 := dC_add hc1 hc2; have q2 := dC_self K; omega) ?_
    exact kk H locs ls hH hlo (lv_sub hl [2, 3, 4, 5, 6] rfl)
set_option maxRecDepth 20000 in
set_option maxHeartbeats 4000000 in
theorem LC_33 {p : Program} {l : Launch} {e : Env} {s : State} {m : MethodId} {args : Array Value} {below : List Frame} {meth : Method} {c : Code} {H : Heap} {locs : List Loc} {c0 s0 : Nat} {Q : State → Prop} {ls : Array Slot} {Z : ZT} {I : Mem} {b0 L i : Nat} {xs : Nat → Int32} (b : BB p s m args c RL cL_law 9 Z) (hfl : l.stackTraces = false) (hX : va_X b0 L xs s s.heap) (hbl : b0 < s.heap.size) (hZ : zB Z = s.heap.size ∧ zH Z = s.heap) (hi : i + 6 ≤ L) (hL : L < 100000) (hH : HH Z I H) (hlo : ∀ q ∈ locs, zN Z q.base) (hl : lv_has ls 9 [(0, .ref b0), (1, vr Z 0 0), (2, vr Z 26 0), (3, vr Z 29 0), (4, vi (i : Int))]) {r1 : Int} {r2 : Int} {J K : Mem} (h1 : f_L_set ((xs (i + 1)).toInt) ((xs (i + 2)).toInt) I = some (r1, J)) (h2 : f_M_set ((xs (i + 1)).toInt) ((xs (i + 2)).toInt) J = some (r2, K)) (h3 : w32 (K 26 0 7) = w32 r1) (h4 : w32 r1 = 0 → w64 (K 29 0 0) = w64 (w32 r2)) (hmc : c0 + dC I K ≤ 600002) (hms : s0 + dS I K ≤ 7302232)
    (kk : ∀ (H : Heap) (locs : List Loc) (ls : Array Slot), HH Z K H → (∀ q ∈ locs, zN Z q.base) → lv_has ls 9 [(0, .ref b0), (1, vr Z 0 0), (2, vr Z 26 0), (3, vr Z 29 0), (4, vi (i : Int))] → W p l e room_1 s m args below meth c H locs (c0 + dC I K) (s0 + dS I K) Q (F0 m 1888 ls [])) : W p l e room_1 s m args below meth c H locs c0 s0 Q (F0 m 1626 ls []) := by
  have hcK : cle J K := (R_M_set Z ((xs (i + 1)).toInt) ((xs (i + 2)).toInt) J _ _ h2).1
  refine lv_aload_n b.1 b.2.1 dL_law_1626 rfl (lv_at hl 1 rfl) ?_
  refine lv_aload_n b.1 b.2.1 dL_law_1627 rfl (lv_at hl 0 rfl) ?_
  refine lv_iload b.1 b.2.1 dL_law_1628 (lv_at hl 4 rfl) ?_
  refine lv_iconst (v := Int32.ofInt 1) b.1 b.2.1 dL_law_1630 rfl ?_
  refine lx_iadd b dL_law_1631 ?_
  refine lx_sld (q := i + 1) b hX hbl hZ hH hlo (w32_of (by omega) (by omega)) (by omega) dL_law_1632 ?_
  refine lv_aload_n b.1 b.2.1 dL_law_1633 rfl (lv_at hl 0 rfl) ?_
  refine lv_iload b.1 b.2.1 dL_law_1634 (lv_at hl 4 rfl) ?_
  refine lv_iconst (v := Int32.ofInt 2) b.1 b.2.1 dL_law_1636 rfl ?_
  refine lx_iadd b dL_law_1637 ?_
  refine lx_sld (q := i + 2) b hX hbl hZ hH hlo (w32_of (by omega) (by omega)) (by omega) dL_law_1638 ?_
  refine lv_aload_n b.1 b.2.1 dL_law_1639 rfl (lv_at hl 3 rfl) ?_
  have R1 := R_L_set Z ((xs (i + 1)).toInt) ((xs (i + 2)).toInt) I _ _ h1
  have hc1 : cle I J := R1.1
  refine lx_callS (n := 4) (As := [vr Z 0 0, vi (xs (i + 1)).toInt, vi (xs (i + 2)).toInt, vr Z 29 0]) (rest := []) b hfl hl.1 hH R1 (lw_in 1524 (by decide +kernel) (by decide +kernel)) (lw_in 1523 (by decide +kernel) (by decide +kernel)) (lw_in 137 (by decide +kernel) (by decide +kernel)) (by decide +kernel) rfl rfl ⟨Nat.le_of_ble_eq_true rfl, Nat.le_of_ble_eq_true rfl⟩ (Nat.le_of_ble_eq_true rfl) ⟨show c0 + dC I J ≤ 600002 by have q1 := dC_add hc1 hcK; have q2 := dC_self K; omega, show s0 + dS I J ≤ 7302232 by have q1 := dC_add hc1 hcK; have q2 := dC_self K; omega⟩ (lw_in 1522 (by decide +kernel) (by decide +kernel)) hlo dL_law_1640 (fun H locs hH hlo => ?_)
  refine lv_istore (lv' := [(5, vi r1), (0, .ref b0), (1, vr Z 0 0), (2, vr Z 26 0), (3, vr Z 29 0), (4, vi (i : Int))]) b.1 b.2.1 dL_law_1643 hl (by decide) rfl (fun ls hl => ?_)
  refine lv_aload_n b.1 b.2.1 dL_law_1645 rfl (lv_at hl 3 rfl) ?_
  refine lv_aload_n b.1 b.2.1 dL_law_1646 rfl (lv_at hl 1 rfl) ?_
  refine lv_iload b.1 b.2.1 dL_law_1647 (lv_at hl 5 rfl) ?_
  refine lv_iconst (v := Int32.ofInt 1) b.1 b.2.1 dL_law_1649 rfl ?_
  refine lx_iadd b dL_law_1650 ?_
  refine lx_sld (q := i + 1) b hX hbl hZ hH hlo (w32_of (by omega) (by omega)) (by omega) dL_law_1651 ?_
  refine lv_aload_n b.1 b.2.1 dL_law_1652 rfl (lv_at hl 1 rfl) ?_
  refine lv_iload b.1 b.2.1 dL_law_1653 (lv_at hl 5 rfl) ?_
  refine lv_iconst (v := Int32.ofInt 2) b.1 b.2.1 dL_law_1655 rfl ?_
  refine lx_iadd b dL_law_1656 ?_
  refine lx_sld (q := i + 2) b hX hbl hZ hH hlo (w32_of (by omega) (by omega)) (by omega) dL_law_1657 ?_
  have R2 := R_M_set Z ((xs (i + 1)).toInt) ((xs (i + 2)).toInt) J _ _ h2
  have hc2 : cle J K := R2.1
  refine lx_callV (n := 2) (As := [vi (xs (i + 1)).toInt, vi (xs (i + 2)).toInt]) (rest := []) b hfl hl.1 hH R2 ⟨(lw_in 2262 (by decide +kernel) (by decide +kernel)), (lw_in 2260 (by decide +kernel) (by decide +kernel)), (lw_in 2261 (by decide +kernel) (by decide +kernel)), (lw_in 153 (by decide +kernel) (by decide +kernel)), by decide +kernel⟩ (fun gr => ob_26) rfl rfl ⟨Nat.le_of_ble_eq_true rfl, Nat.le_of_ble_eq_true rfl⟩ (Nat.le_of_ble_eq_true rfl) ⟨show c0 + dC I J + dC J K ≤ 600002 by have q1 := dC_add hc1 hc2; have q2 := dC_self K; omega, show s0 + dS I J + dS J K ≤ 7302232 by have q1 := dC_add hc1 hc2; have q2 := dC_self K; omega⟩ (lw_in 2259 (by decide +kernel) (by decide +kernel)) hlo dL_law_1658 (fun H locs hH hlo => ?_)
  refine lv_istore (lv' := [(6, vi r2), (5, vi r1), (0, .ref b0), (1, vr Z 0 0), (2, vr Z 26 0), (3, vr Z 29 0), (4, vi (i : Int))]) b.1 b.2.1 dL_law_1661 hl (by decide) rfl (fun ls hl => ?_)
  refine lv_aload_n b.1 b.2.1 dL_law_1663 rfl (lv_at hl 4 rfl) ?_
  have R3 := R_M_thrown Z K _ _ (rfl : f_M_thrown K = some (K 26 0 7, K))
  refine lx_callV (n := 0) (As := []) (rest := []) b hfl hl.1 hH R3 ⟨(lw_in 1767 (by decide +kernel) (by decide +kernel)), (lw_in 1765 (by decide +kernel) (by decide +kernel)), (lw_in 1766 (by decide +kernel) (by decide +kernel)), (lw_in 153 (by decide +kernel) (by decide +kernel)), by decide +kernel⟩ (fun gr => ob_26) rfl rfl ⟨Nat.le_of_ble_eq_true rfl, Nat.le_of_ble_eq_true rfl⟩ (Nat.le_of_ble_eq_true rfl) ⟨show c0 + dC I J + dC J K + dC K K ≤ 600002 by have q1 := dC_add hc1 hc2; have q2 := dC_self K; omega, show s0 + dS I J + dS J K + dS K K ≤ 7302232 by have q1 := dC_add hc1 hc2; have q2 := dC_self K; omega⟩ (lw_in 1764 (by decide +kernel) (by decide +kernel)) hlo dL_law_1664 (fun H locs hH hlo => ?_)
  refine lv_iload b.1 b.2.1 dL_law_1667 (lv_at hl 1 rfl) ?_
  refine lx_eq (tgt := 1674) b h3 dL_law_1669 (by decide) ?_
  refine lv_iload b.1 b.2.1 dL_law_1674 (lv_at hl 1 rfl) ?_
  refine lx_ifne (tgt := 1691) b dL_law_1676 (by decide) (fun z1 => ?_) (fun z1 => ?_)
  · skip
    refine lv_goto (tgt := 1888) b.1 b.2.1 dL_law_1691 (by decide) ?_
    refine W.widen (k := c0 + dC I K) (n := s0 + dS I K) (show c0 + dC I J + dC J K + dC K K ≤ c0 + dC I K by have q1 := dC_add hc1 hc2; have q2 := dC_self K; omega) (show s0 + dS I J + dS J K + dS K K ≤ s0 + dS I K by have q1 := dC_add hc1 hc2; have q2 := dC_self K; omega) ?_
    exact kk H locs ls hH hlo (lv_sub hl [2, 3, 4, 5, 6] rfl)
  · skip
    refine lv_aload_n b.1 b.2.1 dL_law_1679 rfl (lv_at hl 5 rfl) ?_
    refine lv_iconst (v := Int32.ofInt 0) b.1 b.2.1 dL_law_1680 rfl ?_
    refine lx_lald b hH dL_law_1681 ?_
    refine lv_iload b.1 b.2.1 dL_law_1682 (lv_at hl 0 rfl) ?_
    refine lx_i2l b dL_law_1684 ?_
    refine lx_lcmp b (h4 z1) dL_law_1685 ?_
    refine lx_ifeq (x := 0) (tgt := 1691) b dL_law_1686 (by decide) (fun _ => ?_) (fun z => absurd (by decide) z)
    refine lv_goto (tgt := 1888) b.1 b.2.1 dL_law_1691 (by decide) ?_
    refine W.widen (k := c0 + dC I K) (n := s0 + dS I K) (show c0 + dC I J + dC J K + dC K K ≤ c0 + dC I K by have q1 := dC_add hc1 hc2; have q2 := dC_self K; omega) (show s0 + dS I J + dS J K + dS K K ≤ s0 + dS I K by have q1 := dC_add hc1 hc2; have q2 := dC_self K; omega) ?_
    exact kk H locs ls hH hlo (lv_sub hl [2, 3, 4, 5, 6] rfl)
set_option maxRecDepth 20000 in
set_option maxHeartbeats 4000000 in
theorem LC_34 {p : Program} {l : Launch} {e : Env} {s : State} {m : MethodId} {args : Array Value} {below : List Frame} {meth : Method} {c : Code} {H : Heap} {locs : List Loc} {c0 s0 : Nat} {Q : State → Prop} {ls : Array Slot} {Z : ZT} {I : Mem} {b0 L i : Nat} {xs : Nat → Int32} (b : BB p s m args c RL cL_law 9 Z) (hfl : l.stackTraces = false) (hX : va_X b0 L xs s s.heap) (hbl : b0 < s.heap.size) (hZ : zB Z = s.heap.size ∧ zH Z = s.heap) (hi : i + 6 ≤ L) (hL : L < 100000) (hH : HH Z I H) (hlo : ∀ q ∈ locs, zN Z q.base) (hl : lv_has ls 9 [(0, .ref b0), (1, vr Z 0 0), (2, vr Z 26 0), (3, vr Z 29 0), (4, vi (i : Int))]) {r1 : Int} {r2 : Int} {J K : Mem} (h1 : f_PR_report  I = some (r1, J)) (h2 : f_M_report  J = some (r2, K)) (h3 : w32 r1 = w32 r2) (hmc : c0 + dC I K ≤ 600002) (hms : s0 + dS I K ≤ 7302232)
    (kk : ∀ (H : Heap) (locs : List Loc) (ls : Array Slot), HH Z K H → (∀ q ∈ locs, zN Z q.base) → lv_has ls 9 [(0, .ref b0), (1, vr Z 0 0), (2, vr Z 26 0), (3, vr Z 29 0), (4, vi (i : Int))] → W p l e room_1 s m args below meth c H locs (c0 + dC I K) (s0 + dS I K) Q (F0 m 1888 ls [])) : W p l e room_1 s m args below meth c H locs c0 s0 Q (F0 m 1694 ls []) := by
  have hcK : cle J K := (R_M_report Z  J _ _ h2).1
  refine lv_aload_n b.1 b.2.1 dL_law_1694 rfl (lv_at hl 1 rfl) ?_
  have R1 := R_PR_report Z  I _ _ h1
  have hc1 : cle I J := R1.1
  refine lx_callV (n := 0) (As := []) (rest := []) b hfl hl.1 hH R1 ⟨(lw_in 1195 (by decide +kernel) (by decide +kernel)), (lw_in 1193 (by decide +kernel) (by decide +kernel)), (lw_in 1194 (by decide +kernel) (by decide +kernel)), (lw_in 138 (by decide +kernel) (by decide +kernel)), by decide +kernel⟩ (fun gr => ob_0) rfl rfl ⟨Nat.le_of_ble_eq_true rfl, Nat.le_of_ble_eq_true rfl⟩ (Nat.le_of_ble_eq_true rfl) ⟨show c0 + dC I J ≤ 600002 by have q1 := dC_add hc1 hcK; have q2 := dC_self K; omega, show s0 + dS I J ≤ 7302232 by have q1 := dC_add hc1 hcK; have q2 := dC_self K; omega⟩ (lw_in 1192 (by decide +kernel) (by decide +kernel)) hlo dL_law_1695 (fun H locs hH hlo => ?_)
  refine lv_aload_n b.1 b.2.1 dL_law_1698 rfl (lv_at hl 2 rfl) ?_
  have R2 := R_M_report Z  J _ _ h2
  have hc2 : cle J K := R2.1
  refine lx_callV (n := 0) (As := []) (rest := [vi r1]) b hfl hl.1 hH R2 ⟨(lw_in 2266 (by decide +kernel) (by decide +kernel)), (lw_in 2264 (by decide +kernel) (by decide +kernel)), (lw_in 2265 (by decide +kernel) (by decide +kernel)), (lw_in 153 (by decide +kernel) (by decide +kernel)), by decide +kernel⟩ (fun gr => ob_26) rfl rfl ⟨Nat.le_of_ble_eq_true rfl, Nat.le_of_ble_eq_true rfl⟩ (Nat.le_of_ble_eq_true rfl) ⟨show c0 + dC I J + dC J K ≤ 600002 by have q1 := dC_add hc1 hc2; have q2 := dC_self K; omega, show s0 + dS I J + dS J K ≤ 7302232 by have q1 := dC_add hc1 hc2; have q2 := dC_self K; omega⟩ (lw_in 2263 (by decide +kernel) (by decide +kernel)) hlo dL_law_1699 (fun H locs hH hlo => ?_)
  refine lx_eq (tgt := 1888) b h3 dL_law_1702 (by decide) ?_
  refine W.widen (k := c0 + dC I K) (n := s0 + dS I K) (show c0 + dC I J + dC J K ≤ c0 + dC I K by have q1 := dC_add hc1 hc2; have q2 := dC_self K; omega) (show s0 + dS I J + dS J K ≤ s0 + dS I K by have q1 := dC_add hc1 hc2; have q2 := dC_self K; omega) ?_
  exact kk H locs ls hH hlo (lv_sub hl [0, 1, 2, 3, 4] rfl)
set_option maxRecDepth 20000 in
set_option maxHeartbeats 4000000 in
theorem LC_35 {p : Program} {l : Launch} {e : Env} {s : State} {m : MethodId} {args : Array Value} {below : List Frame} {meth : Method} {c : Code} {H : Heap} {locs : List Loc} {c0 s0 : Nat} {Q : State → Prop} {ls : Array Slot} {Z : ZT} {I : Mem} {b0 L i : Nat} {xs : Nat → Int32} (b : BB p s m args c RL cL_law 9 Z) (hfl : l.stackTraces = false) (hX : va_X b0 L xs s s.heap) (hbl : b0 < s.heap.size) (hZ : zB Z = s.heap.size ∧ zH Z = s.heap) (hi : i + 6 ≤ L) (hL : L < 100000) (hH : HH Z I H) (hlo : ∀ q ∈ locs, zN Z q.base) (hl : lv_has ls 9 [(0, .ref b0), (1, vr Z 0 0), (2, vr Z 26 0), (3, vr Z 29 0), (4, vi (i : Int))]) {r1 : Int} {r2 : Int} {J K : Mem} (h1 : f_PR_reportByte ((xs (i + 1)).toInt) I = some (r1, J)) (h2 : f_M_reportByte ((xs (i + 1)).toInt) J = some (r2, K)) (h3 : w32 r1 = w32 r2) (hmc : c0 + dC I K ≤ 600002) (hms : s0 + dS I K ≤ 7302232)
    (kk : ∀ (H : Heap) (locs : List Loc) (ls : Array Slot), HH Z K H → (∀ q ∈ locs, zN Z q.base) → lv_has ls 9 [(0, .ref b0), (1, vr Z 0 0), (2, vr Z 26 0), (3, vr Z 29 0), (4, vi (i : Int))] → W p l e room_1 s m args below meth c H locs (c0 + dC I K) (s0 + dS I K) Q (F0 m 1888 ls [])) : W p l e room_1 s m args below meth c H locs c0 s0 Q (F0 m 1707 ls []) := by
  have hcK : cle J K := (R_M_reportByte Z ((xs (i + 1)).toInt) J _ _ h2).1
  refine lv_aload_n b.1 b.2.1 dL_law_1707 rfl (lv_at hl 1 rfl) ?_
  refine lv_aload_n b.1 b.2.1 dL_law_1708 rfl (lv_at hl 0 rfl) ?_
  refine lv_iload b.1 b.2.1 dL_law_1709 (lv_at hl 4 rfl) ?_
  refine lv_iconst (v := Int32.ofInt 1) b.1 b.2.1 dL_law_1711 rfl ?_
  refine lx_iadd b dL_law_1712 ?_
  refine lx_sld (q := i + 1) b hX hbl hZ hH hlo (w32_of (by omega) (by omega)) (by omega) dL_law_1713 ?_
  have R1 := R_PR_reportByte Z ((xs (i + 1)).toInt) I _ _ h1
  have hc1 : cle I J := R1.1
  refine lx_callV (n := 1) (As := [vi (xs (i + 1)).toInt]) (rest := []) b hfl hl.1 hH R1 ⟨(lw_in 1226 (by decide +kernel) (by decide +kernel)), (lw_in 1224 (by decide +kernel) (by decide +kernel)), (lw_in 1225 (by decide +kernel) (by decide +kernel)), (lw_in 138 (by decide +kernel) (by decide +kernel)), by decide +kernel⟩ (fun gr => ob_0) rfl rfl ⟨Nat.le_of_ble_eq_true rfl, Nat.le_of_ble_eq_true rfl⟩ (Nat.le_of_ble_eq_true rfl) ⟨show c0 + dC I J ≤ 600002 by have q1 := dC_add hc1 hcK; have q2 := dC_self K; omega, show s0 + dS I J ≤ 7302232 by have q1 := dC_add hc1 hcK; have q2 := dC_self K; omega⟩ (lw_in 1223 (by decide +kernel) (by decide +kernel)) hlo dL_law_1714 (fun H locs hH hlo => ?_)
  refine lv_aload_n b.1 b.2.1 dL_law_1717 rfl (lv_at hl 2 rfl) ?_
  refine lv_aload_n b.1 b.2.1 dL_law_1718 rfl (lv_at hl 0 rfl) ?_
  refine lv_iload b.1 b.2.1 dL_law_1719 (lv_at hl 4 rfl) ?_
  refine lv_iconst (v := Int32.ofInt 1) b.1 b.2.1 dL_law_1721 rfl ?_
  refine lx_iadd b dL_law_1722 ?_
  refine lx_sld (q := i + 1) b hX hbl hZ hH hlo (w32_of (by omega) (by omega)) (by omega) dL_law_1723 ?_
  have R2 := R_M_reportByte Z ((xs (i + 1)).toInt) J _ _ h2
  have hc2 : cle J K := R2.1
  refine lx_callV (n := 1) (As := [vi (xs (i + 1)).toInt]) (rest := [vi r1]) b hfl hl.1 hH R2 ⟨(lw_in 2282 (by decide +kernel) (by decide +kernel)), (lw_in 2280 (by decide +kernel) (by decide +kernel)), (lw_in 2281 (by decide +kernel) (by decide +kernel)), (lw_in 153 (by decide +kernel) (by decide +kernel)), by decide +kernel⟩ (fun gr => ob_26) rfl rfl ⟨Nat.le_of_ble_eq_true rfl, Nat.le_of_ble_eq_true rfl⟩ (Nat.le_of_ble_eq_true rfl) ⟨show c0 + dC I J + dC J K ≤ 600002 by have q1 := dC_add hc1 hc2; have q2 := dC_self K; omega, show s0 + dS I J + dS J K ≤ 7302232 by have q1 := dC_add hc1 hc2; have q2 := dC_self K; omega⟩ (lw_in 2279 (by decide +kernel) (by decide +kernel)) hlo dL_law_1724 (fun H locs hH hlo => ?_)
  refine lx_eq (tgt := 1888) b h3 dL_law_1727 (by decide) ?_
  refine W.widen (k := c0 + dC I K) (n := s0 + dS I K) (show c0 + dC I J + dC J K ≤ c0 + dC I K by have q1 := dC_add hc1 hc2; have q2 := dC_self K; omega) (show s0 + dS I J + dS J K ≤ s0 + dS I K by have q1 := dC_add hc1 hc2; have q2 := dC_self K; omega) ?_
  exact kk H locs ls hH hlo (lv_sub hl [0, 1, 2, 3, 4] rfl)
set_option maxRecDepth 20000 in
set_option maxHeartbeats 4000000 in
theorem LC_36 {p : Program} {l : Launch} {e : Env} {s : State} {m : MethodId} {args : Array Value} {below : List Frame} {meth : Method} {c : Code} {H : Heap} {locs : List Loc} {c0 s0 : Nat} {Q : State → Prop} {ls : Array Slot} {Z : ZT} {I : Mem} {b0 L i : Nat} {xs : Nat → Int32} (b : BB p s m args c RL cL_law 9 Z) (hfl : l.stackTraces = false) (hX : va_X b0 L xs s s.heap) (hbl : b0 < s.heap.size) (hZ : zB Z = s.heap.size ∧ zH Z = s.heap) (hi : i + 6 ≤ L) (hL : L < 100000) (hH : HH Z I H) (hlo : ∀ q ∈ locs, zN Z q.base) (hl : lv_has ls 9 [(0, .ref b0), (1, vr Z 0 0), (2, vr Z 26 0), (3, vr Z 29 0), (4, vi (i : Int))]) {r1 : Int} {r2 : Int} {J K : Mem} (h1 : f_L_undo  I = some (r1, J)) (h2 : f_M_undo  J = some (r2, K)) (h3 : w32 (K 26 0 7) = w32 r1) (h4 : w32 r1 = 0 → w64 (K 29 0 0) = w64 (w32 r2)) (hmc : c0 + dC I K ≤ 600002) (hms : s0 + dS I K ≤ 7302232)
    (kk : ∀ (H : Heap) (locs : List Loc) (ls : Array Slot), HH Z K H → (∀ q ∈ locs, zN Z q.base) → lv_has ls 9 [(0, .ref b0), (1, vr Z 0 0), (2, vr Z 26 0), (3, vr Z 29 0), (4, vi (i : Int))] → W p l e room_1 s m args below meth c H locs (c0 + dC I K) (s0 + dS I K) Q (F0 m 1888 ls [])) : W p l e room_1 s m args below meth c H locs c0 s0 Q (F0 m 1732 ls []) := by
  have hcK : cle J K := (R_M_undo Z  J _ _ h2).1
  refine lv_aload_n b.1 b.2.1 dL_law_1732 rfl (lv_at hl 1 rfl) ?_
  refine lv_aload_n b.1 b.2.1 dL_law_1733 rfl (lv_at hl 3 rfl) ?_
  have R1 := R_L_undo Z  I _ _ h1
  have hc1 : cle I J := R1.1
  refine lx_callS (n := 2) (As := [vr Z 0 0, vr Z 29 0]) (rest := []) b hfl hl.1 hH R1 (lw_in 1531 (by decide +kernel) (by decide +kernel)) (lw_in 1530 (by decide +kernel) (by decide +kernel)) (lw_in 137 (by decide +kernel) (by decide +kernel)) (by decide +kernel) rfl rfl ⟨Nat.le_of_ble_eq_true rfl, Nat.le_of_ble_eq_true rfl⟩ (Nat.le_of_ble_eq_true rfl) ⟨show c0 + dC I J ≤ 600002 by have q1 := dC_add hc1 hcK; have q2 := dC_self K; omega, show s0 + dS I J ≤ 7302232 by have q1 := dC_add hc1 hcK; have q2 := dC_self K; omega⟩ (lw_in 1529 (by decide +kernel) (by decide +kernel)) hlo dL_law_1734 (fun H locs hH hlo => ?_)
  refine lv_istore (lv' := [(5, vi r1), (0, .ref b0), (1, vr Z 0 0), (2, vr Z 26 0), (3, vr Z 29 0), (4, vi (i : Int))]) b.1 b.2.1 dL_law_1737 hl (by decide) rfl (fun ls hl => ?_)
  refine lv_aload_n b.1 b.2.1 dL_law_1739 rfl (lv_at hl 3 rfl) ?_
  have R2 := R_M_undo Z  J _ _ h2
  have hc2 : cle J K := R2.1
  refine lx_callV (n := 0) (As := []) (rest := []) b hfl hl.1 hH R2 ⟨(lw_in 2286 (by decide +kernel) (by decide +kernel)), (lw_in 2284 (by decide +kernel) (by decide +kernel)), (lw_in 2285 (by decide +kernel) (by decide +kernel)), (lw_in 153 (by decide +kernel) (by decide +kernel)), by decide +kernel⟩ (fun gr => ob_26) rfl rfl ⟨Nat.le_of_ble_eq_true rfl, Nat.le_of_ble_eq_true rfl⟩ (Nat.le_of_ble_eq_true rfl) ⟨show c0 + dC I J + dC J K ≤ 600002 by have q1 := dC_add hc1 hc2; have q2 := dC_self K; omega, show s0 + dS I J + dS J K ≤ 7302232 by have q1 := dC_add hc1 hc2; have q2 := dC_self K; omega⟩ (lw_in 2283 (by decide +kernel) (by decide +kernel)) hlo dL_law_1740 (fun H locs hH hlo => ?_)
  refine lv_istore (lv' := [(6, vi r2), (5, vi r1), (0, .ref b0), (1, vr Z 0 0), (2, vr Z 26 0), (3, vr Z 29 0), (4, vi (i : Int))]) b.1 b.2.1 dL_law_1743 hl (by decide) rfl (fun ls hl => ?_)
  refine lv_aload_n b.1 b.2.1 dL_law_1745 rfl (lv_at hl 4 rfl) ?_
  have R3 := R_M_thrown Z K _ _ (rfl : f_M_thrown K = some (K 26 0 7, K))
  refine lx_callV (n := 0) (As := []) (rest := []) b hfl hl.1 hH R3 ⟨(lw_in 1767 (by decide +kernel) (by decide +kernel)), (lw_in 1765 (by decide +kernel) (by decide +kernel)), (lw_in 1766 (by decide +kernel) (by decide +kernel)), (lw_in 153 (by decide +kernel) (by decide +kernel)), by decide +kernel⟩ (fun gr => ob_26) rfl rfl ⟨Nat.le_of_ble_eq_true rfl, Nat.le_of_ble_eq_true rfl⟩ (Nat.le_of_ble_eq_true rfl) ⟨show c0 + dC I J + dC J K + dC K K ≤ 600002 by have q1 := dC_add hc1 hc2; have q2 := dC_self K; omega, show s0 + dS I J + dS J K + dS K K ≤ 7302232 by have q1 := dC_add hc1 hc2; have q2 := dC_self K; omega⟩ (lw_in 1764 (by decide +kernel) (by decide +kernel)) hlo dL_law_1746 (fun H locs hH hlo => ?_)
  refine lv_iload b.1 b.2.1 dL_law_1749 (lv_at hl 1 rfl) ?_
  refine lx_eq (tgt := 1756) b h3 dL_law_1751 (by decide) ?_
  refine lv_iload b.1 b.2.1 dL_law_1756 (lv_at hl 1 rfl) ?_
  refine lx_ifne (tgt := 1773) b dL_law_1758 (by decide) (fun z1 => ?_) (fun z1 => ?_)
  · skip
    refine lv_goto (tgt := 1888) b.1 b.2.1 dL_law_1773 (by decide) ?_
    refine W.widen (k := c0 + dC I K) (n := s0 + dS I K) (show c0 + dC I J + dC J K + dC K K ≤ c0 + dC I K by have q1 := dC_add hc1 hc2; have q2 := dC_self K; omega) (show s0 + dS I J + dS J K + dS K K ≤ s0 + dS I K by have q1 := dC_add hc1 hc2; have q2 := dC_self K; omega) ?_
    exact kk H locs ls hH hlo (lv_sub hl [2, 3, 4, 5, 6] rfl)
  · skip
    refine lv_aload_n b.1 b.2.1 dL_law_1761 rfl (lv_at hl 5 rfl) ?_
    refine lv_iconst (v := Int32.ofInt 0) b.1 b.2.1 dL_law_1762 rfl ?_
    refine lx_lald b hH dL_law_1763 ?_
    refine lv_iload b.1 b.2.1 dL_law_1764 (lv_at hl 0 rfl) ?_
    refine lx_i2l b dL_law_1766 ?_
    refine lx_lcmp b (h4 z1) dL_law_1767 ?_
    refine lx_ifeq (x := 0) (tgt := 1773) b dL_law_1768 (by decide) (fun _ => ?_) (fun z => absurd (by decide) z)
    refine lv_goto (tgt := 1888) b.1 b.2.1 dL_law_1773 (by decide) ?_
    refine W.widen (k := c0 + dC I K) (n := s0 + dS I K) (show c0 + dC I J + dC J K + dC K K ≤ c0 + dC I K by have q1 := dC_add hc1 hc2; have q2 := dC_self K; omega) (show s0 + dS I J + dS J K + dS K K ≤ s0 + dS I K by have q1 := dC_add hc1 hc2; have q2 := dC_self K; omega) ?_
    exact kk H locs ls hH hlo (lv_sub hl [2, 3, 4, 5, 6] rfl)
set_option maxRecDepth 20000 in
set_option maxHeartbeats 4000000 in
theorem LC_37 {p : Program} {l : Launch} {e : Env} {s : State} {m : MethodId} {args : Array Value} {below : List Frame} {meth : Method} {c : Code} {H : Heap} {locs : List Loc} {c0 s0 : Nat} {Q : State → Prop} {ls : Array Slot} {Z : ZT} {I : Mem} {b0 L i : Nat} {xs : Nat → Int32} (b : BB p s m args c RL cL_law 9 Z) (hfl : l.stackTraces = false) (hX : va_X b0 L xs s s.heap) (hbl : b0 < s.heap.size) (hZ : zB Z = s.heap.size ∧ zH Z = s.heap) (hi : i + 6 ≤ L) (hL : L < 100000) (hH : HH Z I H) (hlo : ∀ q ∈ locs, zN Z q.base) (hl : lv_has ls 9 [(0, .ref b0), (1, vr Z 0 0), (2, vr Z 26 0), (3, vr Z 29 0), (4, vi (i : Int))]) {r1 : Int} {r2 : Int} {J K : Mem} (h1 : f_L_save ((xs (i + 1)).toInt) I = some (r1, J)) (h2 : f_M_save ((xs (i + 1)).toInt) J = some (r2, K)) (h3 : w32 (K 26 0 7) = w32 r1) (h4 : w32 r1 = 0 → w64 (K 29 0 0) = w64 (w32 r2)) (hmc : c0 + dC I K ≤ 600002) (hms : s0 + dS I K ≤ 7302232)
    (kk : ∀ (H : Heap) (locs : List Loc) (ls : Array Slot), HH Z K H → (∀ q ∈ locs, zN Z q.base) → lv_has ls 9 [(0, .ref b0), (1, vr Z 0 0), (2, vr Z 26 0), (3, vr Z 29 0), (4, vi (i : Int))] → W p l e room_1 s m args below meth c H locs (c0 + dC I K) (s0 + dS I K) Q (F0 m 1888 ls [])) : W p l e room_1 s m args below meth c H locs c0 s0 Q (F0 m 1776 ls []) := by
  have hcK : cle J K := (R_M_save Z ((xs (i + 1)).toInt) J _ _ h2).1
  refine lv_aload_n b.1 b.2.1 dL_law_1776 rfl (lv_at hl 1 rfl) ?_
  refine lv_aload_n b.1 b.2.1 dL_law_1777 rfl (lv_at hl 0 rfl) ?_
  refine lv_iload b.1 b.2.1 dL_law_1778 (lv_at hl 4 rfl) ?_
  refine lv_iconst (v := Int32.ofInt 1) b.1 b.2.1 dL_law_1780 rfl ?_
  refine lx_iadd b dL_law_1781 ?_
  refine lx_sld (q := i + 1) b hX hbl hZ hH hlo (w32_of (by omega) (by omega)) (by omega) dL_law_1782 ?_
  refine lv_aload_n b.1 b.2.1 dL_law_1783 rfl (lv_at hl 3 rfl) ?_
  have R1 := R_L_save Z ((xs (i + 1)).toInt) I _ _ h1
  have hc1 : cle I J := R1.1
  refine lx_callS (n := 3) (As := [vr Z 0 0, vi (xs (i + 1)).toInt, vr Z 29 0]) (rest := []) b hfl hl.1 hH R1 (lw_in 1558 (by decide +kernel) (by decide +kernel)) (lw_in 1557 (by decide +kernel) (by decide +kernel)) (lw_in 137 (by decide +kernel) (by decide +kernel)) (by decide +kernel) rfl rfl ⟨Nat.le_of_ble_eq_true rfl, Nat.le_of_ble_eq_true rfl⟩ (Nat.le_of_ble_eq_true rfl) ⟨show c0 + dC I J ≤ 600002 by have q1 := dC_add hc1 hcK; have q2 := dC_self K; omega, show s0 + dS I J ≤ 7302232 by have q1 := dC_add hc1 hcK; have q2 := dC_self K; omega⟩ (lw_in 1556 (by decide +kernel) (by decide +kernel)) hlo dL_law_1784 (fun H locs hH hlo => ?_)
  refine lv_istore (lv' := [(5, vi r1), (0, .ref b0), (1, vr Z 0 0), (2, vr Z 26 0), (3, vr Z 29 0), (4, vi (i : Int))]) b.1 b.2.1 dL_law_1787 hl (by decide) rfl (fun ls hl => ?_)
  refine lv_aload_n b.1 b.2.1 dL_law_1789 rfl (lv_at hl 3 rfl) ?_
  refine lv_aload_n b.1 b.2.1 dL_law_1790 rfl (lv_at hl 1 rfl) ?_
  refine lv_iload b.1 b.2.1 dL_law_1791 (lv_at hl 5 rfl) ?_
  refine lv_iconst (v := Int32.ofInt 1) b.1 b.2.1 dL_law_1793 rfl ?_
  refine lx_iadd b dL_law_1794 ?_
  refine lx_sld (q := i + 1) b hX hbl hZ hH hlo (w32_of (by omega) (by omega)) (by omega) dL_law_1795 ?_
  have R2 := R_M_save Z ((xs (i + 1)).toInt) J _ _ h2
  have hc2 : cle J K := R2.1
  refine lx_callV (n := 1) (As := [vi (xs (i + 1)).toInt]) (rest := []) b hfl hl.1 hH R2 ⟨(lw_in 2290 (by decide +kernel) (by decide +kernel)), (lw_in 2288 (by decide +kernel) (by decide +kernel)), (lw_in 2289 (by decide +kernel) (by decide +kernel)), (lw_in 153 (by decide +kernel) (by decide +kernel)), by decide +kernel⟩ (fun gr => ob_26) rfl rfl ⟨Nat.le_of_ble_eq_true rfl, Nat.le_of_ble_eq_true rfl⟩ (Nat.le_of_ble_eq_true rfl) ⟨show c0 + dC I J + dC J K ≤ 600002 by have q1 := dC_add hc1 hc2; have q2 := dC_self K; omega, show s0 + dS I J + dS J K ≤ 7302232 by have q1 := dC_add hc1 hc2; have q2 := dC_self K; omega⟩ (lw_in 2287 (by decide +kernel) (by decide +kernel)) hlo dL_law_1796 (fun H locs hH hlo => ?_)
  refine lv_istore (lv' := [(6, vi r2), (5, vi r1), (0, .ref b0), (1, vr Z 0 0), (2, vr Z 26 0), (3, vr Z 29 0), (4, vi (i : Int))]) b.1 b.2.1 dL_law_1799 hl (by decide) rfl (fun ls hl => ?_)
  refine lv_aload_n b.1 b.2.1 dL_law_1801 rfl (lv_at hl 4 rfl) ?_
  have R3 := R_M_thrown Z K _ _ (rfl : f_M_thrown K = some (K 26 0 7, K))
  refine lx_callV (n := 0) (As := []) (rest := []) b hfl hl.1 hH R3 ⟨(lw_in 1767 (by decide +kernel) (by decide +kernel)), (lw_in 1765 (by decide +kernel) (by decide +kernel)), (lw_in 1766 (by decide +kernel) (by decide +kernel)), (lw_in 153 (by decide +kernel) (by decide +kernel)), by decide +kernel⟩ (fun gr => ob_26) rfl rfl ⟨Nat.le_of_ble_eq_true rfl, Nat.le_of_ble_eq_true rfl⟩ (Nat.le_of_ble_eq_true rfl) ⟨show c0 + dC I J + dC J K + dC K K ≤ 600002 by have q1 := dC_add hc1 hc2; have q2 := dC_self K; omega, show s0 + dS I J + dS J K + dS K K ≤ 7302232 by have q1 := dC_add hc1 hc2; have q2 := dC_self K; omega⟩ (lw_in 1764 (by decide +kernel) (by decide +kernel)) hlo dL_law_1802 (fun H locs hH hlo => ?_)
  refine lv_iload b.1 b.2.1 dL_law_1805 (lv_at hl 1 rfl) ?_
  refine lx_eq (tgt := 1812) b h3 dL_law_1807 (by decide) ?_
  refine lv_iload b.1 b.2.1 dL_law_1812 (lv_at hl 1 rfl) ?_
  refine lx_ifne (tgt := 1829) b dL_law_1814 (by decide) (fun z1 => ?_) (fun z1 => ?_)
  · skip
    refine lv_goto (tgt := 1888) b.1 b.2.1 dL_law_1829 (by decide) ?_
    refine W.widen (k := c0 + dC I K) (n := s0 + dS I K) (show c0 + dC I J + dC J K + dC K K ≤ c0 + dC I K by have q1 := dC_add hc1 hc2; have q2 := dC_self K; omega) (show s0 + dS I J + dS J K + dS K K ≤ s0 + dS I K by have q1 := dC_add hc1 hc2; have q2 := dC_self K; omega) ?_
    exact kk H locs ls hH hlo (lv_sub hl [2, 3, 4, 5, 6] rfl)
  · skip
    refine lv_aload_n b.1 b.2.1 dL_law_1817 rfl (lv_at hl 5 rfl) ?_
    refine lv_iconst (v := Int32.ofInt 0) b.1 b.2.1 dL_law_1818 rfl ?_
    refine lx_lald b hH dL_law_1819 ?_
    refine lv_iload b.1 b.2.1 dL_law_1820 (lv_at hl 0 rfl) ?_
    refine lx_i2l b dL_law_1822 ?_
    refine lx_lcmp b (h4 z1) dL_law_1823 ?_
    refine lx_ifeq (x := 0) (tgt := 1829) b dL_law_1824 (by decide) (fun _ => ?_) (fun z => absurd (by decide) z)
    refine lv_goto (tgt := 1888) b.1 b.2.1 dL_law_1829 (by decide) ?_
    refine W.widen (k := c0 + dC I K) (n := s0 + dS I K) (show c0 + dC I J + dC J K + dC K K ≤ c0 + dC I K by have q1 := dC_add hc1 hc2; have q2 := dC_self K; omega) (show s0 + dS I J + dS J K + dS K K ≤ s0 + dS I K by have q1 := dC_add hc1 hc2; have q2 := dC_self K; omega) ?_
    exact kk H locs ls hH hlo (lv_sub hl [2, 3, 4, 5, 6] rfl)
set_option maxRecDepth 20000 in
set_option maxHeartbeats 4000000 in
theorem LC_38 {p : Program} {l : Launch} {e : Env} {s : State} {m : MethodId} {args : Array Value} {below : List Frame} {meth : Method} {c : Code} {H : Heap} {locs : List Loc} {c0 s0 : Nat} {Q : State → Prop} {ls : Array Slot} {Z : ZT} {I : Mem} {b0 L i : Nat} {xs : Nat → Int32} (b : BB p s m args c RL cL_law 9 Z) (hfl : l.stackTraces = false) (hX : va_X b0 L xs s s.heap) (hbl : b0 < s.heap.size) (hZ : zB Z = s.heap.size ∧ zH Z = s.heap) (hi : i + 6 ≤ L) (hL : L < 100000) (hH : HH Z I H) (hlo : ∀ q ∈ locs, zN Z q.base) (hl : lv_has ls 9 [(0, .ref b0), (1, vr Z 0 0), (2, vr Z 26 0), (3, vr Z 29 0), (4, vi (i : Int))]) {r1 : Int} {r2 : Int} {J K : Mem} (h1 : f_L_restore ((xs (i + 1)).toInt) I = some (r1, J)) (h2 : f_M_restore ((xs (i + 1)).toInt) J = some (r2, K)) (h3 : w32 (K 26 0 7) = w32 r1) (h4 : w32 r1 = 0 → w64 (K 29 0 0) = w64 (w32 r2)) (hmc : c0 + dC I K ≤ 600002) (hms : s0 + dS I K ≤ 7302232)
    (kk : ∀ (H : Heap) (locs : List Loc) (ls : Array Slot), HH Z K H → (∀ q ∈ locs, zN Z q.base) → lv_has ls 9 [(0, .ref b0), (1, vr Z 0 0), (2, vr Z 26 0), (3, vr Z 29 0), (4, vi (i : Int))] → W p l e room_1 s m args below meth c H locs (c0 + dC I K) (s0 + dS I K) Q (F0 m 1888 ls [])) : W p l e room_1 s m args below meth c H locs c0 s0 Q (F0 m 1832 ls []) := by
  have hcK : cle J K := (R_M_restore Z ((xs (i + 1)).toInt) J _ _ h2).1
  refine lv_aload_n b.1 b.2.1 dL_law_1832 rfl (lv_at hl 1 rfl) ?_
  refine lv_aload_n b.1 b.2.1 dL_law_1833 rfl (lv_at hl 0 rfl) ?_
  refine lv_iload b.1 b.2.1 dL_law_1834 (lv_at hl 4 rfl) ?_
  refine lv_iconst (v := Int32.ofInt 1) b.1 b.2.1 dL_law_1836 rfl ?_
  refine lx_iadd b dL_law_1837 ?_
  refine lx_sld (q := i + 1) b hX hbl hZ hH hlo (w32_of (by omega) (by omega)) (by omega) dL_law_1838 ?_
  refine lv_aload_n b.1 b.2.1 dL_law_1839 rfl (lv_at hl 3 rfl) ?_
  have R1 := R_L_restore Z ((xs (i + 1)).toInt) I _ _ h1
  have hc1 : cle I J := R1.1
  refine lx_callS (n := 3) (As := [vr Z 0 0, vi (xs (i + 1)).toInt, vr Z 29 0]) (rest := []) b hfl hl.1 hH R1 (lw_in 1569 (by decide +kernel) (by decide +kernel)) (lw_in 1568 (by decide +kernel) (by decide +kernel)) (lw_in 137 (by decide +kernel) (by decide +kernel)) (by decide +kernel) rfl rfl ⟨Nat.le_of_ble_eq_true rfl, Nat.le_of_ble_eq_true rfl⟩ (Nat.le_of_ble_eq_true rfl) ⟨show c0 + dC I J ≤ 600002 by have q1 := dC_add hc1 hcK; have q2 := dC_self K; omega, show s0 + dS I J ≤ 7302232 by have q1 := dC_add hc1 hcK; have q2 := dC_self K; omega⟩ (lw_in 1567 (by decide +kernel) (by decide +kernel)) hlo dL_law_1840 (fun H locs hH hlo => ?_)
  refine lv_istore (lv' := [(5, vi r1), (0, .ref b0), (1, vr Z 0 0), (2, vr Z 26 0), (3, vr Z 29 0), (4, vi (i : Int))]) b.1 b.2.1 dL_law_1843 hl (by decide) rfl (fun ls hl => ?_)
  refine lv_aload_n b.1 b.2.1 dL_law_1845 rfl (lv_at hl 3 rfl) ?_
  refine lv_aload_n b.1 b.2.1 dL_law_1846 rfl (lv_at hl 1 rfl) ?_
  refine lv_iload b.1 b.2.1 dL_law_1847 (lv_at hl 5 rfl) ?_
  refine lv_iconst (v := Int32.ofInt 1) b.1 b.2.1 dL_law_1849 rfl ?_
  refine lx_iadd b dL_law_1850 ?_
  refine lx_sld (q := i + 1) b hX hbl hZ hH hlo (w32_of (by omega) (by omega)) (by omega) dL_law_1851 ?_
  have R2 := R_M_restore Z ((xs (i + 1)).toInt) J _ _ h2
  have hc2 : cle J K := R2.1
  refine lx_callV (n := 1) (As := [vi (xs (i + 1)).toInt]) (rest := []) b hfl hl.1 hH R2 ⟨(lw_in 2298 (by decide +kernel) (by decide +kernel)), (lw_in 2296 (by decide +kernel) (by decide +kernel)), (lw_in 2297 (by decide +kernel) (by decide +kernel)), (lw_in 153 (by decide +kernel) (by decide +kernel)), by decide +kernel⟩ (fun gr => ob_26) rfl rfl ⟨Nat.le_of_ble_eq_true rfl, Nat.le_of_ble_eq_true rfl⟩ (Nat.le_of_ble_eq_true rfl) ⟨show c0 + dC I J + dC J K ≤ 600002 by have q1 := dC_add hc1 hc2; have q2 := dC_self K; omega, show s0 + dS I J + dS J K ≤ 7302232 by have q1 := dC_add hc1 hc2; have q2 := dC_self K; omega⟩ (lw_in 2295 (by decide +kernel) (by decide +kernel)) hlo dL_law_1852 (fun H locs hH hlo => ?_)
  refine lv_istore (lv' := [(6, vi r2), (5, vi r1), (0, .ref b0), (1, vr Z 0 0), (2, vr Z 26 0), (3, vr Z 29 0), (4, vi (i : Int))]) b.1 b.2.1 dL_law_1855 hl (by decide) rfl (fun ls hl => ?_)
  refine lv_aload_n b.1 b.2.1 dL_law_1857 rfl (lv_at hl 4 rfl) ?_
  have R3 := R_M_thrown Z K _ _ (rfl : f_M_thrown K = some (K 26 0 7, K))
  refine lx_callV (n := 0) (As := []) (rest := []) b hfl hl.1 hH R3 ⟨(lw_in 1767 (by decide +kernel) (by decide +kernel)), (lw_in 1765 (by decide +kernel) (by decide +kernel)), (lw_in 1766 (by decide +kernel) (by decide +kernel)), (lw_in 153 (by decide +kernel) (by decide +kernel)), by decide +kernel⟩ (fun gr => ob_26) rfl rfl ⟨Nat.le_of_ble_eq_true rfl, Nat.le_of_ble_eq_true rfl⟩ (Nat.le_of_ble_eq_true rfl) ⟨show c0 + dC I J + dC J K + dC K K ≤ 600002 by have q1 := dC_add hc1 hc2; have q2 := dC_self K; omega, show s0 + dS I J + dS J K + dS K K ≤ 7302232 by have q1 := dC_add hc1 hc2; have q2 := dC_self K; omega⟩ (lw_in 1764 (by decide +kernel) (by decide +kernel)) hlo dL_law_1858 (fun H locs hH hlo => ?_)
  refine lv_iload b.1 b.2.1 dL_law_1861 (lv_at hl 1 rfl) ?_
  refine lx_eq (tgt := 1868) b h3 dL_law_1863 (by decide) ?_
  refine lv_iload b.1 b.2.1 dL_law_1868 (lv_at hl 1 rfl) ?_
  refine lx_ifne (tgt := 1885) b dL_law_1870 (by decide) (fun z1 => ?_) (fun z1 => ?_)
  · skip
    refine lv_goto (tgt := 1888) b.1 b.2.1 dL_law_1885 (by decide) ?_
    refine W.widen (k := c0 + dC I K) (n := s0 + dS I K) (show c0 + dC I J + dC J K + dC K K ≤ c0 + dC I K by have q1 := dC_add hc1 hc2; have q2 := dC_self K; omega) (show s0 + dS I J + dS J K + dS K K ≤ s0 + dS I K by have q1 := dC_add hc1 hc2; have q2 := dC_self K; omega) ?_
    exact kk H locs ls hH hlo (lv_sub hl [2, 3, 4, 5, 6] rfl)
  · skip
    refine lv_aload_n b.1 b.2.1 dL_law_1873 rfl (lv_at hl 5 rfl) ?_
    refine lv_iconst (v := Int32.ofInt 0) b.1 b.2.1 dL_law_1874 rfl ?_
    refine lx_lald b hH dL_law_1875 ?_
    refine lv_iload b.1 b.2.1 dL_law_1876 (lv_at hl 0 rfl) ?_
    refine lx_i2l b dL_law_1878 ?_
    refine lx_lcmp b (h4 z1) dL_law_1879 ?_
    refine lx_ifeq (x := 0) (tgt := 1885) b dL_law_1880 (by decide) (fun _ => ?_) (fun z => absurd (by decide) z)
    refine lv_goto (tgt := 1888) b.1 b.2.1 dL_law_1885 (by decide) ?_
    refine W.widen (k := c0 + dC I K) (n := s0 + dS I K) (show c0 + dC I J + dC J K + dC K K ≤ c0 + dC I K by have q1 := dC_add hc1 hc2; have q2 := dC_self K; omega) (show s0 + dS I J + dS J K + dS K K ≤ s0 + dS I K by have q1 := dC_add hc1 hc2; have q2 := dC_self K; omega) ?_
    exact kk H locs ls hH hlo (lv_sub hl [2, 3, 4, 5, 6] rfl)
