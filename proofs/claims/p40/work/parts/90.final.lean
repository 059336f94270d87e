/-! ===== one call, all calls, the claim ===== -/
set_option maxRecDepth 20000 in
set_option maxHeartbeats 8000000 in
theorem law_one {p : Program} {e : Env} {s : State} {m : MethodId} {below : List Frame} {meth : Method} {c : Code} {l : Launch} (hfl : l.stackTraces = false) {b0 L : Nat} {xs : Nat → Int32} {Q : State → Prop} {Z : ZT} (b : BB p s m #[Value.ref b0] c RL cL_law 9 Z) (hX : va_X b0 L xs s s.heap) (hbl : b0 < s.heap.size) (hZ : zB Z = s.heap.size ∧ zH Z = s.heap) {i : Nat} (hi : i + 6 ≤ L) (hL : L < 100000) {I : Mem} {u : SS} {H : Heap} {locs : List Loc} {ls : Array Slot} {c0 s0 : Nat} (hI : SI I u) (hH : HH Z I H) (hlo : ∀ q ∈ locs, zN Z q.base) (hc0 : (c0 : Int) + (337472 - Cap I) + 1 ≤ 601024) (hs0 : (s0 : Int) + 3 * (337472 - Cap I) + 6 ≤ 7293034) (hl : lv_has ls 9 [(0, .ref b0), (1, vr Z 0 0), (2, vr Z 26 0), (3, vr Z 29 0), (4, vi (i : Int))])
    (kk : ∀ (K : Mem) (u' : SS) (H : Heap) (locs : List Loc) (ls : Array Slot) (c1 s1 : Nat), SI K u' → HH Z K H → (∀ q ∈ locs, zN Z q.base) → (c1 : Int) - Cap K ≤ (c0 : Int) - Cap I + 1 → (s1 : Int) - 3 * Cap K ≤ (s0 : Int) - 3 * Cap I + 6 → lv_has ls 9 [(0, .ref b0), (1, vr Z 0 0), (2, vr Z 26 0), (3, vr Z 29 0), (4, vi (i : Int))] → W p l e room_1 s m #[Value.ref b0] below meth c H locs c1 s1 Q (F0 m 1238 ls [])) : W p l e room_1 s m #[Value.ref b0] below meth c H locs c0 s0 Q (F0 m 33 ls []) := by
  refine lv_aload_n b.1 b.2.1 dL_law_33 rfl (lv_at hl 0 rfl) ?_
  refine lv_iload b.1 b.2.1 dL_law_34 (lv_at hl 4 rfl) ?_
  refine lx_sld (q := i) b hX hbl hZ hH hlo (w32_of (by omega) (by omega)) (by omega) dL_law_36 ?_
  refine lv_bipush (v := Int32.ofInt 63) b.1 b.2.1 dL_law_37 (by decide) ?_
  refine lx_iand b dL_law_39 ?_
  rcases (show w32 (ian (xs i).toInt 63) < 0 ∨ 38 < w32 (ian (xs i).toInt 63) ∨ w32 (ian (xs i).toInt 63) = 0 ∨ w32 (ian (xs i).toInt 63) = 1 ∨ w32 (ian (xs i).toInt 63) = 2 ∨ w32 (ian (xs i).toInt 63) = 3 ∨ w32 (ian (xs i).toInt 63) = 4 ∨ w32 (ian (xs i).toInt 63) = 5 ∨ w32 (ian (xs i).toInt 63) = 6 ∨ w32 (ian (xs i).toInt 63) = 7 ∨ w32 (ian (xs i).toInt 63) = 8 ∨ w32 (ian (xs i).toInt 63) = 9 ∨ w32 (ian (xs i).toInt 63) = 10 ∨ w32 (ian (xs i).toInt 63) = 11 ∨ w32 (ian (xs i).toInt 63) = 12 ∨ w32 (ian (xs i).toInt 63) = 13 ∨ w32 (ian (xs i).toInt 63) = 14 ∨ w32 (ian (xs i).toInt 63) = 15 ∨ w32 (ian (xs i).toInt 63) = 16 ∨ w32 (ian (xs i).toInt 63) = 17 ∨ w32 (ian (xs i).toInt 63) = 18 ∨ w32 (ian (xs i).toInt 63) = 19 ∨ w32 (ian (xs i).toInt 63) = 20 ∨ w32 (ian (xs i).toInt 63) = 21 ∨ w32 (ian (xs i).toInt 63) = 22 ∨ w32 (ian (xs i).toInt 63) = 23 ∨ w32 (ian (xs i).toInt 63) = 24 ∨ w32 (ian (xs i).toInt 63) = 25 ∨ w32 (ian (xs i).toInt 63) = 26 ∨ w32 (ian (xs i).toInt 63) = 27 ∨ w32 (ian (xs i).toInt 63) = 28 ∨ w32 (ian (xs i).toInt 63) = 29 ∨ w32 (ian (xs i).toInt 63) = 30 ∨ w32 (ian (xs i).toInt 63) = 31 ∨ w32 (ian (xs i).toInt 63) = 32 ∨ w32 (ian (xs i).toInt 63) = 33 ∨ w32 (ian (xs i).toInt 63) = 34 ∨ w32 (ian (xs i).toInt 63) = 35 ∨ w32 (ian (xs i).toInt 63) = 36 ∨ w32 (ian (xs i).toInt 63) = 37 ∨ w32 (ian (xs i).toInt 63) = 38 by omega) with hv | hv | hv | hv | hv | hv | hv | hv | hv | hv | hv | hv | hv | hv | hv | hv | hv | hv | hv | hv | hv | hv | hv | hv | hv | hv | hv | hv | hv | hv | hv | hv | hv | hv | hv | hv | hv | hv | hv | hv | hv
  · refine lx_tout 1238 b dL_law_40 (Or.inl hv) (by decide) ?_
    exact kk I u H locs ls c0 s0 hI hH hlo (by omega) (by omega) hl
  · refine lx_tout 1238 b dL_law_40 (Or.inr hv) (by decide) ?_
    exact kk I u H locs ls c0 s0 hI hH hlo (by omega) (by omega) hl
  · refine lx_tin 212 b dL_law_40 hv (by decide) (by decide) rfl (by decide) ?_
    obtain ⟨r1, r2, J, K, u', h1, h2, h3, hs, hr⟩ := og_0 hI (xs (i + 1)).toInt (xs (i + 2)).toInt (xs (i + 3)).toInt (xs (i + 4)).toInt (xs (i + 5)).toInt
    have hm := rm_room hr
    have hk := hs.cap
    exact LC_0 b hfl hX hbl hZ hi hL hH hlo hl h1 h2 (by omega) (by omega) (fun H locs ls hH hlo hl => kk K u' H locs ls _ _ hs hH hlo (by omega) (by omega) hl)
  · refine lx_tin 285 b dL_law_40 hv (by decide) (by decide) rfl (by decide) ?_
    obtain ⟨r1, r2, J, K, u', h1, h2, hs, hr⟩ := og_1 hI
    have hm := rm_room hr
    have hk := hs.cap
    exact LC_1 b hfl hX hbl hZ hi hL hH hlo hl h1 h2 (by omega) (by omega) (fun H locs ls hH hlo hl => kk K u' H locs ls _ _ hs hH hlo (by omega) (by omega) hl)
  · refine lx_tin 298 b dL_law_40 hv (by decide) (by decide) rfl (by decide) ?_
    obtain ⟨r1, r2, J, K, u', h1, h2, h3, hs, hr⟩ := og_2 hI
    have hm := rm_room hr
    have hk := hs.cap
    exact LC_2 b hfl hX hbl hZ hi hL hH hlo hl h1 h2 (by omega) (by omega) (fun H locs ls hH hlo hl => kk K u' H locs ls _ _ hs hH hlo (by omega) (by omega) hl)
  · refine lx_tin 311 b dL_law_40 hv (by decide) (by decide) rfl (by decide) ?_
    obtain ⟨r1, r2, J, K, u', h1, h2, hs, hr⟩ := og_3 hI
    have hm := rm_room hr
    have hk := hs.cap
    exact LC_3 b hfl hX hbl hZ hi hL hH hlo hl h1 h2 (by omega) (by omega) (fun H locs ls hH hlo hl => kk K u' H locs ls _ _ hs hH hlo (by omega) (by omega) hl)
  · refine lx_tin 324 b dL_law_40 hv (by decide) (by decide) rfl (by decide) ?_
    obtain ⟨r1, r2, J, K, u', h1, h2, h3, h4, hs, hr⟩ := og_4 hI (xs (i + 1)).toInt (wx _)
    have hm := rm_room hr
    have hk := hs.cap
    exact LC_4 b hfl hX hbl hZ hi hL hH hlo hl h1 h2 (by omega) (by omega) (fun H locs ls hH hlo hl => kk K u' H locs ls _ _ hs hH hlo (by omega) (by omega) hl)
  · refine lx_tin 352 b dL_law_40 hv (by decide) (by decide) rfl (by decide) ?_
    obtain ⟨r1, r2, J, K, u', h1, h2, h3, h4, hs, hr⟩ := og_5 hI (xs (i + 1)).toInt (wx _)
    have hm := rm_room hr
    have hk := hs.cap
    exact LC_5 b hfl hX hbl hZ hi hL hH hlo hl h1 h2 (by omega) (by omega) (fun H locs ls hH hlo hl => kk K u' H locs ls _ _ hs hH hlo (by omega) (by omega) hl)
  · refine lx_tin 380 b dL_law_40 hv (by decide) (by decide) rfl (by decide) ?_
    obtain ⟨r1, r2, J, K, u', h1, h2, h3, h4, hs, hr⟩ := og_6 hI (xs (i + 1)).toInt (xs (i + 2)).toInt (wx _) (wx _)
    have hm := rm_room hr
    have hk := hs.cap
    exact LC_6 b hfl hX hbl hZ hi hL hH hlo hl h1 h2 (by omega) (by omega) (fun H locs ls hH hlo hl => kk K u' H locs ls _ _ hs hH hlo (by omega) (by omega) hl)
  · refine lx_tin 420 b dL_law_40 hv (by decide) (by decide) rfl (by decide) ?_
    obtain ⟨r1, r2, J, K, u', h1, h2, h3, h4, hs, hr⟩ := og_7 hI (xs (i + 1)).toInt (xs (i + 2)).toInt (wx _) (wx _)
    have hm := rm_room hr
    have hk := hs.cap
    exact LC_7 b hfl hX hbl hZ hi hL hH hlo hl h1 h2 (by omega) (by omega) (fun H locs ls hH hlo hl => kk K u' H locs ls _ _ hs hH hlo (by omega) (by omega) hl)
  · refine lx_tin 460 b dL_law_40 hv (by decide) (by decide) rfl (by decide) ?_
    obtain ⟨r1, r2, J, K, u', h1, h2, h3, h4, hs, hr⟩ := og_8 hI (xs (i + 1)).toInt (wx _)
    have hm := rm_room hr
    have hk := hs.cap
    exact LC_8 b hfl hX hbl hZ hi hL hH hlo hl h1 h2 (by omega) (by omega) (fun H locs ls hH hlo hl => kk K u' H locs ls _ _ hs hH hlo (by omega) (by omega) hl)
  · refine lx_tin 488 b dL_law_40 hv (by decide) (by decide) rfl (by decide) ?_
    obtain ⟨r1, r2, J, K, u', h1, h2, h3, h4, hs, hr⟩ := og_9 hI (xs (i + 1)).toInt (wx _)
    have hm := rm_room hr
    have hk := hs.cap
    exact LC_9 b hfl hX hbl hZ hi hL hH hlo hl h1 h2 (by omega) (by omega) (fun H locs ls hH hlo hl => kk K u' H locs ls _ _ hs hH hlo (by omega) (by omega) hl)
  · refine lx_tin 516 b dL_law_40 hv (by decide) (by decide) rfl (by decide) ?_
    obtain ⟨r1, r2, J, K, u', h1, h2, h3, h4, hs, hr⟩ := og_10 hI (xs (i + 1)).toInt (wx _)
    have hm := rm_room hr
    have hk := hs.cap
    exact LC_10 b hfl hX hbl hZ hi hL hH hlo hl h1 h2 (by omega) (by omega) (fun H locs ls hH hlo hl => kk K u' H locs ls _ _ hs hH hlo (by omega) (by omega) hl)
  · refine lx_tin 544 b dL_law_40 hv (by decide) (by decide) rfl (by decide) ?_
    obtain ⟨r1, r2, J, K, u', h1, h2, h3, h4, hs, hr⟩ := og_11 hI (xs (i + 1)).toInt (wx _)
    have hm := rm_room hr
    have hk := hs.cap
    exact LC_11 b hfl hX hbl hZ hi hL hH hlo hl h1 h2 (by omega) (by omega) (fun H locs ls hH hlo hl => kk K u' H locs ls _ _ hs hH hlo (by omega) (by omega) hl)
  · refine lx_tin 572 b dL_law_40 hv (by decide) (by decide) rfl (by decide) ?_
    obtain ⟨r1, r2, J, K, u', h1, h2, h3, h4, hs, hr⟩ := og_12 hI (xs (i + 1)).toInt (wx _)
    have hm := rm_room hr
    have hk := hs.cap
    exact LC_12 b hfl hX hbl hZ hi hL hH hlo hl h1 h2 (by omega) (by omega) (fun H locs ls hH hlo hl => kk K u' H locs ls _ _ hs hH hlo (by omega) (by omega) hl)
  · refine lx_tin 600 b dL_law_40 hv (by decide) (by decide) rfl (by decide) ?_
    obtain ⟨r1, r2, J, K, u', h1, h2, h3, hs, hr⟩ := og_13 hI
    have hm := rm_room hr
    have hk := hs.cap
    exact LC_13 b hfl hX hbl hZ hi hL hH hlo hl h1 h2 (by omega) (by omega) (fun H locs ls hH hlo hl => kk K u' H locs ls _ _ hs hH hlo (by omega) (by omega) hl)
  · refine lx_tin 613 b dL_law_40 hv (by decide) (by decide) rfl (by decide) ?_
    obtain ⟨r1, r2, J, K, u', h1, h2, h3, hs, hr⟩ := og_14 hI
    have hm := rm_room hr
    have hk := hs.cap
    exact LC_14 b hfl hX hbl hZ hi hL hH hlo hl h1 h2 (by omega) (by omega) (fun H locs ls hH hlo hl => kk K u' H locs ls _ _ hs hH hlo (by omega) (by omega) hl)
  · refine lx_tin 626 b dL_law_40 hv (by decide) (by decide) rfl (by decide) ?_
    obtain ⟨r1, r2, J, K, u', h1, h2, h3, hs, hr⟩ := og_15 hI
    have hm := rm_room hr
    have hk := hs.cap
    exact LC_15 b hfl hX hbl hZ hi hL hH hlo hl h1 h2 (by omega) (by omega) (fun H locs ls hH hlo hl => kk K u' H locs ls _ _ hs hH hlo (by omega) (by omega) hl)
  · refine lx_tin 641 b dL_law_40 hv (by decide) (by decide) rfl (by decide) ?_
    obtain ⟨r1, r2, J, K, u', h1, h2, hs, hr⟩ := og_16T hI
    have hm := rm_room hr
    have hk := hs.cap
    exact LC_16 b hfl hX hbl hZ hi hL hH hlo hl h1 h2 (by omega) (by omega) (fun H locs ls hH hlo hl => kk K u' H locs ls _ _ hs hH hlo (by omega) (by omega) hl)
  · refine lx_tin 654 b dL_law_40 hv (by decide) (by decide) rfl (by decide) ?_
    obtain ⟨r1, r2, J, K, u', h1, h2, h3, hs, hr⟩ := og_17 hI
    have hm := rm_room hr
    have hk := hs.cap
    exact LC_17 b hfl hX hbl hZ hi hL hH hlo hl h1 h2 (by omega) (by omega) (fun H locs ls hH hlo hl => kk K u' H locs ls _ _ hs hH hlo (by omega) (by omega) hl)
  · refine lx_tin 667 b dL_law_40 hv (by decide) (by decide) rfl (by decide) ?_
    obtain ⟨r1, r2, J, K, u', h1, h2, h3, h4, hs, hr⟩ := og_18 hI (xs (i + 1)).toInt (xs (i + 2)).toInt (wx _) (wx _)
    have hm := rm_room hr
    have hk := hs.cap
    exact LC_18 b hfl hX hbl hZ hi hL hH hlo hl h1 h2 (by omega) (by omega) (fun H locs ls hH hlo hl => kk K u' H locs ls _ _ hs hH hlo (by omega) (by omega) hl)
  · refine lx_tin 707 b dL_law_40 hv (by decide) (by decide) rfl (by decide) ?_
    obtain ⟨r1, r2, J, K, u', h1, h2, h3, h4, hs, hr⟩ := og_19 hI (xs (i + 1)).toInt (wx _)
    have hm := rm_room hr
    have hk := hs.cap
    exact LC_19 b hfl hX hbl hZ hi hL hH hlo hl h1 h2 (by omega) (by omega) (fun H locs ls hH hlo hl => kk K u' H locs ls _ _ hs hH hlo (by omega) (by omega) hl)
  · refine lx_tin 735 b dL_law_40 hv (by decide) (by decide) rfl (by decide) ?_
    obtain ⟨r1, r2, J, K, u', h1, h2, h3, h4, hs, hr⟩ := og_20 hI (xs (i + 1)).toInt (xs (i + 2)).toInt (wx _) (wx _)
    have hm := rm_room hr
    have hk := hs.cap
    exact LC_20 b hfl hX hbl hZ hi hL hH hlo hl h1 h2 (by omega) (by omega) (fun H locs ls hH hlo hl => kk K u' H locs ls _ _ hs hH hlo (by omega) (by omega) hl)
  · refine lx_tin 775 b dL_law_40 hv (by decide) (by decide) rfl (by decide) ?_
    obtain ⟨r1, r2, J, K, u', h1, h2, h3, h4, hs, hr⟩ := og_21 hI (xs (i + 1)).toInt (xs (i + 2)).toInt (wx _) (wx _)
    have hm := rm_room hr
    have hk := hs.cap
    exact LC_21 b hfl hX hbl hZ hi hL hH hlo hl h1 h2 (by omega) (by omega) (fun H locs ls hH hlo hl => kk K u' H locs ls _ _ hs hH hlo (by omega) (by omega) hl)
  · refine lx_tin 815 b dL_law_40 hv (by decide) (by decide) rfl (by decide) ?_
    obtain ⟨r1, r2, J, K, u', h1, h2, h3, hs, hr⟩ := og_22 hI
    have hm := rm_room hr
    have hk := hs.cap
    exact LC_22 b hfl hX hbl hZ hi hL hH hlo hl h1 h2 (by omega) (by omega) (fun H locs ls hH hlo hl => kk K u' H locs ls _ _ hs hH hlo (by omega) (by omega) hl)
  · refine lx_tin 828 b dL_law_40 hv (by decide) (by decide) rfl (by decide) ?_
    obtain ⟨r1, r2, J, K, u', h1, h2, h3, h4, hs, hr⟩ := og_23 hI (xs (i + 1)).toInt (wx _)
    have hm := rm_room hr
    have hk := hs.cap
    exact LC_23 b hfl hX hbl hZ hi hL hH hlo hl h1 h2 (by omega) (by omega) (fun H locs ls hH hlo hl => kk K u' H locs ls _ _ hs hH hlo (by omega) (by omega) hl)
  · refine lx_tin 856 b dL_law_40 hv (by decide) (by decide) rfl (by decide) ?_
    obtain ⟨r1, r2, J, K, u', h1, h2, h3, hs, hr⟩ := og_24 hI
    have hm := rm_room hr
    have hk := hs.cap
    exact LC_24 b hfl hX hbl hZ hi hL hH hlo hl h1 h2 (by omega) (by omega) (fun H locs ls hH hlo hl => kk K u' H locs ls _ _ hs hH hlo (by omega) (by omega) hl)
  · refine lx_tin 869 b dL_law_40 hv (by decide) (by decide) rfl (by decide) ?_
    obtain ⟨r1, r2, J, K, u', h1, h2, h3, hs, hr⟩ := og_25 hI
    have hm := rm_room hr
    have hk := hs.cap
    exact LC_25 b hfl hX hbl hZ hi hL hH hlo hl h1 h2 (by omega) (by omega) (fun H locs ls hH hlo hl => kk K u' H locs ls _ _ hs hH hlo (by omega) (by omega) hl)
  · refine lx_tin 882 b dL_law_40 hv (by decide) (by decide) rfl (by decide) ?_
    obtain ⟨r1, r2, J, K, u', h1, h2, h3, hs, hr⟩ := og_26 hI
    have hm := rm_room hr
    have hk := hs.cap
    exact LC_26 b hfl hX hbl hZ hi hL hH hlo hl h1 h2 (by omega) (by omega) (fun H locs ls hH hlo hl => kk K u' H locs ls _ _ hs hH hlo (by omega) (by omega) hl)
  · refine lx_tin 895 b dL_law_40 hv (by decide) (by decide) rfl (by decide) ?_
    obtain ⟨r1, r2, J, K, u', h1, h2, h3, h4, hs, hr⟩ := og_27 hI (xs (i + 1)).toInt (wx _)
    have hm := rm_room hr
    have hk := hs.cap
    exact LC_27 b hfl hX hbl hZ hi hL hH hlo hl h1 h2 (by omega) (by omega) (fun H locs ls hH hlo hl => kk K u' H locs ls _ _ hs hH hlo (by omega) (by omega) hl)
  · refine lx_tin 923 b dL_law_40 hv (by decide) (by decide) rfl (by decide) ?_
    obtain ⟨r1, r2, J, K, u', h1, h2, h3, hs, hr⟩ := og_28 hI
    have hm := rm_room hr
    have hk := hs.cap
    exact LC_28 b hfl hX hbl hZ hi hL hH hlo hl h1 h2 (by omega) (by omega) (fun H locs ls hH hlo hl => kk K u' H locs ls _ _ hs hH hlo (by omega) (by omega) hl)
  · refine lx_tin 936 b dL_law_40 hv (by decide) (by decide) rfl (by decide) ?_
    obtain ⟨r1, r2, J, K, u', h1, h2, h3, h4, hs, hr⟩ := og_29 hI (xs (i + 1)).toInt (xs (i + 2)).toInt (wx _) (wx _)
    have hm := rm_room hr
    have hk := hs.cap
    exact LC_29 b hfl hX hbl hZ hi hL hH hlo hl h1 h2 (by omega) (by omega) (fun H locs ls hH hlo hl => kk K u' H locs ls _ _ hs hH hlo (by omega) (by omega) hl)
  · refine lx_tin 976 b dL_law_40 hv (by decide) (by decide) rfl (by decide) ?_
    obtain ⟨r1, r2, J, K, u', h1, h2, h3, h4, hs, hr⟩ := og_30 hI (xs (i + 1)).toInt (wx _)
    have hm := rm_room hr
    have hk := hs.cap
    exact LC_30 b hfl hX hbl hZ hi hL hH hlo hl h1 h2 (by omega) (by omega) (fun H locs ls hH hlo hl => kk K u' H locs ls _ _ hs hH hlo (by omega) (by omega) hl)
  · refine lx_tin 1004 b dL_law_40 hv (by decide) (by decide) rfl (by decide) ?_
    obtain ⟨r1, r2, J, K, u', h1, h2, h3, h4, hs, hr⟩ := og_31 hI (xs (i + 1)).toInt (wx _)
    have hm := rm_room hr
    have hk := hs.cap
    exact LC_31 b hfl hX hbl hZ hi hL hH hlo hl h1 h2 (by omega) (by omega) (fun H locs ls hH hlo hl => kk K u' H locs ls _ _ hs hH hlo (by omega) (by omega) hl)
  · refine lx_tin 1032 b dL_law_40 hv (by decide) (by decide) rfl (by decide) ?_
    obtain ⟨r1, r2, J, K, u', h1, h2, h3, h4, hs, hr⟩ := og_32 hI (xs (i + 1)).toInt (wx _)
    have hm := rm_room hr
    have hk := hs.cap
    exact LC_32 b hfl hX hbl hZ hi hL hH hlo hl h1 h2 (by omega) (by omega) (fun H locs ls hH hlo hl => kk K u' H locs ls _ _ hs hH hlo (by omega) (by omega) hl)
  · refine lx_tin 1060 b dL_law_40 hv (by decide) (by decide) rfl (by decide) ?_
    obtain ⟨r1, r2, J, K, u', h1, h2, h3, h4, hs, hr⟩ := og_33 hI (xs (i + 1)).toInt (xs (i + 2)).toInt (wx _) (wx _)
    have hm := rm_room hr
    have hk := hs.cap
    exact LC_33 b hfl hX hbl hZ hi hL hH hlo hl h1 h2 (by omega) (by omega) (fun H locs ls hH hlo hl => kk K u' H locs ls _ _ hs hH hlo (by omega) (by omega) hl)
  · refine lx_tin 1100 b dL_law_40 hv (by decide) (by decide) rfl (by decide) ?_
    obtain ⟨r1, r2, J, K, u', h1, h2, h3, hs, hr⟩ := og_34 hI
    have hm := rm_room hr
    have hk := hs.cap
    exact LC_34 b hfl hX hbl hZ hi hL hH hlo hl h1 h2 (by omega) (by omega) (fun H locs ls hH hlo hl => kk K u' H locs ls _ _ hs hH hlo (by omega) (by omega) hl)
  · refine lx_tin 1113 b dL_law_40 hv (by decide) (by decide) rfl (by decide) ?_
    obtain ⟨r1, r2, J, K, u', h1, h2, h3, hs, hr⟩ := og_35 hI (xs (i + 1)).toInt (wx _)
    have hm := rm_room hr
    have hk := hs.cap
    exact LC_35 b hfl hX hbl hZ hi hL hH hlo hl h1 h2 (by omega) (by omega) (fun H locs ls hH hlo hl => kk K u' H locs ls _ _ hs hH hlo (by omega) (by omega) hl)
  · refine lx_tin 1138 b dL_law_40 hv (by decide) (by decide) rfl (by decide) ?_
    obtain ⟨r1, r2, J, K, u', h1, h2, h3, h4, hs, hr⟩ := og_36 hI
    have hm := rm_room hr
    have hk := hs.cap
    exact LC_36 b hfl hX hbl hZ hi hL hH hlo hl h1 h2 (by omega) (by omega) (fun H locs ls hH hlo hl => kk K u' H locs ls _ _ hs hH hlo (by omega) (by omega) hl)
  · refine lx_tin 1154 b dL_law_40 hv (by decide) (by decide) rfl (by decide) ?_
    obtain ⟨r1, r2, J, K, u', h1, h2, h3, h4, hs, hr⟩ := og_37 hI (xs (i + 1)).toInt (wx _)
    have hm := rm_room hr
    have hk := hs.cap
    exact LC_37 b hfl hX hbl hZ hi hL hH hlo hl h1 h2 (by omega) (by omega) (fun H locs ls hH hlo hl => kk K u' H locs ls _ _ hs hH hlo (by omega) (by omega) hl)
  · refine lx_tin 1182 b dL_law_40 hv (by decide) (by decide) rfl (by decide) ?_
    obtain ⟨r1, r2, J, K, u', h1, h2, h3, h4, hs, hr⟩ := og_38 hI (xs (i + 1)).toInt (wx _)
    have hm := rm_room hr
    have hk := hs.cap
    exact LC_38 b hfl hX hbl hZ hi hL hH hlo hl h1 h2 h3 h4 (by omega) (by omega) (fun H locs ls hH hlo hl => kk K u' H locs ls _ _ hs hH hlo (by omega) (by omega) hl)
set_option maxRecDepth 20000 in
set_option maxHeartbeats 8000000 in
theorem law_loop {p : Program} {e : Env} {s : State} {m : MethodId} {below : List Frame} {meth : Method} {c : Code} {l : Launch} (hfl : l.stackTraces = false) {b0 L : Nat} {xs : Nat → Int32} {Q : State → Prop} {Z : ZT} (b : BB p s m #[Value.ref b0] c RL cL_law 9 Z) (hX : va_X b0 L xs s s.heap) (hbl : b0 < s.heap.size) (hZ : zB Z = s.heap.size ∧ zH Z = s.heap) (hL : L < 100000) (fin : ∀ (H : Heap) (locs : List Loc) (ls : Array Slot) (c1 s1 : Nat), (∀ q ∈ locs, zN Z q.base) → c1 ≤ 601024 → s1 ≤ 7293034 → W p l e room_1 s m #[Value.ref b0] below meth c H locs c1 s1 Q (F0 m 1244 ls [])) : ∀ (n i : Nat) (I : Mem) (u : SS) (H : Heap) (locs : List Loc) (ls : Array Slot) (c0 s0 : Nat), L < i + 6 * n + 6 → i ≤ 100000 → SI I u → HH Z I H → (∀ q ∈ locs, zN Z q.base) → (c0 : Int) + (337472 - Cap I) + n ≤ 601024 → (s0 : Int) + 3 * (337472 - Cap I) + 6 * n ≤ 7293034 → lv_has ls 9 [(0, .ref b0), (1, vr Z 0 0), (2, vr Z 26 0), (3, vr Z 29 0), (4, vi (i : Int))] → W p l e room_1 s m #[Value.ref b0] below meth c H locs c0 s0 Q (F0 m 23 ls []) := by
  intro n
  induction n with
  | zero =>
    intro i I u H locs ls c0 s0 hn hi hI hH hlo hc hs hl
    have hk := hI.cap
    refine lv_iload b.1 b.2.1 dL_law_23 (lv_at hl 4 rfl) ?_
    refine lv_aload_n b.1 b.2.1 dL_law_25 rfl (lv_at hl 0 rfl) ?_
    refine lx_slen b hX hbl hZ hH hlo dL_law_26 ?_
    refine lv_bipush (v := Int32.ofInt 6) b.1 b.2.1 dL_law_27 (by decide) ?_
    refine lx_isub b dL_law_29 ?_
    refine lv_icmp_gt (tgt := 1244) b.1 b.2.1 dL_law_30 (by decide) (fun q => fin H locs ls c0 s0 hlo (by omega) (by omega)) (fun q => ?_)
    exfalso
    refine q ((w_lt _ _).mpr ?_)
    rw [w32_of (by omega) (by omega), w32_of (by omega) (by omega)]
    omega
  | succ n ih =>
    intro i I u H locs ls c0 s0 hn hi hI hH hlo hc hs hl
    have hk := hI.cap
    refine lv_iload b.1 b.2.1 dL_law_23 (lv_at hl 4 rfl) ?_
    refine lv_aload_n b.1 b.2.1 dL_law_25 rfl (lv_at hl 0 rfl) ?_
    refine lx_slen b hX hbl hZ hH hlo dL_law_26 ?_
    refine lv_bipush (v := Int32.ofInt 6) b.1 b.2.1 dL_law_27 (by decide) ?_
    refine lx_isub b dL_law_29 ?_
    refine lv_icmp_gt (tgt := 1244) b.1 b.2.1 dL_law_30 (by decide) (fun q => fin H locs ls c0 s0 hlo (by omega) (by omega)) (fun q => ?_)
    have h6 : i + 6 ≤ L := by
      rcases Nat.lt_or_ge L (i + 6) with z | z
      · exfalso
        refine q ((w_lt _ _).mpr ?_)
        rw [w32_of (by omega) (by omega), w32_of (by omega) (by omega)]
        omega
      · exact z
    refine law_one hfl b hX hbl hZ h6 hL hI hH hlo (by omega) (by omega) hl (fun K u' H locs ls c1 s1 hI' hH hlo h1 h2 hl => ?_)
    have hk' := hI'.cap
    refine lv_iinc (v := Int32.ofInt ((i : Int) + 6)) (lv' := [(4, vi ((i : Int) + 6)), (0, .ref b0), (1, vr Z 0 0), (2, vr Z 26 0), (3, vr Z 29 0)]) b.1 b.2.1 dL_law_1238 hl (k := 4) rfl (i_add _ _) (by decide) rfl (fun ls hl => ?_)
    refine lv_goto (tgt := 23) b.1 b.2.1 dL_law_1241 (by decide) ?_
    exact ih (i + 6) K u' H locs ls c1 s1 (by omega) (by omega) hI' hH hlo (by omega) (by omega) (lv_sub hl [1, 2, 3, 4, 0] rfl)
set_option maxRecDepth 20000 in
set_option maxHeartbeats 8000000 in
theorem whole_start {p : Program} {e : Env} {s : State} {m : MethodId} {below : List Frame} {meth : Method} {c : Code} (l : Launch) (hflags : l.flags = flags0) {b L : Nat} {xs : Nat → Int32} (hL : L ≤ 3072) (C0 : lw_At p s m meth c b L xs) : W p l e room_1 s m #[Value.ref b] below meth c s.heap [] 0 0 (lw_Z below #[Value.ref b] s) (entryFrame m ([Value.ref b] : List Value).toArray 9) := by
  have hfl : l.stackTraces = false := by
    unfold Launch.stackTraces
    rw [hflags]
    decide
  refine law_head hfl C0 (fun Z I H locs ls c0 s0 bb hZ hI hH hlo hc0 hs0 hl => ?_)
  obtain ⟨hx, hb, hr, hml, hown, hts, hX, hbl, hlocks, hgv⟩ := id C0
  -- the loop's end
  have fin : ∀ (H : Heap) (locs : List Loc) (ls : Array Slot) (c1 s1 : Nat), (∀ q ∈ locs, zN Z q.base) → c1 ≤ 601024 → s1 ≤ 7293034 → W p l e room_1 s m #[Value.ref b] below meth c H locs c1 s1 (lw_Z below #[Value.ref b] s) (F0 m 1244 ls []) := by
    intro H locs ls c1 s1 hlo h1 h2
    refine lv_iconst (v := Int32.ofInt 1) bb.1 bb.2.1 dL_law_1244 rfl ?_
    refine va_forget (fun q hq => by have := hlo q hq; rw [← hZ.1]; exact this) ?_
    refine W.widen (k := 601024) (n := 7293034) h1 h2 ?_
    refine W.base ?_
    exact lw_ret (Drawn.sameBut.refl s.drawn lw_cs) hx hb hr hlocks dL_law_1245
  have hsi := si_start hI
  have hk := hsi.cap
  exact law_loop hfl bb hX hbl hZ (by omega) fin 512 0 I _ H locs ls c0 s0 (by omega) (by omega) hsi hH hlo (by omega) (by omega) hl
set_option maxHeartbeats 4000000 in
theorem lw_walk (l : Launch) (hflags : l.flags = flags0) (b : Addr) (xs : List Int32) : MetFree l x (headSpec (Jvm.Cond.code x code maxLocals ret :: tables_1) room_1) (lw_P b xs) (fun _ _ _ _ _ => True) lw_Q := by
  refine MetFree.of_bodyS (code := code) (maxLocals := maxLocals) (ret := ret) (by decide) ?_ ?_
  · intro args s m h hn
    obtain ⟨meth, c, h1, h2, h3, h4, h5, h6, -, -⟩ := Cond.code_spec hn (atoms_spec (ws := Jvm.Cond.code x code maxLocals ret :: tables_1) h _ List.mem_cons_self)
    exact ⟨meth, c, h1, h2, h3, h4, h5, h6⟩
  · intro p e s m args below meth c s₁ B hml0 hP _
    obtain ⟨rfl, hx, hbd, hgv⟩ := hP
    obtain ⟨scr, harrAt, hlist, hof, hsmall⟩ := hx
    obtain ⟨hcb, hkn, -, -⟩ := State.arrayAt?_spec harrAt
    have hown : s.vm.findClass R_law = some m.cls := findClass_of_methodNamed B.named
    have hts0 : ∀ c ∈ (Jvm.Cond.code x code maxLocals ret :: tables_1), c.before #[Value.ref b] s = true := atoms_spec (ws := Jvm.Cond.code x code maxLocals ret :: tables_1) B.pre
    have hts : ∀ w ∈ lw_tbl, w.before #[Value.ref b] s = true := k2_hts_sels lw_privs (fun w hw => hts0 w (List.mem_cons_of_mem _ hw)) lw_privs_ok
    have hml : c.maxLocals = 9 := B.maxLocals_eq (hts0 _ List.mem_cons_self)
    have X₀ : Stand p l e room_1 s m #[Value.ref b] below meth c s₁ [] 0 0 := Stand.of_body B
    have hh0 : s₁.heap = s.heap := by rw [B.state]; rfl
    have hsz : scr.slots.size = xs.length := by rw [← Array.length_toList, hlist, List.length_map]
    have hval : ∀ j : Nat, j < xs.length → scr.slots[j]? = some (.int (xs.getD j 0)) := fun j hj => by
      rw [← Array.getElem?_toList, hlist]
      simp [hj]
    have hbl : b < s.heap.size := (Array.getElem?_eq_some_iff.mp hcb).1
    have hX : va_X b xs.length (fun j => xs.getD j 0) s s.heap := ⟨scr, hcb, hof, hkn, hsz, hval⟩
    have K : W p l e room_1 s m #[Value.ref b] below meth c s₁.heap [] 0 0 (lw_Z below #[Value.ref b] s) (entryFrame m ([Value.ref b] : List Value).toArray 9) := by
      rw [hh0]
      exact whole_start l hflags hbd ⟨B.exec, B.bytes, B.returns, hml, hown, hts, hX, hbl, B.notSynchronized, hgv⟩
    obtain ⟨t, a1, o, b1, b2, b3⟩ := K s₁ rfl X₀
    exact ⟨t, o, a1, b1, b2, b3⟩
theorem lw_pre_spec {args : Array Value} {s : State} (h : (Jvm.Cond.and given_1 narrow_1).before args s = true) (hr : rest_1_c.before args s = true) : ∃ (b : Addr) (xs : List Int32), lw_P b xs args s := by
  have hs := flat_of_before _ h
  have hq := flat_of_before _ hr
  have hc : (Cond.count 1).before args s = true := hs _ (by decide +kernel)
  have harr : (Cond.arrayOf (.arg 0) .int).before args s = true := hs _ (by decide +kernel)
  have hle : (Cond.le (.length (.arg 0)) (.int 3072)).before args s = true := hs _ (by decide +kernel)
  have hlen : (Cond.isInt (.length (.arg 0))).before args s = true := hq _ (by decide +kernel)
  have hall : (Cond.all (.arg 0) (.isInt (.elem (.arg 0) (.index 0)))).before args s = true := hq _ (by decide +kernel)
  obtain ⟨b, xs, hb, hx⟩ := State.ints_of_pre rfl harr hlen hall
  have hsm : xs.length < 2 ^ 31 := hx.choose_spec.2.2.2
  have hev : (Term.length (.arg 0)).eval args s none [] s = some (.int xs.length.toInt32) := hx.length_eval hb
  have hv := Cond.le_ints hev (show (Term.int 3072).eval args s none [] s = some (.int 3072) from rfl)
  have hd : xs.length.toInt32 ≤ 3072 := by
    simpa [Cond.before, Cond.holds, hv] using hle
  have hN : xs.length ≤ 3072 := (Int32.ofNat_le_ofNat hsm (by decide)).mp (show Int32.ofNat xs.length ≤ Int32.ofNat 3072 from hd)
  exact ⟨b, xs, Cond.one_arg hc (show args[0]? = some (.ref b) from hb), hx, hN, h⟩
theorem lw_comes (l : Launch) (hflags : l.flags = flags0) : Comes l x (Jvm.Cond.code x code maxLocals ret :: tables_1) room_1 (fun tb e args s => Calls_1 tb e args s ∧ rest_1 tb e args s ∧ Pre_1 tb e args s)
    (fun _ _ args s o t => lw_Q args s o t) := by
  intro p e ha hc hk s m args below hf hfit hheap happ hpre
  obtain ⟨b, xs, hP⟩ := lw_pre_spec hpre.2.2 hpre.2.1
  obtain ⟨k, o, h1, h2, h3, hQ⟩ := lw_walk l hflags b xs p e ha hc hk s m args below hf ((Spec.applies_iff_loose hf).mp happ).1 hP trivial
  exact ⟨k, o, h1, h2, h3, hQ⟩
theorem lw_frame {s t : State} {o : Outcome} {args : Array Value} (h : State.butDraws s t lw_cs (fun t1 => Framed s o t1 [] 601024 7293034)) :
    State.butDraws s t [Jvm.Choice.named "NaN.bits"] (fun t1 => Framed s o t1 (fieldLocs frame_1_writes args s ++ arrayLocs frame_1_arrays args s ++ staticLocs frame_1_statics s) 601024 7293034) := h
theorem lw_limb (L : Cond) (hL : ∀ (args : Array Value) (s t : State), L.after args s (.returned (some (.int 1))) t = true) :
    ArmFor flags0 classFile x code maxLocals ret World_1 tables_1 room_1 Calls_1 rest_1 Pre_1
      (fun tb e a s o t => postC L tb e a s o t ∧ State.butDraws s t [Jvm.Choice.named "NaN.bits"] (fun t1 => Framed s o t1 (fieldLocs frame_1_writes a s ++ arrayLocs frame_1_arrays a s ++ staticLocs frame_1_statics s) 601024 7293034)) := by
  intro l hflags _ _ p e ha hc hk s m args below hf hfit hheap happ hpre
  obtain ⟨k, o, h1, h2, h3, rfl, hF⟩ := lw_comes l hflags p e ha hc hk s m args below hf hfit hheap happ hpre
  exact ⟨k, _, h1, h2, h3, hL args s _, lw_frame hF⟩
theorem i_vc : Claimed_1_1 ∧ Claimed_1_2 := ⟨lw_limb limb_1_1 (fun args s t => by simp [limb_1_1, Cond.after, Cond.holds, Cond.value]), lw_limb limb_1_2 (fun args s t => Cond.after_iff.mpr (by
  first | (rw [show limb_1_2 = Cond.eq .result (.int 1) from rfl, Cond.eq_ints (x := 1) (y := 1) rfl rfl]; simp; done) | (simp [limb_1_2, Cond.value, Term.eval]; done)))⟩
