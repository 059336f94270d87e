section
/-! ===== the law's own rows ===== -/
theorem dC_add {I J K : Mem} (h : cle I J) (k : cle J K) : dC I J + dC J K = dC I K ∧ dS I J + dS J K = dS I K := by
  unfold dC dS
  obtain ⟨q1, q2⟩ := h
  obtain ⟨q3, q4⟩ := k
  constructor <;> omega
theorem dC_self (I : Mem) : dC I I = 0 ∧ dS I I = 0 := by
  unfold dC dS
  constructor <;> omega
section LAWR
variable {p : Program} {l : Launch} {e : Env} {R : Room} {s : State} {m : MethodId} {args : Array Value} {below : List Frame} {meth : Method} {c : Code} {H : Heap} {locs : List Loc} {cells slots : Nat} {Q : State → Prop} {cc : ByteArray} {pc nL : Nat} {ls : Array Slot} {rest st : List Value} {own : String} {Z : ZT} {I : Mem}
theorem lx_callV {y' : MethodName} {cc' : ByteArray} {maxL' h' n index a : Nat} {ret' : Option FieldType} {As : List Value} {o1 : OV} (b : BB p s m args c own cc nL Z) (hfl : l.stackTraces = false) (hl : ls.size = nL) (hH : HH Z I H) (hr : Runs Z y' cc' maxL' ret' h' (.ref a :: As) I o1) (hM : MwV y' cc' maxL' ret' n) (hO : ∀ gr : Nat → Nat, Ob Z gr I a y'.cls) (hn : As.length = n) (hst : st = As.reverse ++ .ref a :: rest) (hR : h' + 1 ≤ R.frames ∧ 8 + (maxL' + 11) + 35 * h' ≤ R.locals) (hw : (rest.map fun v => v.category).sum ≤ 8) (hf : cells + dC I o1.2 ≤ R.cells ∧ slots + dS I o1.2 ≤ R.slots)
    (hlink : Cond.methodLink own index y' ∈ lw_good) (hlo : ∀ q ∈ locs, zN Z q.base) (d : decode cc pc = .ok (.invokevirtual index, 3))
    (kk : ∀ (H1 : Heap) (locs1 : List Loc), HH Z o1.2 H1 → (∀ q ∈ locs1, zN Z q.base) → W p l e R s m args below meth c H1 locs1 (cells + dC I o1.2) (slots + dS I o1.2) Q (F0 m (pc + 3) ls (o1.1.toList ++ rest))) : W p l e R s m args below meth c H locs cells slots Q (F0 m pc ls st) := by
  obtain ⟨gr, hH⟩ := hH
  obtain ⟨hx, hb, hown, hts, hK, hml⟩ := b
  obtain ⟨hcode, hinst, hsel, hini, hd⟩ := hM
  obtain ⟨k, i, ci, N, T0, fs, he, hi, ha, hc⟩ := hO gr
  have hat := hH.at hi
  rw [he, ha] at hat
  have hrecv := va_recv (q0 := 0) hK.1.1 (va_P1 hat) hc rfl
  have hG : GoodIn lw_good (wsV own index y'.cls y' (wsAll y' cc' maxL' ret')) := by
    intro w hw
    rcases List.mem_append.mp hw with hw | hw
    · have hm : w ∈ lw_good := by
        simp only [List.mem_cons, List.mem_nil_iff, or_false] at hw
        rcases hw with rfl | rfl | rfl | rfl <;> assumption
      exact ⟨hm, good_of_word (List.mem_filter.mp hm).2⟩
    · exact goodAll hcode w hw
  exact call_go (va_runV (cc := cc) (nL := nL) (Ts := lw_good) (own := own) (As := As) (n := n) ⟨hx, hb, hml, hown, hts⟩ (hr.2 l hfl) (cwV n hts hG rfl rfl rfl ⟨rfl, hd⟩ hR) ⟨fb_Pcz, hrecv, fun U hU hW => ⟨rfl, ⟨gr, by rw [hU]; exact hH⟩, hK.1.warm hW⟩⟩ rfl hn hl hst (lv_room hw) d hf) hlo kk
theorem lx_callS {y' : MethodName} {cc' : ByteArray} {maxL' h' n index : Nat} {ret' : Option FieldType} {As : List Value} {o1 : OV} (b : BB p s m args c own cc nL Z) (hfl : l.stackTraces = false) (hl : ls.size = nL) (hH : HH Z I H) (hr : RunsH Z y' cc' maxL' ret' h' As I o1) (hcode : Cond.codeWith y' cc' maxL' ret' (xtb y') ∈ lw_good) (hstat : Cond.static y' ∈ lw_good) (hini : Cond.initialized y'.cls ∈ lw_good) (hd : y'.cls ≠ "java/lang/invoke/MethodHandle" ∧ y'.cls ≠ "java/lang/invoke/VarHandle" ∧ (parseMethodDescriptor y'.desc).map (fun d => d.parameters.length) = some n) (hn : As.length = n) (hst : st = As.reverse ++ rest) (hR : h' + 1 ≤ R.frames ∧ 8 + (maxL' + 11) + 35 * h' ≤ R.locals) (hw : (rest.map fun v => v.category).sum ≤ 8) (hf : cells + dC I o1.2 ≤ R.cells ∧ slots + dS I o1.2 ≤ R.slots)
    (hlink : Cond.methodLink own index y' ∈ lw_good) (hlo : ∀ q ∈ locs, zN Z q.base) (d : decode cc pc = .ok (.invokestatic index, 3))
    (kk : ∀ (H1 : Heap) (locs1 : List Loc), HH Z o1.2 H1 → (∀ q ∈ locs1, zN Z q.base) → W p l e R s m args below meth c H1 locs1 (cells + dC I o1.2) (slots + dS I o1.2) Q (F0 m (pc + 3) ls (o1.1.toList ++ rest))) : W p l e R s m args below meth c H locs cells slots Q (F0 m pc ls st) := by
  obtain ⟨gr, hH⟩ := hH
  obtain ⟨hx, hb, hown, hts, hK, hml⟩ := b
  have hG : GoodIn lw_good (va_wsS own index y' (wsH y' cc' maxL' ret')) := by
    intro w hw
    rcases List.mem_append.mp hw with hw | hw
    · have hm : w ∈ lw_good := by
        simp only [List.mem_cons, List.mem_nil_iff, or_false] at hw
        rcases hw with rfl | rfl | rfl <;> assumption
      exact ⟨hm, good_of_word (List.mem_filter.mp hm).2⟩
    · have hm : w ∈ lw_good := by
        rcases List.mem_cons.mp hw with rfl | hw
        · exact hcode
        · exact hw
      exact ⟨hm, good_of_word (List.mem_filter.mp hm).2⟩
  exact call_go (vx_runSW (cc := cc) (nL := nL) (Ts := lw_good) (own := own) (As := As) (n := n) ⟨hx, hb, hml, hown, hts⟩ (hr.2 l hfl) (vx_cwSW n hts hG rfl rfl rfl hd hR) ⟨fb_Pcz, fun U hU hW => ⟨rfl, ⟨gr, by rw [hU]; exact hH⟩, hK.1.warm hW⟩⟩ rfl hn hl hst (lv_room hw) d hf) hlo kk
theorem lx_S (hH : HH Z I H) (hZ : zB Z = s.heap.size ∧ zH Z = s.heap) (hlo : ∀ q ∈ locs, zN Z q.base) : va_S (zN Z) s.heap H locs := by
  obtain ⟨gr, hH⟩ := hH
  exact ⟨by rw [← hZ.1]; exact hH.1.2.1, fun q h1 h2 => by rw [← hZ.2]; exact hH.1.2.2 q (Nat.not_le.mp h2), hlo⟩
/-- an int of the script is read -/
theorem lx_sld {b0 L q : Nat} {xs : Nat → Int32} {x : Int} (b : BB p s m args c own cc nL Z) (hX : va_X b0 L xs s s.heap) (hbl : b0 < s.heap.size) (hZ : zB Z = s.heap.size ∧ zH Z = s.heap) (hH : HH Z I H) (hlo : ∀ q ∈ locs, zN Z q.base) (hx : w32 x = (q : Int)) (hq : q < L) (d : decode cc pc = .ok (.iaload, 1))
    (kk : W p l e R s m args below meth c H locs cells slots Q (F0 m (pc + 1) ls (vi (xs q).toInt :: rest))) : W p l e R s m args below meth c H locs cells slots Q (F0 m pc ls (vi x :: .ref b0 :: rest)) := by
  refine va_sld b.1 b.2.1 hX hbl (A := zN Z) (by show ¬ zB Z ≤ b0; rw [hZ.1]; omega) (lx_S hH hZ hlo) (w_in hx (by omega : 0 ≤ (q : Int) ∧ (q : Int) < (L : Int)) (by omega)) d ?_
  rw [show (Int32.ofInt x).toNatClampNeg = q from (w_nat hx).trans (Int.toNat_natCast q)]
  rw [show vi (xs q).toInt = Value.int (xs q) from congrArg Value.int (Int32.ofInt_toInt _)] at kk
  exact kk
theorem lx_slen {b0 L : Nat} {xs : Nat → Int32} (b : BB p s m args c own cc nL Z) (hX : va_X b0 L xs s s.heap) (hbl : b0 < s.heap.size) (hZ : zB Z = s.heap.size ∧ zH Z = s.heap) (hH : HH Z I H) (hlo : ∀ q ∈ locs, zN Z q.base) (d : decode cc pc = .ok (.arraylength, 1))
    (kk : W p l e R s m args below meth c H locs cells slots Q (F0 m (pc + 1) ls (vi (L : Int) :: rest))) : W p l e R s m args below meth c H locs cells slots Q (F0 m pc ls (.ref b0 :: rest)) := by
  refine va_slen b.1 b.2.1 hX hbl (A := zN Z) (by show ¬ zB Z ≤ b0; rw [hZ.1]; omega) (lx_S hH hZ hlo) d ?_
  rw [show (Int32.ofNat L) = Int32.ofInt (L : Int) from rfl]
  exact kk
theorem lx_iadd {x y : Int} (b : BB p s m args c own cc nL Z) (d : decode cc pc = .ok (.iadd, 1)) (kk : W p l e R s m args below meth c H locs cells slots Q (F0 m (pc + 1) ls (vi (x + y) :: rest))) : W p l e R s m args below meth c H locs cells slots Q (F0 m pc ls (vi y :: vi x :: rest)) :=
  lv_iadd b.1 b.2.1 d (by rw [i_add]; exact kk)
theorem lx_isub {x y : Int} (b : BB p s m args c own cc nL Z) (d : decode cc pc = .ok (.isub, 1)) (kk : W p l e R s m args below meth c H locs cells slots Q (F0 m (pc + 1) ls (vi (x - y) :: rest))) : W p l e R s m args below meth c H locs cells slots Q (F0 m pc ls (vi y :: vi x :: rest)) :=
  lv_isub b.1 b.2.1 d (by rw [i_sub]; exact kk)
theorem lx_iand {x y : Int} (b : BB p s m args c own cc nL Z) (d : decode cc pc = .ok (.iand, 1)) (kk : W p l e R s m args below meth c H locs cells slots Q (F0 m (pc + 1) ls (vi (ian x y) :: rest))) : W p l e R s m args below meth c H locs cells slots Q (F0 m pc ls (vi y :: vi x :: rest)) := by
  refine lv_iand b.1 b.2.1 d ?_
  rw [show vi (ian x y) = Value.int (Int32.ofInt x &&& Int32.ofInt y) from congrArg Value.int (Int32.ofInt_toInt _)] at kk
  exact kk
theorem lx_i2l {x : Int} (b : BB p s m args c own cc nL Z) (d : decode cc pc = .ok (.i2l, 1)) (kk : W p l e R s m args below meth c H locs cells slots Q (F0 m (pc + 1) ls (vl (w32 x) :: rest))) : W p l e R s m args below meth c H locs cells slots Q (F0 m pc ls (vi x :: rest)) :=
  lv_i2l b.1 b.2.1 d (i2l_ok x) kk
/-- equal: goes on at the target -/
theorem lx_eq {x y : Int} {off : Int} {tgt : Nat} (b : BB p s m args c own cc nL Z) (hxy : w32 x = w32 y) (d : decode cc pc = .ok (.if_icmp .eq off, 3)) (ht : (pc : Int) + off = (tgt : Int)) (kk : W p l e R s m args below meth c H locs cells slots Q (F0 m tgt ls rest)) : W p l e R s m args below meth c H locs cells slots Q (F0 m pc ls (vi y :: vi x :: rest)) :=
  lv_icmp_eq b.1 b.2.1 d ht (fun _ => kk) (fun q => absurd ((w_eq x y).mpr hxy) q)
theorem lx_ifne {x : Int} {off : Int} {tgt : Nat} (b : BB p s m args c own cc nL Z) (d : decode cc pc = .ok (.ifCond .ne off, 3)) (ht : (pc : Int) + off = (tgt : Int)) (k1 : w32 x ≠ 0 → W p l e R s m args below meth c H locs cells slots Q (F0 m tgt ls rest)) (k2 : w32 x = 0 → W p l e R s m args below meth c H locs cells slots Q (F0 m (pc + 3) ls rest)) : W p l e R s m args below meth c H locs cells slots Q (F0 m pc ls (vi x :: rest)) :=
  lv_if_ne b.1 b.2.1 d ht (fun q => k1 (fun z => q ((w_eq x 0).mpr (by rw [z]; rfl)))) (fun q => k2 (by have := (w_eq x 0).mp q; rw [this]; rfl))
theorem lx_ifeq {x : Int} {off : Int} {tgt : Nat} (b : BB p s m args c own cc nL Z) (d : decode cc pc = .ok (.ifCond .eq off, 3)) (ht : (pc : Int) + off = (tgt : Int)) (k1 : w32 x = 0 → W p l e R s m args below meth c H locs cells slots Q (F0 m tgt ls rest)) (k2 : w32 x ≠ 0 → W p l e R s m args below meth c H locs cells slots Q (F0 m (pc + 3) ls rest)) : W p l e R s m args below meth c H locs cells slots Q (F0 m pc ls (vi x :: rest)) :=
  lv_if_eq b.1 b.2.1 d ht (fun q => k1 (by have := (w_eq x 0).mp q; rw [this]; rfl)) (fun q => k2 (fun z => q ((w_eq x 0).mpr (by rw [z]; rfl))))
/-- the law's array of one long is read -/
theorem lx_lald (b : BB p s m args c own cc nL Z) (hH : HH Z I H) (d : decode cc pc = .ok (.laload, 1)) (kk : W p l e R s m args below meth c H locs cells slots Q (F0 m (pc + 1) ls (vl (I 29 0 0) :: rest))) : W p l e R s m args below meth c H locs cells slots Q (F0 m pc ls (vi 0 :: vr Z 29 0 :: rest)) := by
  obtain ⟨gr, hH⟩ := hH
  have hat : va_at (zD Z) cls (zA Z 29 0, .inl (zC Z 3, 1, .inr (.inl fun j => Int64.ofInt (I 29 0 j)))) H := hH.at (k := 29) (i := 0) (by decide)
  exact va_lald b.1 b.2.1 b.2.2.2.2.1.1.1 (va_P1 hat) 0 3 rfl rfl (w_in (x' := 0) (m := 1) (by decide) (by decide) (by decide)) d kk
/-- two longs that are equal -/
theorem lx_lcmp {x y : Int} (b : BB p s m args c own cc nL Z) (hxy : w64 x = w64 y) (d : decode cc pc = .ok (.lcmp, 1)) (kk : W p l e R s m args below meth c H locs cells slots Q (F0 m (pc + 1) ls (vi 0 :: rest))) : W p l e R s m args below meth c H locs cells slots Q (F0 m pc ls (vl y :: vl x :: rest)) := by
  have h : Int64.ofInt x = Int64.ofInt y := by rw [← Int64.toInt_inj, w_toInt64, w_toInt64]; exact hxy
  rw [show vl x = vl y from congrArg Value.long h]
  refine W.lcmp b.1 b.2.1 d ?_
  rw [show lg_cmp (Int64.ofInt y) (Int64.ofInt y) = 0 from by unfold lg_cmp; rw [if_neg (by simp), if_pos rfl]]
  exact kk
end LAWR
end
section
/-! ===== the law, call by call ===== -/
set_option maxRecDepth 20000 in
set_option maxHeartbeats 4000000 in
theorem LC_0 {p : Program} {l : Launch} {e : Env} {s : State} {m : MethodId} {args : Array Value} {below : List Frame} {meth : Method} {c : Code} {H : Heap} {locs : List Loc} {c0 s0 : Nat} {Q : State → Prop} {ls : Array Slot} {Z : ZT} {I : Mem} {b0 L i : Nat} {xs : Nat → Int32} (b : BB p s m args c RL cL_law 9 Z) (hfl : l.stackTraces = false) (hX : va_X b0 L xs s s.heap) (hbl : b0 < s.heap.size) (hZ : zB Z = s.heap.size ∧ zH Z = s.heap) (hi : i + 6 ≤ L) (hL : L < 100000) (hH : HH Z I H) (hlo : ∀ q ∈ locs, zN Z q.base) (hl : lv_has ls 9 [(0, .ref b0), (1, vr Z 0 0), (2, vr Z 26 0), (3, vr Z 29 0), (4, vi (i : Int))]) {r1 : Int} {r2 : Int} {J K : Mem} (h1 : f_PR_feed ((xs (i + 1)).toInt) ((xs (i + 2)).toInt) ((xs (i + 3)).toInt) ((xs (i + 4)).toInt) ((xs (i + 5)).toInt) I = some (r1, J)) (h2 : f_M_feed ((xs (i + 1)).toInt) ((xs (i + 2)).toInt) ((xs (i + 3)).toInt) ((xs (i + 4)).toInt) ((xs (i + 5)).toInt) J = some (r2, K)) (hmc : c0 + dC I K ≤ 601024) (hms : s0 + dS I K ≤ 7293034)
    (kk : ∀ (H : Heap) (locs : List Loc) (ls : Array Slot), HH Z K H → (∀ q ∈ locs, zN Z q.base) → lv_has ls 9 [(0, .ref b0), (1, vr Z 0 0), (2, vr Z 26 0), (3, vr Z 29 0), (4, vi (i : Int))] → W p l e room_1 s m args below meth c H locs (c0 + dC I K) (s0 + dS I K) Q (F0 m 1238 ls [])) : W p l e room_1 s m args below meth c H locs c0 s0 Q (F0 m 212 ls []) := by
  have hcK : cle J K := (R_M_feed Z ((xs (i + 1)).toInt) ((xs (i + 2)).toInt) ((xs (i + 3)).toInt) ((xs (i + 4)).toInt) ((xs (i + 5)).toInt) J _ _ h2).1
  refine lv_aload_n b.1 b.2.1 dL_law_212 rfl (lv_at hl 1 rfl) ?_
  refine lv_aload_n b.1 b.2.1 dL_law_213 rfl (lv_at hl 0 rfl) ?_
  refine lv_iload b.1 b.2.1 dL_law_214 (lv_at hl 4 rfl) ?_
  refine lv_iconst (v := Int32.ofInt 1) b.1 b.2.1 dL_law_216 rfl ?_
  refine lx_iadd b dL_law_217 ?_
  refine lx_sld (q := i + 1) b hX hbl hZ hH hlo (w32_of (by omega) (by omega)) (by omega) dL_law_218 ?_
  refine lv_aload_n b.1 b.2.1 dL_law_219 rfl (lv_at hl 0 rfl) ?_
  refine lv_iload b.1 b.2.1 dL_law_220 (lv_at hl 4 rfl) ?_
  refine lv_iconst (v := Int32.ofInt 2) b.1 b.2.1 dL_law_222 rfl ?_
  refine lx_iadd b dL_law_223 ?_
  refine lx_sld (q := i + 2) b hX hbl hZ hH hlo (w32_of (by omega) (by omega)) (by omega) dL_law_224 ?_
  refine lv_aload_n b.1 b.2.1 dL_law_225 rfl (lv_at hl 0 rfl) ?_
  refine lv_iload b.1 b.2.1 dL_law_226 (lv_at hl 4 rfl) ?_
  refine lv_iconst (v := Int32.ofInt 3) b.1 b.2.1 dL_law_228 rfl ?_
  refine lx_iadd b dL_law_229 ?_
  refine lx_sld (q := i + 3) b hX hbl hZ hH hlo (w32_of (by omega) (by omega)) (by omega) dL_law_230 ?_
  refine lv_aload_n b.1 b.2.1 dL_law_231 rfl (lv_at hl 0 rfl) ?_
  refine lv_iload b.1 b.2.1 dL_law_232 (lv_at hl 4 rfl) ?_
  refine lv_iconst (v := Int32.ofInt 4) b.1 b.2.1 dL_law_234 rfl ?_
  refine lx_iadd b dL_law_235 ?_
  refine lx_sld (q := i + 4) b hX hbl hZ hH hlo (w32_of (by omega) (by omega)) (by omega) dL_law_236 ?_
  refine lv_aload_n b.1 b.2.1 dL_law_237 rfl (lv_at hl 0 rfl) ?_
  refine lv_iload b.1 b.2.1 dL_law_238 (lv_at hl 4 rfl) ?_
  refine lv_iconst (v := Int32.ofInt 5) b.1 b.2.1 dL_law_240 rfl ?_
  refine lx_iadd b dL_law_241 ?_
  refine lx_sld (q := i + 5) b hX hbl hZ hH hlo (w32_of (by omega) (by omega)) (by omega) dL_law_242 ?_
  have R1 := R_PR_feed Z ((xs (i + 1)).toInt) ((xs (i + 2)).toInt) ((xs (i + 3)).toInt) ((xs (i + 4)).toInt) ((xs (i + 5)).toInt) I _ _ h1
  have hc1 : cle I J := R1.1
  refine lx_callV (n := 5) (As := [vi (xs (i + 1)).toInt, vi (xs (i + 2)).toInt, vi (xs (i + 3)).toInt, vi (xs (i + 4)).toInt, vi (xs (i + 5)).toInt]) (rest := []) b hfl hl.1 hH R1 ⟨(li_2 134 (by decide +kernel) (by decide +kernel)), (li_2 132 (by decide +kernel) (by decide +kernel)), (li_2 133 (by decide +kernel) (by decide +kernel)), (li_1 1 (by decide +kernel) (by decide +kernel)), by decide +kernel⟩ (fun gr => ob_0) rfl rfl ⟨Nat.le_of_ble_eq_true rfl, Nat.le_of_ble_eq_true rfl⟩ (Nat.le_of_ble_eq_true rfl) ⟨show c0 + dC I J ≤ 601024 by have q1 := dC_add hc1 hcK; have q2 := dC_self K; omega, show s0 + dS I J ≤ 7293034 by have q1 := dC_add hc1 hcK; have q2 := dC_self K; omega⟩ (li_2 131 (by decide +kernel) (by decide +kernel)) hlo dL_law_243 (fun H locs hH hlo => ?_)
  refine lv_pop b.1 b.2.1 dL_law_246 rfl ?_
  refine lv_aload_n b.1 b.2.1 dL_law_247 rfl (lv_at hl 2 rfl) ?_
  refine lv_aload_n b.1 b.2.1 dL_law_248 rfl (lv_at hl 0 rfl) ?_
  refine lv_iload b.1 b.2.1 dL_law_249 (lv_at hl 4 rfl) ?_
  refine lv_iconst (v := Int32.ofInt 1) b.1 b.2.1 dL_law_251 rfl ?_
  refine lx_iadd b dL_law_252 ?_
  refine lx_sld (q := i + 1) b hX hbl hZ hH hlo (w32_of (by omega) (by omega)) (by omega) dL_law_253 ?_
  refine lv_aload_n b.1 b.2.1 dL_law_254 rfl (lv_at hl 0 rfl) ?_
  refine lv_iload b.1 b.2.1 dL_law_255 (lv_at hl 4 rfl) ?_
  refine lv_iconst (v := Int32.ofInt 2) b.1 b.2.1 dL_law_257 rfl ?_
  refine lx_iadd b dL_law_258 ?_
  refine lx_sld (q := i + 2) b hX hbl hZ hH hlo (w32_of (by omega) (by omega)) (by omega) dL_law_259 ?_
  refine lv_aload_n b.1 b.2.1 dL_law_260 rfl (lv_at hl 0 rfl) ?_
  refine lv_iload b.1 b.2.1 dL_law_261 (lv_at hl 4 rfl) ?_
  refine lv_iconst (v := Int32.ofInt 3) b.1 b.2.1 dL_law_263 rfl ?_
  refine lx_iadd b dL_law_264 ?_
  refine lx_sld (q := i + 3) b hX hbl hZ hH hlo (w32_of (by omega) (by omega)) (by omega) dL_law_265 ?_
  refine lv_aload_n b.1 b.2.1 dL_law_266 rfl (lv_at hl 0 rfl) ?_
  refine lv_iload b.1 b.2.1 dL_law_267 (lv_at hl 4 rfl) ?_
  refine lv_iconst (v := Int32.ofInt 4) b.1 b.2.1 dL_law_269 rfl ?_
  refine lx_iadd b dL_law_270 ?_
  refine lx_sld (q := i + 4) b hX hbl hZ hH hlo (w32_of (by omega) (by omega)) (by omega) dL_law_271 ?_
  refine lv_aload_n b.1 b.2.1 dL_law_272 rfl (lv_at hl 0 rfl) ?_
  refine lv_iload b.1 b.2.1 dL_law_273 (lv_at hl 4 rfl) ?_
  refine lv_iconst (v := Int32.ofInt 5) b.1 b.2.1 dL_law_275 rfl ?_
  refine lx_iadd b dL_law_276 ?_
  refine lx_sld (q := i + 5) b hX hbl hZ hH hlo (w32_of (by omega) (by omega)) (by omega) dL_law_277 ?_
  have R2 := R_M_feed Z ((xs (i + 1)).toInt) ((xs (i + 2)).toInt) ((xs (i + 3)).toInt) ((xs (i + 4)).toInt) ((xs (i + 5)).toInt) J _ _ h2
  have hc2 : cle J K := R2.1
  refine lx_callV (n := 5) (As := [vi (xs (i + 1)).toInt, vi (xs (i + 2)).toInt, vi (xs (i + 3)).toInt, vi (xs (i + 4)).toInt, vi (xs (i + 5)).toInt]) (rest := []) b hfl hl.1 hH R2 ⟨(li_7 194 (by decide +kernel) (by decide +kernel)), (li_7 192 (by decide +kernel) (by decide +kernel)), (li_7 193 (by decide +kernel) (by decide +kernel)), (li_1 16 (by decide +kernel) (by decide +kernel)), by decide +kernel⟩ (fun gr => ob_26) rfl rfl ⟨Nat.le_of_ble_eq_true rfl, Nat.le_of_ble_eq_true rfl⟩ (Nat.le_of_ble_eq_true rfl) ⟨show c0 + dC I J + dC J K ≤ 601024 by have q1 := dC_add hc1 hc2; have q2 := dC_self K; omega, show s0 + dS I J + dS J K ≤ 7293034 by have q1 := dC_add hc1 hc2; have q2 := dC_self K; omega⟩ (li_7 191 (by decide +kernel) (by decide +kernel)) hlo dL_law_278 (fun H locs hH hlo => ?_)
  refine lv_pop b.1 b.2.1 dL_law_281 rfl ?_
  refine lv_goto (tgt := 1238) b.1 b.2.1 dL_law_282 (by decide) ?_
  refine W.widen (k := c0 + dC I K) (n := s0 + dS I K) (show c0 + dC I J + dC J K ≤ c0 + dC I K by have q1 := dC_add hc1 hc2; have q2 := dC_self K; omega) (show s0 + dS I J + dS J K ≤ s0 + dS I K by have q1 := dC_add hc1 hc2; have q2 := dC_self K; omega) ?_
  exact kk H locs ls hH hlo (lv_sub hl [0, 1, 2, 3, 4] rfl)
set_option maxRecDepth 20000 in
set_option maxHeartbeats 4000000 in
theorem LC_1 {p : Program} {l : Launch} {e : Env} {s : State} {m : MethodId} {args : Array Value} {below : List Frame} {meth : Method} {c : Code} {H : Heap} {locs : List Loc} {c0 s0 : Nat} {Q : State → Prop} {ls : Array Slot} {Z : ZT} {I : Mem} {b0 L i : Nat} {xs : Nat → Int32} (b : BB p s m args c RL cL_law 9 Z) (hfl : l.stackTraces = false) (hX : va_X b0 L xs s s.heap) (hbl : b0 < s.heap.size) (hZ : zB Z = s.heap.size ∧ zH Z = s.heap) (hi : i + 6 ≤ L) (hL : L < 100000) (hH : HH Z I H) (hlo : ∀ q ∈ locs, zN Z q.base) (hl : lv_has ls 9 [(0, .ref b0), (1, vr Z 0 0), (2, vr Z 26 0), (3, vr Z 29 0), (4, vi (i : Int))]) {r1 : Int} {r2 : Int} {J K : Mem} (h1 : f_PR_load  I = some (r1, J)) (h2 : f_M_load  J = some (r2, K)) (hmc : c0 + dC I K ≤ 601024) (hms : s0 + dS I K ≤ 7293034)
    (kk : ∀ (H : Heap) (locs : List Loc) (ls : Array Slot), HH Z K H → (∀ q ∈ locs, zN Z q.base) → lv_has ls 9 [(0, .ref b0), (1, vr Z 0 0), (2, vr Z 26 0), (3, vr Z 29 0), (4, vi (i : Int))] → W p l e room_1 s m args below meth c H locs (c0 + dC I K) (s0 + dS I K) Q (F0 m 1238 ls [])) : W p l e room_1 s m args below meth c H locs c0 s0 Q (F0 m 285 ls []) := by
  have hcK : cle J K := (R_M_load Z  J _ _ h2).1
  refine lv_aload_n b.1 b.2.1 dL_law_285 rfl (lv_at hl 1 rfl) ?_
  have R1 := R_PR_load Z  I _ _ h1
  have hc1 : cle I J := R1.1
  refine lx_callV (n := 0) (As := []) (rest := []) b hfl hl.1 hH R1 ⟨(li_2 154 (by decide +kernel) (by decide +kernel)), (li_2 152 (by decide +kernel) (by decide +kernel)), (li_2 153 (by decide +kernel) (by decide +kernel)), (li_1 1 (by decide +kernel) (by decide +kernel)), by decide +kernel⟩ (fun gr => ob_0) rfl rfl ⟨Nat.le_of_ble_eq_true rfl, Nat.le_of_ble_eq_true rfl⟩ (Nat.le_of_ble_eq_true rfl) ⟨show c0 + dC I J ≤ 601024 by have q1 := dC_add hc1 hcK; have q2 := dC_self K; omega, show s0 + dS I J ≤ 7293034 by have q1 := dC_add hc1 hcK; have q2 := dC_self K; omega⟩ (li_2 151 (by decide +kernel) (by decide +kernel)) hlo dL_law_286 (fun H locs hH hlo => ?_)
  refine lv_pop b.1 b.2.1 dL_law_289 rfl ?_
  refine lv_aload_n b.1 b.2.1 dL_law_290 rfl (lv_at hl 2 rfl) ?_
  have R2 := R_M_load Z  J _ _ h2
  have hc2 : cle J K := R2.1
  refine lx_callV (n := 0) (As := []) (rest := []) b hfl hl.1 hH R2 ⟨(li_7 205 (by decide +kernel) (by decide +kernel)), (li_7 203 (by decide +kernel) (by decide +kernel)), (li_7 204 (by decide +kernel) (by decide +kernel)), (li_1 16 (by decide +kernel) (by decide +kernel)), by decide +kernel⟩ (fun gr => ob_26) rfl rfl ⟨Nat.le_of_ble_eq_true rfl, Nat.le_of_ble_eq_true rfl⟩ (Nat.le_of_ble_eq_true rfl) ⟨show c0 + dC I J + dC J K ≤ 601024 by have q1 := dC_add hc1 hc2; have q2 := dC_self K; omega, show s0 + dS I J + dS J K ≤ 7293034 by have q1 := dC_add hc1 hc2; have q2 := dC_self K; omega⟩ (li_7 202 (by decide +kernel) (by decide +kernel)) hlo dL_law_291 (fun H locs hH hlo => ?_)
  refine lv_pop b.1 b.2.1 dL_law_294 rfl ?_
  refine lv_goto (tgt := 1238) b.1 b.2.1 dL_law_295 (by decide) ?_
  refine W.widen (k := c0 + dC I K) (n := s0 + dS I K) (show c0 + dC I J + dC J K ≤ c0 + dC I K by have q1 := dC_add hc1 hc2; have q2 := dC_self K; omega) (show s0 + dS I J + dS J K ≤ s0 + dS I K by have q1 := dC_add hc1 hc2; have q2 := dC_self K; omega) ?_
  exact kk H locs ls hH hlo (lv_sub hl [0, 1, 2, 3, 4] rfl)
set_option maxRecDepth 20000 in
set_option maxHeartbeats 4000000 in
theorem LC_2 {p : Program} {l : Launch} {e : Env} {s : State} {m : MethodId} {args : Array Value} {below : List Frame} {meth : Method} {c : Code} {H : Heap} {locs : List Loc} {c0 s0 : Nat} {Q : State → Prop} {ls : Array Slot} {Z : ZT} {I : Mem} {b0 L i : Nat} {xs : Nat → Int32} (b : BB p s m args c RL cL_law 9 Z) (hfl : l.stackTraces = false) (hX : va_X b0 L xs s s.heap) (hbl : b0 < s.heap.size) (hZ : zB Z = s.heap.size ∧ zH Z = s.heap) (hi : i + 6 ≤ L) (hL : L < 100000) (hH : HH Z I H) (hlo : ∀ q ∈ locs, zN Z q.base) (hl : lv_has ls 9 [(0, .ref b0), (1, vr Z 0 0), (2, vr Z 26 0), (3, vr Z 29 0), (4, vi (i : Int))]) {r1 : Int} {r2 : Int} {J K : Mem} (h1 : f_PR_play  I = some (r1, J)) (h2 : f_M_play  J = some (r2, K)) (hmc : c0 + dC I K ≤ 601024) (hms : s0 + dS I K ≤ 7293034)
    (kk : ∀ (H : Heap) (locs : List Loc) (ls : Array Slot), HH Z K H → (∀ q ∈ locs, zN Z q.base) → lv_has ls 9 [(0, .ref b0), (1, vr Z 0 0), (2, vr Z 26 0), (3, vr Z 29 0), (4, vi (i : Int))] → W p l e room_1 s m args below meth c H locs (c0 + dC I K) (s0 + dS I K) Q (F0 m 1238 ls [])) : W p l e room_1 s m args below meth c H locs c0 s0 Q (F0 m 298 ls []) := by
  have hcK : cle J K := (R_M_play Z  J _ _ h2).1
  refine lv_aload_n b.1 b.2.1 dL_law_298 rfl (lv_at hl 1 rfl) ?_
  have R1 := R_PR_play Z  I _ _ h1
  have hc1 : cle I J := R1.1
  refine lx_callV (n := 0) (As := []) (rest := []) b hfl hl.1 hH R1 ⟨(li_3 185 (by decide +kernel) (by decide +kernel)), (li_3 183 (by decide +kernel) (by decide +kernel)), (li_3 184 (by decide +kernel) (by decide +kernel)), (li_1 1 (by decide +kernel) (by decide +kernel)), by decide +kernel⟩ (fun gr => ob_0) rfl rfl ⟨Nat.le_of_ble_eq_true rfl, Nat.le_of_ble_eq_true rfl⟩ (Nat.le_of_ble_eq_true rfl) ⟨show c0 + dC I J ≤ 601024 by have q1 := dC_add hc1 hcK; have q2 := dC_self K; omega, show s0 + dS I J ≤ 7293034 by have q1 := dC_add hc1 hcK; have q2 := dC_self K; omega⟩ (li_3 182 (by decide +kernel) (by decide +kernel)) hlo dL_law_299 (fun H locs hH hlo => ?_)
  refine lv_pop b.1 b.2.1 dL_law_302 rfl ?_
  refine lv_aload_n b.1 b.2.1 dL_law_303 rfl (lv_at hl 2 rfl) ?_
  have R2 := R_M_play Z  J _ _ h2
  have hc2 : cle J K := R2.1
  refine lx_callV (n := 0) (As := []) (rest := []) b hfl hl.1 hH R2 ⟨(li_8 82 (by decide +kernel) (by decide +kernel)), (li_8 80 (by decide +kernel) (by decide +kernel)), (li_8 81 (by decide +kernel) (by decide +kernel)), (li_1 16 (by decide +kernel) (by decide +kernel)), by decide +kernel⟩ (fun gr => ob_26) rfl rfl ⟨Nat.le_of_ble_eq_true rfl, Nat.le_of_ble_eq_true rfl⟩ (Nat.le_of_ble_eq_true rfl) ⟨show c0 + dC I J + dC J K ≤ 601024 by have q1 := dC_add hc1 hc2; have q2 := dC_self K; omega, show s0 + dS I J + dS J K ≤ 7293034 by have q1 := dC_add hc1 hc2; have q2 := dC_self K; omega⟩ (li_8 79 (by decide +kernel) (by decide +kernel)) hlo dL_law_304 (fun H locs hH hlo => ?_)
  refine lv_pop b.1 b.2.1 dL_law_307 rfl ?_
  refine lv_goto (tgt := 1238) b.1 b.2.1 dL_law_308 (by decide) ?_
  refine W.widen (k := c0 + dC I K) (n := s0 + dS I K) (show c0 + dC I J + dC J K ≤ c0 + dC I K by have q1 := dC_add hc1 hc2; have q2 := dC_self K; omega) (show s0 + dS I J + dS J K ≤ s0 + dS I K by have q1 := dC_add hc1 hc2; have q2 := dC_self K; omega) ?_
  exact kk H locs ls hH hlo (lv_sub hl [0, 1, 2, 3, 4] rfl)
set_option maxRecDepth 20000 in
set_option maxHeartbeats 4000000 in
theorem LC_3 {p : Program} {l : Launch} {e : Env} {s : State} {m : MethodId} {args : Array Value} {below : List Frame} {meth : Method} {c : Code} {H : Heap} {locs : List Loc} {c0 s0 : Nat} {Q : State → Prop} {ls : Array Slot} {Z : ZT} {I : Mem} {b0 L i : Nat} {xs : Nat → Int32} (b : BB p s m args c RL cL_law 9 Z) (hfl : l.stackTraces = false) (hX : va_X b0 L xs s s.heap) (hbl : b0 < s.heap.size) (hZ : zB Z = s.heap.size ∧ zH Z = s.heap) (hi : i + 6 ≤ L) (hL : L < 100000) (hH : HH Z I H) (hlo : ∀ q ∈ locs, zN Z q.base) (hl : lv_has ls 9 [(0, .ref b0), (1, vr Z 0 0), (2, vr Z 26 0), (3, vr Z 29 0), (4, vi (i : Int))]) {r1 : Int} {r2 : Int} {J K : Mem} (h1 : f_PR_errorPosition  I = some (r1, J)) (h2 : f_M_errorPosition  J = some (r2, K)) (hmc : c0 + dC I K ≤ 601024) (hms : s0 + dS I K ≤ 7293034)
    (kk : ∀ (H : Heap) (locs : List Loc) (ls : Array Slot), HH Z K H → (∀ q ∈ locs, zN Z q.base) → lv_has ls 9 [(0, .ref b0), (1, vr Z 0 0), (2, vr Z 26 0), (3, vr Z 29 0), (4, vi (i : Int))] → W p l e room_1 s m args below meth c H locs (c0 + dC I K) (s0 + dS I K) Q (F0 m 1238 ls [])) : W p l e room_1 s m args below meth c H locs c0 s0 Q (F0 m 311 ls []) := by
  have hcK : cle J K := (R_M_errorPosition Z  J _ _ h2).1
  refine lv_aload_n b.1 b.2.1 dL_law_311 rfl (lv_at hl 1 rfl) ?_
  have R1 := R_PR_errorPosition Z  I _ _ h1
  have hc1 : cle I J := R1.1
  refine lx_callV (n := 0) (As := []) (rest := []) b hfl hl.1 hH R1 ⟨(li_5 5 (by decide +kernel) (by decide +kernel)), (li_5 3 (by decide +kernel) (by decide +kernel)), (li_5 4 (by decide +kernel) (by decide +kernel)), (li_1 1 (by decide +kernel) (by decide +kernel)), by decide +kernel⟩ (fun gr => ob_0) rfl rfl ⟨Nat.le_of_ble_eq_true rfl, Nat.le_of_ble_eq_true rfl⟩ (Nat.le_of_ble_eq_true rfl) ⟨show c0 + dC I J ≤ 601024 by have q1 := dC_add hc1 hcK; have q2 := dC_self K; omega, show s0 + dS I J ≤ 7293034 by have q1 := dC_add hc1 hcK; have q2 := dC_self K; omega⟩ (li_5 2 (by decide +kernel) (by decide +kernel)) hlo dL_law_312 (fun H locs hH hlo => ?_)
  refine lv_pop b.1 b.2.1 dL_law_315 rfl ?_
  refine lv_aload_n b.1 b.2.1 dL_law_316 rfl (lv_at hl 2 rfl) ?_
  have R2 := R_M_errorPosition Z  J _ _ h2
  have hc2 : cle J K := R2.1
  refine lx_callV (n := 0) (As := []) (rest := []) b hfl hl.1 hH R2 ⟨(li_8 78 (by decide +kernel) (by decide +kernel)), (li_8 76 (by decide +kernel) (by decide +kernel)), (li_8 77 (by decide +kernel) (by decide +kernel)), (li_1 16 (by decide +kernel) (by decide +kernel)), by decide +kernel⟩ (fun gr => ob_26) rfl rfl ⟨Nat.le_of_ble_eq_true rfl, Nat.le_of_ble_eq_true rfl⟩ (Nat.le_of_ble_eq_true rfl) ⟨show c0 + dC I J + dC J K ≤ 601024 by have q1 := dC_add hc1 hc2; have q2 := dC_self K; omega, show s0 + dS I J + dS J K ≤ 7293034 by have q1 := dC_add hc1 hc2; have q2 := dC_self K; omega⟩ (li_8 75 (by decide +kernel) (by decide +kernel)) hlo dL_law_317 (fun H locs hH hlo => ?_)
  refine lv_pop b.1 b.2.1 dL_law_320 rfl ?_
  refine lv_goto (tgt := 1238) b.1 b.2.1 dL_law_321 (by decide) ?_
  refine W.widen (k := c0 + dC I K) (n := s0 + dS I K) (show c0 + dC I J + dC J K ≤ c0 + dC I K by have q1 := dC_add hc1 hc2; have q2 := dC_self K; omega) (show s0 + dS I J + dS J K ≤ s0 + dS I K by have q1 := dC_add hc1 hc2; have q2 := dC_self K; omega) ?_
  exact kk H locs ls hH hlo (lv_sub hl [0, 1, 2, 3, 4] rfl)
set_option maxRecDepth 20000 in
set_option maxHeartbeats 4000000 in
theorem LC_4 {p : Program} {l : Launch} {e : Env} {s : State} {m : MethodId} {args : Array Value} {below : List Frame} {meth : Method} {c : Code} {H : Heap} {locs : List Loc} {c0 s0 : Nat} {Q : State → Prop} {ls : Array Slot} {Z : ZT} {I : Mem} {b0 L i : Nat} {xs : Nat → Int32} (b : BB p s m args c RL cL_law 9 Z) (hfl : l.stackTraces = false) (hX : va_X b0 L xs s s.heap) (hbl : b0 < s.heap.size) (hZ : zB Z = s.heap.size ∧ zH Z = s.heap) (hi : i + 6 ≤ L) (hL : L < 100000) (hH : HH Z I H) (hlo : ∀ q ∈ locs, zN Z q.base) (hl : lv_has ls 9 [(0, .ref b0), (1, vr Z 0 0), (2, vr Z 26 0), (3, vr Z 29 0), (4, vi (i : Int))]) {r1 : Int} {r2 : Int} {J K : Mem} (h1 : f_L_size ((xs (i + 1)).toInt) I = some (r1, J)) (h2 : f_M_size ((xs (i + 1)).toInt) J = some (r2, K)) (hmc : c0 + dC I K ≤ 601024) (hms : s0 + dS I K ≤ 7293034)
    (kk : ∀ (H : Heap) (locs : List Loc) (ls : Array Slot), HH Z K H → (∀ q ∈ locs, zN Z q.base) → lv_has ls 9 [(0, .ref b0), (1, vr Z 0 0), (2, vr Z 26 0), (3, vr Z 29 0), (4, vi (i : Int))] → W p l e room_1 s m args below meth c H locs (c0 + dC I K) (s0 + dS I K) Q (F0 m 1238 ls [])) : W p l e room_1 s m args below meth c H locs c0 s0 Q (F0 m 324 ls []) := by
  have hcK : cle J K := (R_M_size Z ((xs (i + 1)).toInt) J _ _ h2).1
  refine lv_aload_n b.1 b.2.1 dL_law_324 rfl (lv_at hl 1 rfl) ?_
  refine lv_aload_n b.1 b.2.1 dL_law_325 rfl (lv_at hl 0 rfl) ?_
  refine lv_iload b.1 b.2.1 dL_law_326 (lv_at hl 4 rfl) ?_
  refine lv_iconst (v := Int32.ofInt 1) b.1 b.2.1 dL_law_328 rfl ?_
  refine lx_iadd b dL_law_329 ?_
  refine lx_sld (q := i + 1) b hX hbl hZ hH hlo (w32_of (by omega) (by omega)) (by omega) dL_law_330 ?_
  refine lv_aload_n b.1 b.2.1 dL_law_331 rfl (lv_at hl 3 rfl) ?_
  have R1 := R_L_size Z ((xs (i + 1)).toInt) I _ _ h1
  have hc1 : cle I J := R1.1
  refine lx_callS (n := 3) (As := [vr Z 0 0, vi (xs (i + 1)).toInt, vr Z 29 0]) (rest := []) b hfl hl.1 hH R1 (li_5 136 (by decide +kernel) (by decide +kernel)) (li_5 135 (by decide +kernel) (by decide +kernel)) (li_1 0 (by decide +kernel) (by decide +kernel)) (by decide +kernel) rfl rfl ⟨Nat.le_of_ble_eq_true rfl, Nat.le_of_ble_eq_true rfl⟩ (Nat.le_of_ble_eq_true rfl) ⟨show c0 + dC I J ≤ 601024 by have q1 := dC_add hc1 hcK; have q2 := dC_self K; omega, show s0 + dS I J ≤ 7293034 by have q1 := dC_add hc1 hcK; have q2 := dC_self K; omega⟩ (li_5 134 (by decide +kernel) (by decide +kernel)) hlo dL_law_332 (fun H locs hH hlo => ?_)
  refine lv_istore (lv' := [(5, vi r1), (0, .ref b0), (1, vr Z 0 0), (2, vr Z 26 0), (3, vr Z 29 0), (4, vi (i : Int))]) b.1 b.2.1 dL_law_335 hl (by decide) rfl (fun ls hl => ?_)
  refine lv_aload_n b.1 b.2.1 dL_law_337 rfl (lv_at hl 3 rfl) ?_
  refine lv_aload_n b.1 b.2.1 dL_law_338 rfl (lv_at hl 1 rfl) ?_
  refine lv_iload b.1 b.2.1 dL_law_339 (lv_at hl 5 rfl) ?_
  refine lv_iconst (v := Int32.ofInt 1) b.1 b.2.1 dL_law_341 rfl ?_
  refine lx_iadd b dL_law_342 ?_
  refine lx_sld (q := i + 1) b hX hbl hZ hH hlo (w32_of (by omega) (by omega)) (by omega) dL_law_343 ?_
  have R2 := R_M_size Z ((xs (i + 1)).toInt) J _ _ h2
  have hc2 : cle J K := R2.1
  refine lx_callV (n := 1) (As := [vi (xs (i + 1)).toInt]) (rest := []) b hfl hl.1 hH R2 ⟨(li_8 239 (by decide +kernel) (by decide +kernel)), (li_8 237 (by decide +kernel) (by decide +kernel)), (li_8 238 (by decide +kernel) (by decide +kernel)), (li_1 16 (by decide +kernel) (by decide +kernel)), by decide +kernel⟩ (fun gr => ob_26) rfl rfl ⟨Nat.le_of_ble_eq_true rfl, Nat.le_of_ble_eq_true rfl⟩ (Nat.le_of_ble_eq_true rfl) ⟨show c0 + dC I J + dC J K ≤ 601024 by have q1 := dC_add hc1 hc2; have q2 := dC_self K; omega, show s0 + dS I J + dS J K ≤ 7293034 by have q1 := dC_add hc1 hc2; have q2 := dC_self K; omega⟩ (li_8 236 (by decide +kernel) (by decide +kernel)) hlo dL_law_344 (fun H locs hH hlo => ?_)
  refine lv_istore (lv' := [(6, vi r2), (5, vi r1), (0, .ref b0), (1, vr Z 0 0), (2, vr Z 26 0), (3, vr Z 29 0), (4, vi (i : Int))]) b.1 b.2.1 dL_law_347 hl (by decide) rfl (fun ls hl => ?_)
  refine lv_goto (tgt := 1238) b.1 b.2.1 dL_law_349 (by decide) ?_
  refine W.widen (k := c0 + dC I K) (n := s0 + dS I K) (show c0 + dC I J + dC J K ≤ c0 + dC I K by have q1 := dC_add hc1 hc2; have q2 := dC_self K; omega) (show s0 + dS I J + dS J K ≤ s0 + dS I K by have q1 := dC_add hc1 hc2; have q2 := dC_self K; omega) ?_
  exact kk H locs ls hH hlo (lv_sub hl [2, 3, 4, 5, 6] rfl)
set_option maxRecDepth 20000 in
set_option maxHeartbeats 4000000 in
theorem LC_5 {p : Program} {l : Launch} {e : Env} {s : State} {m : MethodId} {args : Array Value} {below : List Frame} {meth : Method} {c : Code} {H : Heap} {locs : List Loc} {c0 s0 : Nat} {Q : State → Prop} {ls : Array Slot} {Z : ZT} {I : Mem} {b0 L i : Nat} {xs : Nat → Int32} (b : BB p s m args c RL cL_law 9 Z) (hfl : l.stackTraces = false) (hX : va_X b0 L xs s s.heap) (hbl : b0 < s.heap.size) (hZ : zB Z = s.heap.size ∧ zH Z = s.heap) (hi : i + 6 ≤ L) (hL : L < 100000) (hH : HH Z I H) (hlo : ∀ q ∈ locs, zN Z q.base) (hl : lv_has ls 9 [(0, .ref b0), (1, vr Z 0 0), (2, vr Z 26 0), (3, vr Z 29 0), (4, vi (i : Int))]) {r1 : Int} {r2 : Int} {J K : Mem} (h1 : f_L_isRule ((xs (i + 1)).toInt) I = some (r1, J)) (h2 : f_M_isRule ((xs (i + 1)).toInt) J = some (r2, K)) (hmc : c0 + dC I K ≤ 601024) (hms : s0 + dS I K ≤ 7293034)
    (kk : ∀ (H : Heap) (locs : List Loc) (ls : Array Slot), HH Z K H → (∀ q ∈ locs, zN Z q.base) → lv_has ls 9 [(0, .ref b0), (1, vr Z 0 0), (2, vr Z 26 0), (3, vr Z 29 0), (4, vi (i : Int))] → W p l e room_1 s m args below meth c H locs (c0 + dC I K) (s0 + dS I K) Q (F0 m 1238 ls [])) : W p l e room_1 s m args below meth c H locs c0 s0 Q (F0 m 352 ls []) := by
  have hcK : cle J K := (R_M_isRule Z ((xs (i + 1)).toInt) J _ _ h2).1
  refine lv_aload_n b.1 b.2.1 dL_law_352 rfl (lv_at hl 1 rfl) ?_
  refine lv_aload_n b.1 b.2.1 dL_law_353 rfl (lv_at hl 0 rfl) ?_
  refine lv_iload b.1 b.2.1 dL_law_354 (lv_at hl 4 rfl) ?_
  refine lv_iconst (v := Int32.ofInt 1) b.1 b.2.1 dL_law_356 rfl ?_
  refine lx_iadd b dL_law_357 ?_
  refine lx_sld (q := i + 1) b hX hbl hZ hH hlo (w32_of (by omega) (by omega)) (by omega) dL_law_358 ?_
  refine lv_aload_n b.1 b.2.1 dL_law_359 rfl (lv_at hl 3 rfl) ?_
  have R1 := R_L_isRule Z ((xs (i + 1)).toInt) I _ _ h1
  have hc1 : cle I J := R1.1
  refine lx_callS (n := 3) (As := [vr Z 0 0, vi (xs (i + 1)).toInt, vr Z 29 0]) (rest := []) b hfl hl.1 hH R1 (li_6 12 (by decide +kernel) (by decide +kernel)) (li_6 11 (by decide +kernel) (by decide +kernel)) (li_1 0 (by decide +kernel) (by decide +kernel)) (by decide +kernel) rfl rfl ⟨Nat.le_of_ble_eq_true rfl, Nat.le_of_ble_eq_true rfl⟩ (Nat.le_of_ble_eq_true rfl) ⟨show c0 + dC I J ≤ 601024 by have q1 := dC_add hc1 hcK; have q2 := dC_self K; omega, show s0 + dS I J ≤ 7293034 by have q1 := dC_add hc1 hcK; have q2 := dC_self K; omega⟩ (li_6 10 (by decide +kernel) (by decide +kernel)) hlo dL_law_360 (fun H locs hH hlo => ?_)
  refine lv_istore (lv' := [(5, vi r1), (0, .ref b0), (1, vr Z 0 0), (2, vr Z 26 0), (3, vr Z 29 0), (4, vi (i : Int))]) b.1 b.2.1 dL_law_363 hl (by decide) rfl (fun ls hl => ?_)
  refine lv_aload_n b.1 b.2.1 dL_law_365 rfl (lv_at hl 3 rfl) ?_
  refine lv_aload_n b.1 b.2.1 dL_law_366 rfl (lv_at hl 1 rfl) ?_
  refine lv_iload b.1 b.2.1 dL_law_367 (lv_at hl 5 rfl) ?_
  refine lv_iconst (v := Int32.ofInt 1) b.1 b.2.1 dL_law_369 rfl ?_
  refine lx_iadd b dL_law_370 ?_
  refine lx_sld (q := i + 1) b hX hbl hZ hH hlo (w32_of (by omega) (by omega)) (by omega) dL_law_371 ?_
  have R2 := R_M_isRule Z ((xs (i + 1)).toInt) J _ _ h2
  have hc2 : cle J K := R2.1
  refine lx_callV (n := 1) (As := [vi (xs (i + 1)).toInt]) (rest := []) b hfl hl.1 hH R2 ⟨(li_9 35 (by decide +kernel) (by decide +kernel)), (li_9 33 (by decide +kernel) (by decide +kernel)), (li_9 34 (by decide +kernel) (by decide +kernel)), (li_1 16 (by decide +kernel) (by decide +kernel)), by decide +kernel⟩ (fun gr => ob_26) rfl rfl ⟨Nat.le_of_ble_eq_true rfl, Nat.le_of_ble_eq_true rfl⟩ (Nat.le_of_ble_eq_true rfl) ⟨show c0 + dC I J + dC J K ≤ 601024 by have q1 := dC_add hc1 hc2; have q2 := dC_self K; omega, show s0 + dS I J + dS J K ≤ 7293034 by have q1 := dC_add hc1 hc2; have q2 := dC_self K; omega⟩ (li_9 32 (by decide +kernel) (by decide +kernel)) hlo dL_law_372 (fun H locs hH hlo => ?_)
  refine lv_istore (lv' := [(6, vi r2), (5, vi r1), (0, .ref b0), (1, vr Z 0 0), (2, vr Z 26 0), (3, vr Z 29 0), (4, vi (i : Int))]) b.1 b.2.1 dL_law_375 hl (by decide) rfl (fun ls hl => ?_)
  refine lv_goto (tgt := 1238) b.1 b.2.1 dL_law_377 (by decide) ?_
  refine W.widen (k := c0 + dC I K) (n := s0 + dS I K) (show c0 + dC I J + dC J K ≤ c0 + dC I K by have q1 := dC_add hc1 hc2; have q2 := dC_self K; omega) (show s0 + dS I J + dS J K ≤ s0 + dS I K by have q1 := dC_add hc1 hc2; have q2 := dC_self K; omega) ?_
  exact kk H locs ls hH hlo (lv_sub hl [2, 3, 4, 5, 6] rfl)
set_option maxRecDepth 20000 in
set_option maxHeartbeats 4000000 in
theorem LC_6 {p : Program} {l : Launch} {e : Env} {s : State} {m : MethodId} {args : Array Value} {below : List Frame} {meth : Method} {c : Code} {H : Heap} {locs : List Loc} {c0 s0 : Nat} {Q : State → Prop} {ls : Array Slot} {Z : ZT} {I : Mem} {b0 L i : Nat} {xs : Nat → Int32} (b : BB p s m args c RL cL_law 9 Z) (hfl : l.stackTraces = false) (hX : va_X b0 L xs s s.heap) (hbl : b0 < s.heap.size) (hZ : zB Z = s.heap.size ∧ zH Z = s.heap) (hi : i + 6 ≤ L) (hL : L < 100000) (hH : HH Z I H) (hlo : ∀ q ∈ locs, zN Z q.base) (hl : lv_has ls 9 [(0, .ref b0), (1, vr Z 0 0), (2, vr Z 26 0), (3, vr Z 29 0), (4, vi (i : Int))]) {r1 : Int} {r2 : Int} {J K : Mem} (h1 : f_L_rule ((xs (i + 1)).toInt) ((xs (i + 2)).toInt) I = some (r1, J)) (h2 : f_M_rule ((xs (i + 1)).toInt) ((xs (i + 2)).toInt) J = some (r2, K)) (hmc : c0 + dC I K ≤ 601024) (hms : s0 + dS I K ≤ 7293034)
    (kk : ∀ (H : Heap) (locs : List Loc) (ls : Array Slot), HH Z K H → (∀ q ∈ locs, zN Z q.base) → lv_has ls 9 [(0, .ref b0), (1, vr Z 0 0), (2, vr Z 26 0), (3, vr Z 29 0), (4, vi (i : Int))] → W p l e room_1 s m args below meth c H locs (c0 + dC I K) (s0 + dS I K) Q (F0 m 1238 ls [])) : W p l e room_1 s m args below meth c H locs c0 s0 Q (F0 m 380 ls []) := by
  have hcK : cle J K := (R_M_rule Z ((xs (i + 1)).toInt) ((xs (i + 2)).toInt) J _ _ h2).1
  refine lv_aload_n b.1 b.2.1 dL_law_380 rfl (lv_at hl 1 rfl) ?_
  refine lv_aload_n b.1 b.2.1 dL_law_381 rfl (lv_at hl 0 rfl) ?_
  refine lv_iload b.1 b.2.1 dL_law_382 (lv_at hl 4 rfl) ?_
  refine lv_iconst (v := Int32.ofInt 1) b.1 b.2.1 dL_law_384 rfl ?_
  refine lx_iadd b dL_law_385 ?_
  refine lx_sld (q := i + 1) b hX hbl hZ hH hlo (w32_of (by omega) (by omega)) (by omega) dL_law_386 ?_
  refine lv_aload_n b.1 b.2.1 dL_law_387 rfl (lv_at hl 0 rfl) ?_
  refine lv_iload b.1 b.2.1 dL_law_388 (lv_at hl 4 rfl) ?_
  refine lv_iconst (v := Int32.ofInt 2) b.1 b.2.1 dL_law_390 rfl ?_
  refine lx_iadd b dL_law_391 ?_
  refine lx_sld (q := i + 2) b hX hbl hZ hH hlo (w32_of (by omega) (by omega)) (by omega) dL_law_392 ?_
  refine lv_aload_n b.1 b.2.1 dL_law_393 rfl (lv_at hl 3 rfl) ?_
  have R1 := R_L_rule Z ((xs (i + 1)).toInt) ((xs (i + 2)).toInt) I _ _ h1
  have hc1 : cle I J := R1.1
  refine lx_callS (n := 4) (As := [vr Z 0 0, vi (xs (i + 1)).toInt, vi (xs (i + 2)).toInt, vr Z 29 0]) (rest := []) b hfl hl.1 hH R1 (li_6 35 (by decide +kernel) (by decide +kernel)) (li_6 34 (by decide +kernel) (by decide +kernel)) (li_1 0 (by decide +kernel) (by decide +kernel)) (by decide +kernel) rfl rfl ⟨Nat.le_of_ble_eq_true rfl, Nat.le_of_ble_eq_true rfl⟩ (Nat.le_of_ble_eq_true rfl) ⟨show c0 + dC I J ≤ 601024 by have q1 := dC_add hc1 hcK; have q2 := dC_self K; omega, show s0 + dS I J ≤ 7293034 by have q1 := dC_add hc1 hcK; have q2 := dC_self K; omega⟩ (li_6 33 (by decide +kernel) (by decide +kernel)) hlo dL_law_394 (fun H locs hH hlo => ?_)
  refine lv_istore (lv' := [(5, vi r1), (0, .ref b0), (1, vr Z 0 0), (2, vr Z 26 0), (3, vr Z 29 0), (4, vi (i : Int))]) b.1 b.2.1 dL_law_397 hl (by decide) rfl (fun ls hl => ?_)
  refine lv_aload_n b.1 b.2.1 dL_law_399 rfl (lv_at hl 3 rfl) ?_
  refine lv_aload_n b.1 b.2.1 dL_law_400 rfl (lv_at hl 1 rfl) ?_
  refine lv_iload b.1 b.2.1 dL_law_401 (lv_at hl 5 rfl) ?_
  refine lv_iconst (v := Int32.ofInt 1) b.1 b.2.1 dL_law_403 rfl ?_
  refine lx_iadd b dL_law_404 ?_
  refine lx_sld (q := i + 1) b hX hbl hZ hH hlo (w32_of (by omega) (by omega)) (by omega) dL_law_405 ?_
  refine lv_aload_n b.1 b.2.1 dL_law_406 rfl (lv_at hl 1 rfl) ?_
  refine lv_iload b.1 b.2.1 dL_law_407 (lv_at hl 5 rfl) ?_
  refine lv_iconst (v := Int32.ofInt 2) b.1 b.2.1 dL_law_409 rfl ?_
  refine lx_iadd b dL_law_410 ?_
  refine lx_sld (q := i + 2) b hX hbl hZ hH hlo (w32_of (by omega) (by omega)) (by omega) dL_law_411 ?_
  have R2 := R_M_rule Z ((xs (i + 1)).toInt) ((xs (i + 2)).toInt) J _ _ h2
  have hc2 : cle J K := R2.1
  refine lx_callV (n := 2) (As := [vi (xs (i + 1)).toInt, vi (xs (i + 2)).toInt]) (rest := []) b hfl hl.1 hH R2 ⟨(li_9 43 (by decide +kernel) (by decide +kernel)), (li_9 41 (by decide +kernel) (by decide +kernel)), (li_9 42 (by decide +kernel) (by decide +kernel)), (li_1 16 (by decide +kernel) (by decide +kernel)), by decide +kernel⟩ (fun gr => ob_26) rfl rfl ⟨Nat.le_of_ble_eq_true rfl, Nat.le_of_ble_eq_true rfl⟩ (Nat.le_of_ble_eq_true rfl) ⟨show c0 + dC I J + dC J K ≤ 601024 by have q1 := dC_add hc1 hc2; have q2 := dC_self K; omega, show s0 + dS I J + dS J K ≤ 7293034 by have q1 := dC_add hc1 hc2; have q2 := dC_self K; omega⟩ (li_9 40 (by decide +kernel) (by decide +kernel)) hlo dL_law_412 (fun H locs hH hlo => ?_)
  refine lv_istore (lv' := [(6, vi r2), (5, vi r1), (0, .ref b0), (1, vr Z 0 0), (2, vr Z 26 0), (3, vr Z 29 0), (4, vi (i : Int))]) b.1 b.2.1 dL_law_415 hl (by decide) rfl (fun ls hl => ?_)
  refine lv_goto (tgt := 1238) b.1 b.2.1 dL_law_417 (by decide) ?_
  refine W.widen (k := c0 + dC I K) (n := s0 + dS I K) (show c0 + dC I J + dC J K ≤ c0 + dC I K by have q1 := dC_add hc1 hc2; have q2 := dC_self K; omega) (show s0 + dS I J + dS J K ≤ s0 + dS I K by have q1 := dC_add hc1 hc2; have q2 := dC_self K; omega) ?_
  exact kk H locs ls hH hlo (lv_sub hl [2, 3, 4, 5, 6] rfl)
set_option maxRecDepth 20000 in
set_option maxHeartbeats 4000000 in
theorem LC_7 {p : Program} {l : Launch} {e : Env} {s : State} {m : MethodId} {args : Array Value} {below : List Frame} {meth : Method} {c : Code} {H : Heap} {locs : List Loc} {c0 s0 : Nat} {Q : State → Prop} {ls : Array Slot} {Z : ZT} {I : Mem} {b0 L i : Nat} {xs : Nat → Int32} (b : BB p s m args c RL cL_law 9 Z) (hfl : l.stackTraces = false) (hX : va_X b0 L xs s s.heap) (hbl : b0 < s.heap.size) (hZ : zB Z = s.heap.size ∧ zH Z = s.heap) (hi : i + 6 ≤ L) (hL : L < 100000) (hH : HH Z I H) (hlo : ∀ q ∈ locs, zN Z q.base) (hl : lv_has ls 9 [(0, .ref b0), (1, vr Z 0 0), (2, vr Z 26 0), (3, vr Z 29 0), (4, vi (i : Int))]) {r1 : Int} {r2 : Int} {J K : Mem} (h1 : f_L_bodyAt ((xs (i + 1)).toInt) ((xs (i + 2)).toInt) I = some (r1, J)) (h2 : f_M_bodyAt ((xs (i + 1)).toInt) ((xs (i + 2)).toInt) J = some (r2, K)) (hmc : c0 + dC I K ≤ 601024) (hms : s0 + dS I K ≤ 7293034)
    (kk : ∀ (H : Heap) (locs : List Loc) (ls : Array Slot), HH Z K H → (∀ q ∈ locs, zN Z q.base) → lv_has ls 9 [(0, .ref b0), (1, vr Z 0 0), (2, vr Z 26 0), (3, vr Z 29 0), (4, vi (i : Int))] → W p l e room_1 s m args below meth c H locs (c0 + dC I K) (s0 + dS I K) Q (F0 m 1238 ls [])) : W p l e room_1 s m args below meth c H locs c0 s0 Q (F0 m 420 ls []) := by
  have hcK : cle J K := (R_M_bodyAt Z ((xs (i + 1)).toInt) ((xs (i + 2)).toInt) J _ _ h2).1
  refine lv_aload_n b.1 b.2.1 dL_law_420 rfl (lv_at hl 1 rfl) ?_
  refine lv_aload_n b.1 b.2.1 dL_law_421 rfl (lv_at hl 0 rfl) ?_
  refine lv_iload b.1 b.2.1 dL_law_422 (lv_at hl 4 rfl) ?_
  refine lv_iconst (v := Int32.ofInt 1) b.1 b.2.1 dL_law_424 rfl ?_
  refine lx_iadd b dL_law_425 ?_
  refine lx_sld (q := i + 1) b hX hbl hZ hH hlo (w32_of (by omega) (by omega)) (by omega) dL_law_426 ?_
  refine lv_aload_n b.1 b.2.1 dL_law_427 rfl (lv_at hl 0 rfl) ?_
  refine lv_iload b.1 b.2.1 dL_law_428 (lv_at hl 4 rfl) ?_
  refine lv_iconst (v := Int32.ofInt 2) b.1 b.2.1 dL_law_430 rfl ?_
  refine lx_iadd b dL_law_431 ?_
  refine lx_sld (q := i + 2) b hX hbl hZ hH hlo (w32_of (by omega) (by omega)) (by omega) dL_law_432 ?_
  refine lv_aload_n b.1 b.2.1 dL_law_433 rfl (lv_at hl 3 rfl) ?_
  have R1 := R_L_bodyAt Z ((xs (i + 1)).toInt) ((xs (i + 2)).toInt) I _ _ h1
  have hc1 : cle I J := R1.1
  refine lx_callS (n := 4) (As := [vr Z 0 0, vi (xs (i + 1)).toInt, vi (xs (i + 2)).toInt, vr Z 29 0]) (rest := []) b hfl hl.1 hH R1 (li_6 54 (by decide +kernel) (by decide +kernel)) (li_6 53 (by decide +kernel) (by decide +kernel)) (li_1 0 (by decide +kernel) (by decide +kernel)) (by decide +kernel) rfl rfl ⟨Nat.le_of_ble_eq_true rfl, Nat.le_of_ble_eq_true rfl⟩ (Nat.le_of_ble_eq_true rfl) ⟨show c0 + dC I J ≤ 601024 by have q1 := dC_add hc1 hcK; have q2 := dC_self K; omega, show s0 + dS I J ≤ 7293034 by have q1 := dC_add hc1 hcK; have q2 := dC_self K; omega⟩ (li_6 52 (by decide +kernel) (by decide +kernel)) hlo dL_law_434 (fun H locs hH hlo => ?_)
  refine lv_istore (lv' := [(5, vi r1), (0, .ref b0), (1, vr Z 0 0), (2, vr Z 26 0), (3, vr Z 29 0), (4, vi (i : Int))]) b.1 b.2.1 dL_law_437 hl (by decide) rfl (fun ls hl => ?_)
  refine lv_aload_n b.1 b.2.1 dL_law_439 rfl (lv_at hl 3 rfl) ?_
  refine lv_aload_n b.1 b.2.1 dL_law_440 rfl (lv_at hl 1 rfl) ?_
  refine lv_iload b.1 b.2.1 dL_law_441 (lv_at hl 5 rfl) ?_
  refine lv_iconst (v := Int32.ofInt 1) b.1 b.2.1 dL_law_443 rfl ?_
  refine lx_iadd b dL_law_444 ?_
  refine lx_sld (q := i + 1) b hX hbl hZ hH hlo (w32_of (by omega) (by omega)) (by omega) dL_law_445 ?_
  refine lv_aload_n b.1 b.2.1 dL_law_446 rfl (lv_at hl 1 rfl) ?_
  refine lv_iload b.1 b.2.1 dL_law_447 (lv_at hl 5 rfl) ?_
  refine lv_iconst (v := Int32.ofInt 2) b.1 b.2.1 dL_law_449 rfl ?_
  refine lx_iadd b dL_law_450 ?_
  refine lx_sld (q := i + 2) b hX hbl hZ hH hlo (w32_of (by omega) (by omega)) (by omega) dL_law_451 ?_
  have R2 := R_M_bodyAt Z ((xs (i + 1)).toInt) ((xs (i + 2)).toInt) J _ _ h2
  have hc2 : cle J K := R2.1
  refine lx_callV (n := 2) (As := [vi (xs (i + 1)).toInt, vi (xs (i + 2)).toInt]) (rest := []) b hfl hl.1 hH R2 ⟨(li_9 59 (by decide +kernel) (by decide +kernel)), (li_9 57 (by decide +kernel) (by decide +kernel)), (li_9 58 (by decide +kernel) (by decide +kernel)), (li_1 16 (by decide +kernel) (by decide +kernel)), by decide +kernel⟩ (fun gr => ob_26) rfl rfl ⟨Nat.le_of_ble_eq_true rfl, Nat.le_of_ble_eq_true rfl⟩ (Nat.le_of_ble_eq_true rfl) ⟨show c0 + dC I J + dC J K ≤ 601024 by have q1 := dC_add hc1 hc2; have q2 := dC_self K; omega, show s0 + dS I J + dS J K ≤ 7293034 by have q1 := dC_add hc1 hc2; have q2 := dC_self K; omega⟩ (li_9 56 (by decide +kernel) (by decide +kernel)) hlo dL_law_452 (fun H locs hH hlo => ?_)
  refine lv_istore (lv' := [(6, vi r2), (5, vi r1), (0, .ref b0), (1, vr Z 0 0), (2, vr Z 26 0), (3, vr Z 29 0), (4, vi (i : Int))]) b.1 b.2.1 dL_law_455 hl (by decide) rfl (fun ls hl => ?_)
  refine lv_goto (tgt := 1238) b.1 b.2.1 dL_law_457 (by decide) ?_
  refine W.widen (k := c0 + dC I K) (n := s0 + dS I K) (show c0 + dC I J + dC J K ≤ c0 + dC I K by have q1 := dC_add hc1 hc2; have q2 := dC_self K; omega) (show s0 + dS I J + dS J K ≤ s0 + dS I K by have q1 := dC_add hc1 hc2; have q2 := dC_self K; omega) ?_
  exact kk H locs ls hH hlo (lv_sub hl [2, 3, 4, 5, 6] rfl)
set_option maxRecDepth 20000 in
set_option maxHeartbeats 4000000 in
theorem LC_8 {p : Program} {l : Launch} {e : Env} {s : State} {m : MethodId} {args : Array Value} {below : List Frame} {meth : Method} {c : Code} {H : Heap} {locs : List Loc} {c0 s0 : Nat} {Q : State → Prop} {ls : Array Slot} {Z : ZT} {I : Mem} {b0 L i : Nat} {xs : Nat → Int32} (b : BB p s m args c RL cL_law 9 Z) (hfl : l.stackTraces = false) (hX : va_X b0 L xs s s.heap) (hbl : b0 < s.heap.size) (hZ : zB Z = s.heap.size ∧ zH Z = s.heap) (hi : i + 6 ≤ L) (hL : L < 100000) (hH : HH Z I H) (hlo : ∀ q ∈ locs, zN Z q.base) (hl : lv_has ls 9 [(0, .ref b0), (1, vr Z 0 0), (2, vr Z 26 0), (3, vr Z 29 0), (4, vi (i : Int))]) {r1 : Int} {r2 : Int} {J K : Mem} (h1 : f_L_startAt ((xs (i + 1)).toInt) I = some (r1, J)) (h2 : f_M_startAt ((xs (i + 1)).toInt) J = some (r2, K)) (hmc : c0 + dC I K ≤ 601024) (hms : s0 + dS I K ≤ 7293034)
    (kk : ∀ (H : Heap) (locs : List Loc) (ls : Array Slot), HH Z K H → (∀ q ∈ locs, zN Z q.base) → lv_has ls 9 [(0, .ref b0), (1, vr Z 0 0), (2, vr Z 26 0), (3, vr Z 29 0), (4, vi (i : Int))] → W p l e room_1 s m args below meth c H locs (c0 + dC I K) (s0 + dS I K) Q (F0 m 1238 ls [])) : W p l e room_1 s m args below meth c H locs c0 s0 Q (F0 m 460 ls []) := by
  have hcK : cle J K := (R_M_startAt Z ((xs (i + 1)).toInt) J _ _ h2).1
  refine lv_aload_n b.1 b.2.1 dL_law_460 rfl (lv_at hl 1 rfl) ?_
  refine lv_aload_n b.1 b.2.1 dL_law_461 rfl (lv_at hl 0 rfl) ?_
  refine lv_iload b.1 b.2.1 dL_law_462 (lv_at hl 4 rfl) ?_
  refine lv_iconst (v := Int32.ofInt 1) b.1 b.2.1 dL_law_464 rfl ?_
  refine lx_iadd b dL_law_465 ?_
  refine lx_sld (q := i + 1) b hX hbl hZ hH hlo (w32_of (by omega) (by omega)) (by omega) dL_law_466 ?_
  refine lv_aload_n b.1 b.2.1 dL_law_467 rfl (lv_at hl 3 rfl) ?_
  have R1 := R_L_startAt Z ((xs (i + 1)).toInt) I _ _ h1
  have hc1 : cle I J := R1.1
  refine lx_callS (n := 3) (As := [vr Z 0 0, vi (xs (i + 1)).toInt, vr Z 29 0]) (rest := []) b hfl hl.1 hH R1 (li_6 62 (by decide +kernel) (by decide +kernel)) (li_6 61 (by decide +kernel) (by decide +kernel)) (li_1 0 (by decide +kernel) (by decide +kernel)) (by decide +kernel) rfl rfl ⟨Nat.le_of_ble_eq_true rfl, Nat.le_of_ble_eq_true rfl⟩ (Nat.le_of_ble_eq_true rfl) ⟨show c0 + dC I J ≤ 601024 by have q1 := dC_add hc1 hcK; have q2 := dC_self K; omega, show s0 + dS I J ≤ 7293034 by have q1 := dC_add hc1 hcK; have q2 := dC_self K; omega⟩ (li_6 60 (by decide +kernel) (by decide +kernel)) hlo dL_law_468 (fun H locs hH hlo => ?_)
  refine lv_istore (lv' := [(5, vi r1), (0, .ref b0), (1, vr Z 0 0), (2, vr Z 26 0), (3, vr Z 29 0), (4, vi (i : Int))]) b.1 b.2.1 dL_law_471 hl (by decide) rfl (fun ls hl => ?_)
  refine lv_aload_n b.1 b.2.1 dL_law_473 rfl (lv_at hl 3 rfl) ?_
  refine lv_aload_n b.1 b.2.1 dL_law_474 rfl (lv_at hl 1 rfl) ?_
  refine lv_iload b.1 b.2.1 dL_law_475 (lv_at hl 5 rfl) ?_
  refine lv_iconst (v := Int32.ofInt 1) b.1 b.2.1 dL_law_477 rfl ?_
  refine lx_iadd b dL_law_478 ?_
  refine lx_sld (q := i + 1) b hX hbl hZ hH hlo (w32_of (by omega) (by omega)) (by omega) dL_law_479 ?_
  have R2 := R_M_startAt Z ((xs (i + 1)).toInt) J _ _ h2
  have hc2 : cle J K := R2.1
  refine lx_callV (n := 1) (As := [vi (xs (i + 1)).toInt]) (rest := []) b hfl hl.1 hH R2 ⟨(li_9 63 (by decide +kernel) (by decide +kernel)), (li_9 61 (by decide +kernel) (by decide +kernel)), (li_9 62 (by decide +kernel) (by decide +kernel)), (li_1 16 (by decide +kernel) (by decide +kernel)), by decide +kernel⟩ (fun gr => ob_26) rfl rfl ⟨Nat.le_of_ble_eq_true rfl, Nat.le_of_ble_eq_true rfl⟩ (Nat.le_of_ble_eq_true rfl) ⟨show c0 + dC I J + dC J K ≤ 601024 by have q1 := dC_add hc1 hc2; have q2 := dC_self K; omega, show s0 + dS I J + dS J K ≤ 7293034 by have q1 := dC_add hc1 hc2; have q2 := dC_self K; omega⟩ (li_9 60 (by decide +kernel) (by decide +kernel)) hlo dL_law_480 (fun H locs hH hlo => ?_)
  refine lv_istore (lv' := [(6, vi r2), (5, vi r1), (0, .ref b0), (1, vr Z 0 0), (2, vr Z 26 0), (3, vr Z 29 0), (4, vi (i : Int))]) b.1 b.2.1 dL_law_483 hl (by decide) rfl (fun ls hl => ?_)
  refine lv_goto (tgt := 1238) b.1 b.2.1 dL_law_485 (by decide) ?_
  refine W.widen (k := c0 + dC I K) (n := s0 + dS I K) (show c0 + dC I J + dC J K ≤ c0 + dC I K by have q1 := dC_add hc1 hc2; have q2 := dC_self K; omega) (show s0 + dS I J + dS J K ≤ s0 + dS I K by have q1 := dC_add hc1 hc2; have q2 := dC_self K; omega) ?_
  exact kk H locs ls hH hlo (lv_sub hl [2, 3, 4, 5, 6] rfl)
set_option maxRecDepth 20000 in
set_option maxHeartbeats 4000000 in
theorem LC_9 {p : Program} {l : Launch} {e : Env} {s : State} {m : MethodId} {args : Array Value} {below : List Frame} {meth : Method} {c : Code} {H : Heap} {locs : List Loc} {c0 s0 : Nat} {Q : State → Prop} {ls : Array Slot} {Z : ZT} {I : Mem} {b0 L i : Nat} {xs : Nat → Int32} (b : BB p s m args c RL cL_law 9 Z) (hfl : l.stackTraces = false) (hX : va_X b0 L xs s s.heap) (hbl : b0 < s.heap.size) (hZ : zB Z = s.heap.size ∧ zH Z = s.heap) (hi : i + 6 ≤ L) (hL : L < 100000) (hH : HH Z I H) (hlo : ∀ q ∈ locs, zN Z q.base) (hl : lv_has ls 9 [(0, .ref b0), (1, vr Z 0 0), (2, vr Z 26 0), (3, vr Z 29 0), (4, vi (i : Int))]) {r1 : Int} {r2 : Int} {J K : Mem} (h1 : f_L_letterAt ((xs (i + 1)).toInt) I = some (r1, J)) (h2 : f_M_letterAt ((xs (i + 1)).toInt) J = some (r2, K)) (hmc : c0 + dC I K ≤ 601024) (hms : s0 + dS I K ≤ 7293034)
    (kk : ∀ (H : Heap) (locs : List Loc) (ls : Array Slot), HH Z K H → (∀ q ∈ locs, zN Z q.base) → lv_has ls 9 [(0, .ref b0), (1, vr Z 0 0), (2, vr Z 26 0), (3, vr Z 29 0), (4, vi (i : Int))] → W p l e room_1 s m args below meth c H locs (c0 + dC I K) (s0 + dS I K) Q (F0 m 1238 ls [])) : W p l e room_1 s m args below meth c H locs c0 s0 Q (F0 m 488 ls []) := by
  have hcK : cle J K := (R_M_letterAt Z ((xs (i + 1)).toInt) J _ _ h2).1
  refine lv_aload_n b.1 b.2.1 dL_law_488 rfl (lv_at hl 1 rfl) ?_
  refine lv_aload_n b.1 b.2.1 dL_law_489 rfl (lv_at hl 0 rfl) ?_
  refine lv_iload b.1 b.2.1 dL_law_490 (lv_at hl 4 rfl) ?_
  refine lv_iconst (v := Int32.ofInt 1) b.1 b.2.1 dL_law_492 rfl ?_
  refine lx_iadd b dL_law_493 ?_
  refine lx_sld (q := i + 1) b hX hbl hZ hH hlo (w32_of (by omega) (by omega)) (by omega) dL_law_494 ?_
  refine lv_aload_n b.1 b.2.1 dL_law_495 rfl (lv_at hl 3 rfl) ?_
  have R1 := R_L_letterAt Z ((xs (i + 1)).toInt) I _ _ h1
  have hc1 : cle I J := R1.1
  refine lx_callS (n := 3) (As := [vr Z 0 0, vi (xs (i + 1)).toInt, vr Z 29 0]) (rest := []) b hfl hl.1 hH R1 (li_6 69 (by decide +kernel) (by decide +kernel)) (li_6 68 (by decide +kernel) (by decide +kernel)) (li_1 0 (by decide +kernel) (by decide +kernel)) (by decide +kernel) rfl rfl ⟨Nat.le_of_ble_eq_true rfl, Nat.le_of_ble_eq_true rfl⟩ (Nat.le_of_ble_eq_true rfl) ⟨show c0 + dC I J ≤ 601024 by have q1 := dC_add hc1 hcK; have q2 := dC_self K; omega, show s0 + dS I J ≤ 7293034 by have q1 := dC_add hc1 hcK; have q2 := dC_self K; omega⟩ (li_6 67 (by decide +kernel) (by decide +kernel)) hlo dL_law_496 (fun H locs hH hlo => ?_)
  refine lv_istore (lv' := [(5, vi r1), (0, .ref b0), (1, vr Z 0 0), (2, vr Z 26 0), (3, vr Z 29 0), (4, vi (i : Int))]) b.1 b.2.1 dL_law_499 hl (by decide) rfl (fun ls hl => ?_)
  refine lv_aload_n b.1 b.2.1 dL_law_501 rfl (lv_at hl 3 rfl) ?_
  refine lv_aload_n b.1 b.2.1 dL_law_502 rfl (lv_at hl 1 rfl) ?_
  refine lv_iload b.1 b.2.1 dL_law_503 (lv_at hl 5 rfl) ?_
  refine lv_iconst (v := Int32.ofInt 1) b.1 b.2.1 dL_law_505 rfl ?_
  refine lx_iadd b dL_law_506 ?_
  refine lx_sld (q := i + 1) b hX hbl hZ hH hlo (w32_of (by omega) (by omega)) (by omega) dL_law_507 ?_
  have R2 := R_M_letterAt Z ((xs (i + 1)).toInt) J _ _ h2
  have hc2 : cle J K := R2.1
  refine lx_callV (n := 1) (As := [vi (xs (i + 1)).toInt]) (rest := []) b hfl hl.1 hH R2 ⟨(li_9 67 (by decide +kernel) (by decide +kernel)), (li_9 65 (by decide +kernel) (by decide +kernel)), (li_9 66 (by decide +kernel) (by decide +kernel)), (li_1 16 (by decide +kernel) (by decide +kernel)), by decide +kernel⟩ (fun gr => ob_26) rfl rfl ⟨Nat.le_of_ble_eq_true rfl, Nat.le_of_ble_eq_true rfl⟩ (Nat.le_of_ble_eq_true rfl) ⟨show c0 + dC I J + dC J K ≤ 601024 by have q1 := dC_add hc1 hc2; have q2 := dC_self K; omega, show s0 + dS I J + dS J K ≤ 7293034 by have q1 := dC_add hc1 hc2; have q2 := dC_self K; omega⟩ (li_9 64 (by decide +kernel) (by decide +kernel)) hlo dL_law_508 (fun H locs hH hlo => ?_)
  refine lv_istore (lv' := [(6, vi r2), (5, vi r1), (0, .ref b0), (1, vr Z 0 0), (2, vr Z 26 0), (3, vr Z 29 0), (4, vi (i : Int))]) b.1 b.2.1 dL_law_511 hl (by decide) rfl (fun ls hl => ?_)
  refine lv_goto (tgt := 1238) b.1 b.2.1 dL_law_513 (by decide) ?_
  refine W.widen (k := c0 + dC I K) (n := s0 + dS I K) (show c0 + dC I J + dC J K ≤ c0 + dC I K by have q1 := dC_add hc1 hc2; have q2 := dC_self K; omega) (show s0 + dS I J + dS J K ≤ s0 + dS I K by have q1 := dC_add hc1 hc2; have q2 := dC_self K; omega) ?_
  exact kk H locs ls hH hlo (lv_sub hl [2, 3, 4, 5, 6] rfl)
set_option maxRecDepth 20000 in
set_option maxHeartbeats 4000000 in
theorem LC_10 {p : Program} {l : Launch} {e : Env} {s : State} {m : MethodId} {args : Array Value} {below : List Frame} {meth : Method} {c : Code} {H : Heap} {locs : List Loc} {c0 s0 : Nat} {Q : State → Prop} {ls : Array Slot} {Z : ZT} {I : Mem} {b0 L i : Nat} {xs : Nat → Int32} (b : BB p s m args c RL cL_law 9 Z) (hfl : l.stackTraces = false) (hX : va_X b0 L xs s s.heap) (hbl : b0 < s.heap.size) (hZ : zB Z = s.heap.size ∧ zH Z = s.heap) (hi : i + 6 ≤ L) (hL : L < 100000) (hH : HH Z I H) (hlo : ∀ q ∈ locs, zN Z q.base) (hl : lv_has ls 9 [(0, .ref b0), (1, vr Z 0 0), (2, vr Z 26 0), (3, vr Z 29 0), (4, vi (i : Int))]) {r1 : Int} {r2 : Int} {J K : Mem} (h1 : f_L_symbolOf ((xs (i + 1)).toInt) I = some (r1, J)) (h2 : f_M_symbolOf ((xs (i + 1)).toInt) J = some (r2, K)) (hmc : c0 + dC I K ≤ 601024) (hms : s0 + dS I K ≤ 7293034)
    (kk : ∀ (H : Heap) (locs : List Loc) (ls : Array Slot), HH Z K H → (∀ q ∈ locs, zN Z q.base) → lv_has ls 9 [(0, .ref b0), (1, vr Z 0 0), (2, vr Z 26 0), (3, vr Z 29 0), (4, vi (i : Int))] → W p l e room_1 s m args below meth c H locs (c0 + dC I K) (s0 + dS I K) Q (F0 m 1238 ls [])) : W p l e room_1 s m args below meth c H locs c0 s0 Q (F0 m 516 ls []) := by
  have hcK : cle J K := (R_M_symbolOf Z ((xs (i + 1)).toInt) J _ _ h2).1
  refine lv_aload_n b.1 b.2.1 dL_law_516 rfl (lv_at hl 1 rfl) ?_
  refine lv_aload_n b.1 b.2.1 dL_law_517 rfl (lv_at hl 0 rfl) ?_
  refine lv_iload b.1 b.2.1 dL_law_518 (lv_at hl 4 rfl) ?_
  refine lv_iconst (v := Int32.ofInt 1) b.1 b.2.1 dL_law_520 rfl ?_
  refine lx_iadd b dL_law_521 ?_
  refine lx_sld (q := i + 1) b hX hbl hZ hH hlo (w32_of (by omega) (by omega)) (by omega) dL_law_522 ?_
  refine lv_aload_n b.1 b.2.1 dL_law_523 rfl (lv_at hl 3 rfl) ?_
  have R1 := R_L_symbolOf Z ((xs (i + 1)).toInt) I _ _ h1
  have hc1 : cle I J := R1.1
  refine lx_callS (n := 3) (As := [vr Z 0 0, vi (xs (i + 1)).toInt, vr Z 29 0]) (rest := []) b hfl hl.1 hH R1 (li_6 84 (by decide +kernel) (by decide +kernel)) (li_6 83 (by decide +kernel) (by decide +kernel)) (li_1 0 (by decide +kernel) (by decide +kernel)) (by decide +kernel) rfl rfl ⟨Nat.le_of_ble_eq_true rfl, Nat.le_of_ble_eq_true rfl⟩ (Nat.le_of_ble_eq_true rfl) ⟨show c0 + dC I J ≤ 601024 by have q1 := dC_add hc1 hcK; have q2 := dC_self K; omega, show s0 + dS I J ≤ 7293034 by have q1 := dC_add hc1 hcK; have q2 := dC_self K; omega⟩ (li_6 82 (by decide +kernel) (by decide +kernel)) hlo dL_law_524 (fun H locs hH hlo => ?_)
  refine lv_istore (lv' := [(5, vi r1), (0, .ref b0), (1, vr Z 0 0), (2, vr Z 26 0), (3, vr Z 29 0), (4, vi (i : Int))]) b.1 b.2.1 dL_law_527 hl (by decide) rfl (fun ls hl => ?_)
  refine lv_aload_n b.1 b.2.1 dL_law_529 rfl (lv_at hl 3 rfl) ?_
  refine lv_aload_n b.1 b.2.1 dL_law_530 rfl (lv_at hl 1 rfl) ?_
  refine lv_iload b.1 b.2.1 dL_law_531 (lv_at hl 5 rfl) ?_
  refine lv_iconst (v := Int32.ofInt 1) b.1 b.2.1 dL_law_533 rfl ?_
  refine lx_iadd b dL_law_534 ?_
  refine lx_sld (q := i + 1) b hX hbl hZ hH hlo (w32_of (by omega) (by omega)) (by omega) dL_law_535 ?_
  have R2 := R_M_symbolOf Z ((xs (i + 1)).toInt) J _ _ h2
  have hc2 : cle J K := R2.1
  refine lx_callV (n := 1) (As := [vi (xs (i + 1)).toInt]) (rest := []) b hfl hl.1 hH R2 ⟨(li_9 75 (by decide +kernel) (by decide +kernel)), (li_9 73 (by decide +kernel) (by decide +kernel)), (li_9 74 (by decide +kernel) (by decide +kernel)), (li_1 16 (by decide +kernel) (by decide +kernel)), by decide +kernel⟩ (fun gr => ob_26) rfl rfl ⟨Nat.le_of_ble_eq_true rfl, Nat.le_of_ble_eq_true rfl⟩ (Nat.le_of_ble_eq_true rfl) ⟨show c0 + dC I J + dC J K ≤ 601024 by have q1 := dC_add hc1 hc2; have q2 := dC_self K; omega, show s0 + dS I J + dS J K ≤ 7293034 by have q1 := dC_add hc1 hc2; have q2 := dC_self K; omega⟩ (li_9 72 (by decide +kernel) (by decide +kernel)) hlo dL_law_536 (fun H locs hH hlo => ?_)
  refine lv_istore (lv' := [(6, vi r2), (5, vi r1), (0, .ref b0), (1, vr Z 0 0), (2, vr Z 26 0), (3, vr Z 29 0), (4, vi (i : Int))]) b.1 b.2.1 dL_law_539 hl (by decide) rfl (fun ls hl => ?_)
  refine lv_goto (tgt := 1238) b.1 b.2.1 dL_law_541 (by decide) ?_
  refine W.widen (k := c0 + dC I K) (n := s0 + dS I K) (show c0 + dC I J + dC J K ≤ c0 + dC I K by have q1 := dC_add hc1 hc2; have q2 := dC_self K; omega) (show s0 + dS I J + dS J K ≤ s0 + dS I K by have q1 := dC_add hc1 hc2; have q2 := dC_self K; omega) ?_
  exact kk H locs ls hH hlo (lv_sub hl [2, 3, 4, 5, 6] rfl)
set_option maxRecDepth 20000 in
set_option maxHeartbeats 4000000 in
theorem LC_11 {p : Program} {l : Launch} {e : Env} {s : State} {m : MethodId} {args : Array Value} {below : List Frame} {meth : Method} {c : Code} {H : Heap} {locs : List Loc} {c0 s0 : Nat} {Q : State → Prop} {ls : Array Slot} {Z : ZT} {I : Mem} {b0 L i : Nat} {xs : Nat → Int32} (b : BB p s m args c RL cL_law 9 Z) (hfl : l.stackTraces = false) (hX : va_X b0 L xs s s.heap) (hbl : b0 < s.heap.size) (hZ : zB Z = s.heap.size ∧ zH Z = s.heap) (hi : i + 6 ≤ L) (hL : L < 100000) (hH : HH Z I H) (hlo : ∀ q ∈ locs, zN Z q.base) (hl : lv_has ls 9 [(0, .ref b0), (1, vr Z 0 0), (2, vr Z 26 0), (3, vr Z 29 0), (4, vi (i : Int))]) {r1 : Int} {r2 : Int} {J K : Mem} (h1 : f_L_letters ((xs (i + 1)).toInt) I = some (r1, J)) (h2 : f_M_letters ((xs (i + 1)).toInt) J = some (r2, K)) (hmc : c0 + dC I K ≤ 601024) (hms : s0 + dS I K ≤ 7293034)
    (kk : ∀ (H : Heap) (locs : List Loc) (ls : Array Slot), HH Z K H → (∀ q ∈ locs, zN Z q.base) → lv_has ls 9 [(0, .ref b0), (1, vr Z 0 0), (2, vr Z 26 0), (3, vr Z 29 0), (4, vi (i : Int))] → W p l e room_1 s m args below meth c H locs (c0 + dC I K) (s0 + dS I K) Q (F0 m 1238 ls [])) : W p l e room_1 s m args below meth c H locs c0 s0 Q (F0 m 544 ls []) := by
  have hcK : cle J K := (R_M_letters Z ((xs (i + 1)).toInt) J _ _ h2).1
  refine lv_aload_n b.1 b.2.1 dL_law_544 rfl (lv_at hl 1 rfl) ?_
  refine lv_aload_n b.1 b.2.1 dL_law_545 rfl (lv_at hl 0 rfl) ?_
  refine lv_iload b.1 b.2.1 dL_law_546 (lv_at hl 4 rfl) ?_
  refine lv_iconst (v := Int32.ofInt 1) b.1 b.2.1 dL_law_548 rfl ?_
  refine lx_iadd b dL_law_549 ?_
  refine lx_sld (q := i + 1) b hX hbl hZ hH hlo (w32_of (by omega) (by omega)) (by omega) dL_law_550 ?_
  refine lv_aload_n b.1 b.2.1 dL_law_551 rfl (lv_at hl 3 rfl) ?_
  have R1 := R_L_letters Z ((xs (i + 1)).toInt) I _ _ h1
  have hc1 : cle I J := R1.1
  refine lx_callS (n := 3) (As := [vr Z 0 0, vi (xs (i + 1)).toInt, vr Z 29 0]) (rest := []) b hfl hl.1 hH R1 (li_6 92 (by decide +kernel) (by decide +kernel)) (li_6 91 (by decide +kernel) (by decide +kernel)) (li_1 0 (by decide +kernel) (by decide +kernel)) (by decide +kernel) rfl rfl ⟨Nat.le_of_ble_eq_true rfl, Nat.le_of_ble_eq_true rfl⟩ (Nat.le_of_ble_eq_true rfl) ⟨show c0 + dC I J ≤ 601024 by have q1 := dC_add hc1 hcK; have q2 := dC_self K; omega, show s0 + dS I J ≤ 7293034 by have q1 := dC_add hc1 hcK; have q2 := dC_self K; omega⟩ (li_6 90 (by decide +kernel) (by decide +kernel)) hlo dL_law_552 (fun H locs hH hlo => ?_)
  refine lv_istore (lv' := [(5, vi r1), (0, .ref b0), (1, vr Z 0 0), (2, vr Z 26 0), (3, vr Z 29 0), (4, vi (i : Int))]) b.1 b.2.1 dL_law_555 hl (by decide) rfl (fun ls hl => ?_)
  refine lv_aload_n b.1 b.2.1 dL_law_557 rfl (lv_at hl 3 rfl) ?_
  refine lv_aload_n b.1 b.2.1 dL_law_558 rfl (lv_at hl 1 rfl) ?_
  refine lv_iload b.1 b.2.1 dL_law_559 (lv_at hl 5 rfl) ?_
  refine lv_iconst (v := Int32.ofInt 1) b.1 b.2.1 dL_law_561 rfl ?_
  refine lx_iadd b dL_law_562 ?_
  refine lx_sld (q := i + 1) b hX hbl hZ hH hlo (w32_of (by omega) (by omega)) (by omega) dL_law_563 ?_
  have R2 := R_M_letters Z ((xs (i + 1)).toInt) J _ _ h2
  have hc2 : cle J K := R2.1
  refine lx_callV (n := 1) (As := [vi (xs (i + 1)).toInt]) (rest := []) b hfl hl.1 hH R2 ⟨(li_9 79 (by decide +kernel) (by decide +kernel)), (li_9 77 (by decide +kernel) (by decide +kernel)), (li_9 78 (by decide +kernel) (by decide +kernel)), (li_1 16 (by decide +kernel) (by decide +kernel)), by decide +kernel⟩ (fun gr => ob_26) rfl rfl ⟨Nat.le_of_ble_eq_true rfl, Nat.le_of_ble_eq_true rfl⟩ (Nat.le_of_ble_eq_true rfl) ⟨show c0 + dC I J + dC J K ≤ 601024 by have q1 := dC_add hc1 hc2; have q2 := dC_self K; omega, show s0 + dS I J + dS J K ≤ 7293034 by have q1 := dC_add hc1 hc2; have q2 := dC_self K; omega⟩ (li_9 76 (by decide +kernel) (by decide +kernel)) hlo dL_law_564 (fun H locs hH hlo => ?_)
  refine lv_istore (lv' := [(6, vi r2), (5, vi r1), (0, .ref b0), (1, vr Z 0 0), (2, vr Z 26 0), (3, vr Z 29 0), (4, vi (i : Int))]) b.1 b.2.1 dL_law_567 hl (by decide) rfl (fun ls hl => ?_)
  refine lv_goto (tgt := 1238) b.1 b.2.1 dL_law_569 (by decide) ?_
  refine W.widen (k := c0 + dC I K) (n := s0 + dS I K) (show c0 + dC I J + dC J K ≤ c0 + dC I K by have q1 := dC_add hc1 hc2; have q2 := dC_self K; omega) (show s0 + dS I J + dS J K ≤ s0 + dS I K by have q1 := dC_add hc1 hc2; have q2 := dC_self K; omega) ?_
  exact kk H locs ls hH hlo (lv_sub hl [2, 3, 4, 5, 6] rfl)
set_option maxRecDepth 20000 in
set_option maxHeartbeats 4000000 in
theorem LC_12 {p : Program} {l : Launch} {e : Env} {s : State} {m : MethodId} {args : Array Value} {below : List Frame} {meth : Method} {c : Code} {H : Heap} {locs : List Loc} {c0 s0 : Nat} {Q : State → Prop} {ls : Array Slot} {Z : ZT} {I : Mem} {b0 L i : Nat} {xs : Nat → Int32} (b : BB p s m args c RL cL_law 9 Z) (hfl : l.stackTraces = false) (hX : va_X b0 L xs s s.heap) (hbl : b0 < s.heap.size) (hZ : zB Z = s.heap.size ∧ zH Z = s.heap) (hi : i + 6 ≤ L) (hL : L < 100000) (hH : HH Z I H) (hlo : ∀ q ∈ locs, zN Z q.base) (hl : lv_has ls 9 [(0, .ref b0), (1, vr Z 0 0), (2, vr Z 26 0), (3, vr Z 29 0), (4, vi (i : Int))]) {r1 : Int} {r2 : Int} {J K : Mem} (h1 : f_L_account ((xs (i + 1)).toInt) I = some (r1, J)) (h2 : f_M_account ((xs (i + 1)).toInt) J = some (r2, K)) (hmc : c0 + dC I K ≤ 601024) (hms : s0 + dS I K ≤ 7293034)
    (kk : ∀ (H : Heap) (locs : List Loc) (ls : Array Slot), HH Z K H → (∀ q ∈ locs, zN Z q.base) → lv_has ls 9 [(0, .ref b0), (1, vr Z 0 0), (2, vr Z 26 0), (3, vr Z 29 0), (4, vi (i : Int))] → W p l e room_1 s m args below meth c H locs (c0 + dC I K) (s0 + dS I K) Q (F0 m 1238 ls [])) : W p l e room_1 s m args below meth c H locs c0 s0 Q (F0 m 572 ls []) := by
  have hcK : cle J K := (R_M_account Z ((xs (i + 1)).toInt) J _ _ h2).1
  refine lv_aload_n b.1 b.2.1 dL_law_572 rfl (lv_at hl 1 rfl) ?_
  refine lv_aload_n b.1 b.2.1 dL_law_573 rfl (lv_at hl 0 rfl) ?_
  refine lv_iload b.1 b.2.1 dL_law_574 (lv_at hl 4 rfl) ?_
  refine lv_iconst (v := Int32.ofInt 1) b.1 b.2.1 dL_law_576 rfl ?_
  refine lx_iadd b dL_law_577 ?_
  refine lx_sld (q := i + 1) b hX hbl hZ hH hlo (w32_of (by omega) (by omega)) (by omega) dL_law_578 ?_
  refine lv_aload_n b.1 b.2.1 dL_law_579 rfl (lv_at hl 3 rfl) ?_
  have R1 := R_L_account Z ((xs (i + 1)).toInt) I _ _ h1
  have hc1 : cle I J := R1.1
  refine lx_callS (n := 3) (As := [vr Z 0 0, vi (xs (i + 1)).toInt, vr Z 29 0]) (rest := []) b hfl hl.1 hH R1 (li_6 101 (by decide +kernel) (by decide +kernel)) (li_6 100 (by decide +kernel) (by decide +kernel)) (li_1 0 (by decide +kernel) (by decide +kernel)) (by decide +kernel) rfl rfl ⟨Nat.le_of_ble_eq_true rfl, Nat.le_of_ble_eq_true rfl⟩ (Nat.le_of_ble_eq_true rfl) ⟨show c0 + dC I J ≤ 601024 by have q1 := dC_add hc1 hcK; have q2 := dC_self K; omega, show s0 + dS I J ≤ 7293034 by have q1 := dC_add hc1 hcK; have q2 := dC_self K; omega⟩ (li_6 99 (by decide +kernel) (by decide +kernel)) hlo dL_law_580 (fun H locs hH hlo => ?_)
  refine lv_istore (lv' := [(5, vi r1), (0, .ref b0), (1, vr Z 0 0), (2, vr Z 26 0), (3, vr Z 29 0), (4, vi (i : Int))]) b.1 b.2.1 dL_law_583 hl (by decide) rfl (fun ls hl => ?_)
  refine lv_aload_n b.1 b.2.1 dL_law_585 rfl (lv_at hl 3 rfl) ?_
  refine lv_aload_n b.1 b.2.1 dL_law_586 rfl (lv_at hl 1 rfl) ?_
  refine lv_iload b.1 b.2.1 dL_law_587 (lv_at hl 5 rfl) ?_
  refine lv_iconst (v := Int32.ofInt 1) b.1 b.2.1 dL_law_589 rfl ?_
  refine lx_iadd b dL_law_590 ?_
  refine lx_sld (q := i + 1) b hX hbl hZ hH hlo (w32_of (by omega) (by omega)) (by omega) dL_law_591 ?_
  have R2 := R_M_account Z ((xs (i + 1)).toInt) J _ _ h2
  have hc2 : cle J K := R2.1
  refine lx_callV (n := 1) (As := [vi (xs (i + 1)).toInt]) (rest := []) b hfl hl.1 hH R2 ⟨(li_9 87 (by decide +kernel) (by decide +kernel)), (li_9 85 (by decide +kernel) (by decide +kernel)), (li_9 86 (by decide +kernel) (by decide +kernel)), (li_1 16 (by decide +kernel) (by decide +kernel)), by decide +kernel⟩ (fun gr => ob_26) rfl rfl ⟨Nat.le_of_ble_eq_true rfl, Nat.le_of_ble_eq_true rfl⟩ (Nat.le_of_ble_eq_true rfl) ⟨show c0 + dC I J + dC J K ≤ 601024 by have q1 := dC_add hc1 hc2; have q2 := dC_self K; omega, show s0 + dS I J + dS J K ≤ 7293034 by have q1 := dC_add hc1 hc2; have q2 := dC_self K; omega⟩ (li_9 84 (by decide +kernel) (by decide +kernel)) hlo dL_law_592 (fun H locs hH hlo => ?_)
  refine lv_istore (lv' := [(6, vi r2), (5, vi r1), (0, .ref b0), (1, vr Z 0 0), (2, vr Z 26 0), (3, vr Z 29 0), (4, vi (i : Int))]) b.1 b.2.1 dL_law_595 hl (by decide) rfl (fun ls hl => ?_)
  refine lv_goto (tgt := 1238) b.1 b.2.1 dL_law_597 (by decide) ?_
  refine W.widen (k := c0 + dC I K) (n := s0 + dS I K) (show c0 + dC I J + dC J K ≤ c0 + dC I K by have q1 := dC_add hc1 hc2; have q2 := dC_self K; omega) (show s0 + dS I J + dS J K ≤ s0 + dS I K by have q1 := dC_add hc1 hc2; have q2 := dC_self K; omega) ?_
  exact kk H locs ls hH hlo (lv_sub hl [2, 3, 4, 5, 6] rfl)
set_option maxRecDepth 20000 in
set_option maxHeartbeats 4000000 in
theorem LC_13 {p : Program} {l : Launch} {e : Env} {s : State} {m : MethodId} {args : Array Value} {below : List Frame} {meth : Method} {c : Code} {H : Heap} {locs : List Loc} {c0 s0 : Nat} {Q : State → Prop} {ls : Array Slot} {Z : ZT} {I : Mem} {b0 L i : Nat} {xs : Nat → Int32} (b : BB p s m args c RL cL_law 9 Z) (hfl : l.stackTraces = false) (hX : va_X b0 L xs s s.heap) (hbl : b0 < s.heap.size) (hZ : zB Z = s.heap.size ∧ zH Z = s.heap) (hi : i + 6 ≤ L) (hL : L < 100000) (hH : HH Z I H) (hlo : ∀ q ∈ locs, zN Z q.base) (hl : lv_has ls 9 [(0, .ref b0), (1, vr Z 0 0), (2, vr Z 26 0), (3, vr Z 29 0), (4, vi (i : Int))]) {r1 : Int} {r2 : Int} {J K : Mem} (h1 : f_PR_gap  I = some (r1, J)) (h2 : f_M_gap  J = some (r2, K)) (hmc : c0 + dC I K ≤ 601024) (hms : s0 + dS I K ≤ 7293034)
    (kk : ∀ (H : Heap) (locs : List Loc) (ls : Array Slot), HH Z K H → (∀ q ∈ locs, zN Z q.base) → lv_has ls 9 [(0, .ref b0), (1, vr Z 0 0), (2, vr Z 26 0), (3, vr Z 29 0), (4, vi (i : Int))] → W p l e room_1 s m args below meth c H locs (c0 + dC I K) (s0 + dS I K) Q (F0 m 1238 ls [])) : W p l e room_1 s m args below meth c H locs c0 s0 Q (F0 m 600 ls []) := by
  have hcK : cle J K := (R_M_gap Z  J _ _ h2).1
  refine lv_aload_n b.1 b.2.1 dL_law_600 rfl (lv_at hl 1 rfl) ?_
  have R1 := R_PR_gap Z  I _ _ h1
  have hc1 : cle I J := R1.1
  refine lx_callV (n := 0) (As := []) (rest := []) b hfl hl.1 hH R1 ⟨(li_5 9 (by decide +kernel) (by decide +kernel)), (li_5 7 (by decide +kernel) (by decide +kernel)), (li_5 8 (by decide +kernel) (by decide +kernel)), (li_1 1 (by decide +kernel) (by decide +kernel)), by decide +kernel⟩ (fun gr => ob_0) rfl rfl ⟨Nat.le_of_ble_eq_true rfl, Nat.le_of_ble_eq_true rfl⟩ (Nat.le_of_ble_eq_true rfl) ⟨show c0 + dC I J ≤ 601024 by have q1 := dC_add hc1 hcK; have q2 := dC_self K; omega, show s0 + dS I J ≤ 7293034 by have q1 := dC_add hc1 hcK; have q2 := dC_self K; omega⟩ (li_5 6 (by decide +kernel) (by decide +kernel)) hlo dL_law_601 (fun H locs hH hlo => ?_)
  refine lv_pop b.1 b.2.1 dL_law_604 rfl ?_
  refine lv_aload_n b.1 b.2.1 dL_law_605 rfl (lv_at hl 2 rfl) ?_
  have R2 := R_M_gap Z  J _ _ h2
  have hc2 : cle J K := R2.1
  refine lx_callV (n := 0) (As := []) (rest := []) b hfl hl.1 hH R2 ⟨(li_9 91 (by decide +kernel) (by decide +kernel)), (li_9 89 (by decide +kernel) (by decide +kernel)), (li_9 90 (by decide +kernel) (by decide +kernel)), (li_1 16 (by decide +kernel) (by decide +kernel)), by decide +kernel⟩ (fun gr => ob_26) rfl rfl ⟨Nat.le_of_ble_eq_true rfl, Nat.le_of_ble_eq_true rfl⟩ (Nat.le_of_ble_eq_true rfl) ⟨show c0 + dC I J + dC J K ≤ 601024 by have q1 := dC_add hc1 hc2; have q2 := dC_self K; omega, show s0 + dS I J + dS J K ≤ 7293034 by have q1 := dC_add hc1 hc2; have q2 := dC_self K; omega⟩ (li_9 88 (by decide +kernel) (by decide +kernel)) hlo dL_law_606 (fun H locs hH hlo => ?_)
  refine lv_pop b.1 b.2.1 dL_law_609 rfl ?_
  refine lv_goto (tgt := 1238) b.1 b.2.1 dL_law_610 (by decide) ?_
  refine W.widen (k := c0 + dC I K) (n := s0 + dS I K) (show c0 + dC I J + dC J K ≤ c0 + dC I K by have q1 := dC_add hc1 hc2; have q2 := dC_self K; omega) (show s0 + dS I J + dS J K ≤ s0 + dS I K by have q1 := dC_add hc1 hc2; have q2 := dC_self K; omega) ?_
  exact kk H locs ls hH hlo (lv_sub hl [0, 1, 2, 3, 4] rfl)
set_option maxRecDepth 20000 in
set_option maxHeartbeats 4000000 in
theorem LC_14 {p : Program} {l : Launch} {e : Env} {s : State} {m : MethodId} {args : Array Value} {below : List Frame} {meth : Method} {c : Code} {H : Heap} {locs : List Loc} {c0 s0 : Nat} {Q : State → Prop} {ls : Array Slot} {Z : ZT} {I : Mem} {b0 L i : Nat} {xs : Nat → Int32} (b : BB p s m args c RL cL_law 9 Z) (hfl : l.stackTraces = false) (hX : va_X b0 L xs s s.heap) (hbl : b0 < s.heap.size) (hZ : zB Z = s.heap.size ∧ zH Z = s.heap) (hi : i + 6 ≤ L) (hL : L < 100000) (hH : HH Z I H) (hlo : ∀ q ∈ locs, zN Z q.base) (hl : lv_has ls 9 [(0, .ref b0), (1, vr Z 0 0), (2, vr Z 26 0), (3, vr Z 29 0), (4, vi (i : Int))]) {r1 : Int} {r2 : Int} {J K : Mem} (h1 : f_PR_rulesGap  I = some (r1, J)) (h2 : f_M_rulesGap  J = some (r2, K)) (hmc : c0 + dC I K ≤ 601024) (hms : s0 + dS I K ≤ 7293034)
    (kk : ∀ (H : Heap) (locs : List Loc) (ls : Array Slot), HH Z K H → (∀ q ∈ locs, zN Z q.base) → lv_has ls 9 [(0, .ref b0), (1, vr Z 0 0), (2, vr Z 26 0), (3, vr Z 29 0), (4, vi (i : Int))] → W p l e room_1 s m args below meth c H locs (c0 + dC I K) (s0 + dS I K) Q (F0 m 1238 ls [])) : W p l e room_1 s m args below meth c H locs c0 s0 Q (F0 m 613 ls []) := by
  have hcK : cle J K := (R_M_rulesGap Z  J _ _ h2).1
  refine lv_aload_n b.1 b.2.1 dL_law_613 rfl (lv_at hl 1 rfl) ?_
  have R1 := R_PR_rulesGap Z  I _ _ h1
  have hc1 : cle I J := R1.1
  refine lx_callV (n := 0) (As := []) (rest := []) b hfl hl.1 hH R1 ⟨(li_5 26 (by decide +kernel) (by decide +kernel)), (li_5 24 (by decide +kernel) (by decide +kernel)), (li_5 25 (by decide +kernel) (by decide +kernel)), (li_1 1 (by decide +kernel) (by decide +kernel)), by decide +kernel⟩ (fun gr => ob_0) rfl rfl ⟨Nat.le_of_ble_eq_true rfl, Nat.le_of_ble_eq_true rfl⟩ (Nat.le_of_ble_eq_true rfl) ⟨show c0 + dC I J ≤ 601024 by have q1 := dC_add hc1 hcK; have q2 := dC_self K; omega, show s0 + dS I J ≤ 7293034 by have q1 := dC_add hc1 hcK; have q2 := dC_self K; omega⟩ (li_5 23 (by decide +kernel) (by decide +kernel)) hlo dL_law_614 (fun H locs hH hlo => ?_)
  refine lv_pop b.1 b.2.1 dL_law_617 rfl ?_
  refine lv_aload_n b.1 b.2.1 dL_law_618 rfl (lv_at hl 2 rfl) ?_
  have R2 := R_M_rulesGap Z  J _ _ h2
  have hc2 : cle J K := R2.1
  refine lx_callV (n := 0) (As := []) (rest := []) b hfl hl.1 hH R2 ⟨(li_9 98 (by decide +kernel) (by decide +kernel)), (li_9 96 (by decide +kernel) (by decide +kernel)), (li_9 97 (by decide +kernel) (by decide +kernel)), (li_1 16 (by decide +kernel) (by decide +kernel)), by decide +kernel⟩ (fun gr => ob_26) rfl rfl ⟨Nat.le_of_ble_eq_true rfl, Nat.le_of_ble_eq_true rfl⟩ (Nat.le_of_ble_eq_true rfl) ⟨show c0 + dC I J + dC J K ≤ 601024 by have q1 := dC_add hc1 hc2; have q2 := dC_self K; omega, show s0 + dS I J + dS J K ≤ 7293034 by have q1 := dC_add hc1 hc2; have q2 := dC_self K; omega⟩ (li_9 95 (by decide +kernel) (by decide +kernel)) hlo dL_law_619 (fun H locs hH hlo => ?_)
  refine lv_pop b.1 b.2.1 dL_law_622 rfl ?_
  refine lv_goto (tgt := 1238) b.1 b.2.1 dL_law_623 (by decide) ?_
  refine W.widen (k := c0 + dC I K) (n := s0 + dS I K) (show c0 + dC I J + dC J K ≤ c0 + dC I K by have q1 := dC_add hc1 hc2; have q2 := dC_self K; omega) (show s0 + dS I J + dS J K ≤ s0 + dS I K by have q1 := dC_add hc1 hc2; have q2 := dC_self K; omega) ?_
  exact kk H locs ls hH hlo (lv_sub hl [0, 1, 2, 3, 4] rfl)
set_option maxRecDepth 20000 in
set_option maxHeartbeats 4000000 in
theorem LC_15 {p : Program} {l : Launch} {e : Env} {s : State} {m : MethodId} {args : Array Value} {below : List Frame} {meth : Method} {c : Code} {H : Heap} {locs : List Loc} {c0 s0 : Nat} {Q : State → Prop} {ls : Array Slot} {Z : ZT} {I : Mem} {b0 L i : Nat} {xs : Nat → Int32} (b : BB p s m args c RL cL_law 9 Z) (hfl : l.stackTraces = false) (hX : va_X b0 L xs s s.heap) (hbl : b0 < s.heap.size) (hZ : zB Z = s.heap.size ∧ zH Z = s.heap) (hi : i + 6 ≤ L) (hL : L < 100000) (hH : HH Z I H) (hlo : ∀ q ∈ locs, zN Z q.base) (hl : lv_has ls 9 [(0, .ref b0), (1, vr Z 0 0), (2, vr Z 26 0), (3, vr Z 29 0), (4, vi (i : Int))]) {r1 : UInt64} {r2 : UInt64} {J K : Mem} (h1 : f_PR_ratio  I = some (r1, J)) (h2 : f_M_ratio  J = some (r2, K)) (hmc : c0 + dC I K ≤ 601024) (hms : s0 + dS I K ≤ 7293034)
    (kk : ∀ (H : Heap) (locs : List Loc) (ls : Array Slot), HH Z K H → (∀ q ∈ locs, zN Z q.base) → lv_has ls 9 [(0, .ref b0), (1, vr Z 0 0), (2, vr Z 26 0), (3, vr Z 29 0), (4, vi (i : Int))] → W p l e room_1 s m args below meth c H locs (c0 + dC I K) (s0 + dS I K) Q (F0 m 1238 ls [])) : W p l e room_1 s m args below meth c H locs c0 s0 Q (F0 m 626 ls []) := by
  have hcK : cle J K := (R_M_ratio Z  J _ _ h2).1
  refine lv_aload_n b.1 b.2.1 dL_law_626 rfl (lv_at hl 1 rfl) ?_
  have R1 := R_PR_ratio Z  I _ _ h1
  have hc1 : cle I J := R1.1
  refine lx_callV (n := 0) (As := []) (rest := []) b hfl hl.1 hH R1 ⟨(li_5 39 (by decide +kernel) (by decide +kernel)), (li_5 37 (by decide +kernel) (by decide +kernel)), (li_5 38 (by decide +kernel) (by decide +kernel)), (li_1 1 (by decide +kernel) (by decide +kernel)), by decide +kernel⟩ (fun gr => ob_0) rfl rfl ⟨Nat.le_of_ble_eq_true rfl, Nat.le_of_ble_eq_true rfl⟩ (Nat.le_of_ble_eq_true rfl) ⟨show c0 + dC I J ≤ 601024 by have q1 := dC_add hc1 hcK; have q2 := dC_self K; omega, show s0 + dS I J ≤ 7293034 by have q1 := dC_add hc1 hcK; have q2 := dC_self K; omega⟩ (li_5 36 (by decide +kernel) (by decide +kernel)) hlo dL_law_627 (fun H locs hH hlo => ?_)
  refine lv_dstore (lv' := [(5, .double r1), (0, .ref b0), (1, vr Z 0 0), (2, vr Z 26 0), (3, vr Z 29 0), (4, vi (i : Int))]) b.1 b.2.1 dL_law_630 hl (by decide) rfl (fun ls hl => ?_)
  refine lv_aload_n b.1 b.2.1 dL_law_632 rfl (lv_at hl 3 rfl) ?_
  have R2 := R_M_ratio Z  J _ _ h2
  have hc2 : cle J K := R2.1
  refine lx_callV (n := 0) (As := []) (rest := []) b hfl hl.1 hH R2 ⟨(li_9 102 (by decide +kernel) (by decide +kernel)), (li_9 100 (by decide +kernel) (by decide +kernel)), (li_9 101 (by decide +kernel) (by decide +kernel)), (li_1 16 (by decide +kernel) (by decide +kernel)), by decide +kernel⟩ (fun gr => ob_26) rfl rfl ⟨Nat.le_of_ble_eq_true rfl, Nat.le_of_ble_eq_true rfl⟩ (Nat.le_of_ble_eq_true rfl) ⟨show c0 + dC I J + dC J K ≤ 601024 by have q1 := dC_add hc1 hc2; have q2 := dC_self K; omega, show s0 + dS I J + dS J K ≤ 7293034 by have q1 := dC_add hc1 hc2; have q2 := dC_self K; omega⟩ (li_9 99 (by decide +kernel) (by decide +kernel)) hlo dL_law_633 (fun H locs hH hlo => ?_)
  refine lv_dstore (lv' := [(7, .double r2), (5, .double r1), (0, .ref b0), (1, vr Z 0 0), (2, vr Z 26 0), (3, vr Z 29 0), (4, vi (i : Int))]) b.1 b.2.1 dL_law_636 hl (by decide) rfl (fun ls hl => ?_)
  refine lv_goto (tgt := 1238) b.1 b.2.1 dL_law_638 (by decide) ?_
  refine W.widen (k := c0 + dC I K) (n := s0 + dS I K) (show c0 + dC I J + dC J K ≤ c0 + dC I K by have q1 := dC_add hc1 hc2; have q2 := dC_self K; omega) (show s0 + dS I J + dS J K ≤ s0 + dS I K by have q1 := dC_add hc1 hc2; have q2 := dC_self K; omega) ?_
  exact kk H locs ls hH hlo (lv_sub hl [2, 3, 4, 5, 6] rfl)
set_option maxRecDepth 20000 in
set_option maxHeartbeats 4000000 in
theorem LC_16 {p : Program} {l : Launch} {e : Env} {s : State} {m : MethodId} {args : Array Value} {below : List Frame} {meth : Method} {c : Code} {H : Heap} {locs : List Loc} {c0 s0 : Nat} {Q : State → Prop} {ls : Array Slot} {Z : ZT} {I : Mem} {b0 L i : Nat} {xs : Nat → Int32} (b : BB p s m args c RL cL_law 9 Z) (hfl : l.stackTraces = false) (hX : va_X b0 L xs s s.heap) (hbl : b0 < s.heap.size) (hZ : zB Z = s.heap.size ∧ zH Z = s.heap) (hi : i + 6 ≤ L) (hL : L < 100000) (hH : HH Z I H) (hlo : ∀ q ∈ locs, zN Z q.base) (hl : lv_has ls 9 [(0, .ref b0), (1, vr Z 0 0), (2, vr Z 26 0), (3, vr Z 29 0), (4, vi (i : Int))]) {r1 : Int} {r2 : Int} {J K : Mem} (h1 : f_PR_meanBits  I = some (r1, J)) (h2 : f_M_meanBits  J = some (r2, K)) (hmc : c0 + dC I K ≤ 601024) (hms : s0 + dS I K ≤ 7293034)
    (kk : ∀ (H : Heap) (locs : List Loc) (ls : Array Slot), HH Z K H → (∀ q ∈ locs, zN Z q.base) → lv_has ls 9 [(0, .ref b0), (1, vr Z 0 0), (2, vr Z 26 0), (3, vr Z 29 0), (4, vi (i : Int))] → W p l e room_1 s m args below meth c H locs (c0 + dC I K) (s0 + dS I K) Q (F0 m 1238 ls [])) : W p l e room_1 s m args below meth c H locs c0 s0 Q (F0 m 641 ls []) := by
  have hcK : cle J K := (R_M_meanBits Z  J _ _ h2).1
  refine lv_aload_n b.1 b.2.1 dL_law_641 rfl (lv_at hl 1 rfl) ?_
  have R1 := R_PR_meanBits Z  I _ _ h1
  have hc1 : cle I J := R1.1
  refine lx_callV (n := 0) (As := []) (rest := []) b hfl hl.1 hH R1 ⟨(li_5 47 (by decide +kernel) (by decide +kernel)), (li_5 45 (by decide +kernel) (by decide +kernel)), (li_5 46 (by decide +kernel) (by decide +kernel)), (li_1 1 (by decide +kernel) (by decide +kernel)), by decide +kernel⟩ (fun gr => ob_0) rfl rfl ⟨Nat.le_of_ble_eq_true rfl, Nat.le_of_ble_eq_true rfl⟩ (Nat.le_of_ble_eq_true rfl) ⟨show c0 + dC I J ≤ 601024 by have q1 := dC_add hc1 hcK; have q2 := dC_self K; omega, show s0 + dS I J ≤ 7293034 by have q1 := dC_add hc1 hcK; have q2 := dC_self K; omega⟩ (li_5 44 (by decide +kernel) (by decide +kernel)) hlo dL_law_642 (fun H locs hH hlo => ?_)
  refine lv_pop b.1 b.2.1 dL_law_645 rfl ?_
  refine lv_aload_n b.1 b.2.1 dL_law_646 rfl (lv_at hl 2 rfl) ?_
  have R2 := R_M_meanBits Z  J _ _ h2
  have hc2 : cle J K := R2.1
  refine lx_callV (n := 0) (As := []) (rest := []) b hfl hl.1 hH R2 ⟨(li_9 106 (by decide +kernel) (by decide +kernel)), (li_9 104 (by decide +kernel) (by decide +kernel)), (li_9 105 (by decide +kernel) (by decide +kernel)), (li_1 16 (by decide +kernel) (by decide +kernel)), by decide +kernel⟩ (fun gr => ob_26) rfl rfl ⟨Nat.le_of_ble_eq_true rfl, Nat.le_of_ble_eq_true rfl⟩ (Nat.le_of_ble_eq_true rfl) ⟨show c0 + dC I J + dC J K ≤ 601024 by have q1 := dC_add hc1 hc2; have q2 := dC_self K; omega, show s0 + dS I J + dS J K ≤ 7293034 by have q1 := dC_add hc1 hc2; have q2 := dC_self K; omega⟩ (li_9 103 (by decide +kernel) (by decide +kernel)) hlo dL_law_647 (fun H locs hH hlo => ?_)
  refine lv_pop b.1 b.2.1 dL_law_650 rfl ?_
  refine lv_goto (tgt := 1238) b.1 b.2.1 dL_law_651 (by decide) ?_
  refine W.widen (k := c0 + dC I K) (n := s0 + dS I K) (show c0 + dC I J + dC J K ≤ c0 + dC I K by have q1 := dC_add hc1 hc2; have q2 := dC_self K; omega) (show s0 + dS I J + dS J K ≤ s0 + dS I K by have q1 := dC_add hc1 hc2; have q2 := dC_self K; omega) ?_
  exact kk H locs ls hH hlo (lv_sub hl [0, 1, 2, 3, 4] rfl)
set_option maxRecDepth 20000 in
set_option maxHeartbeats 4000000 in
theorem LC_17 {p : Program} {l : Launch} {e : Env} {s : State} {m : MethodId} {args : Array Value} {below : List Frame} {meth : Method} {c : Code} {H : Heap} {locs : List Loc} {c0 s0 : Nat} {Q : State → Prop} {ls : Array Slot} {Z : ZT} {I : Mem} {b0 L i : Nat} {xs : Nat → Int32} (b : BB p s m args c RL cL_law 9 Z) (hfl : l.stackTraces = false) (hX : va_X b0 L xs s s.heap) (hbl : b0 < s.heap.size) (hZ : zB Z = s.heap.size ∧ zH Z = s.heap) (hi : i + 6 ≤ L) (hL : L < 100000) (hH : HH Z I H) (hlo : ∀ q ∈ locs, zN Z q.base) (hl : lv_has ls 9 [(0, .ref b0), (1, vr Z 0 0), (2, vr Z 26 0), (3, vr Z 29 0), (4, vi (i : Int))]) {r1 : Int} {r2 : Int} {J K : Mem} (h1 : f_PR_digest  I = some (r1, J)) (h2 : f_M_digest  J = some (r2, K)) (hmc : c0 + dC I K ≤ 601024) (hms : s0 + dS I K ≤ 7293034)
    (kk : ∀ (H : Heap) (locs : List Loc) (ls : Array Slot), HH Z K H → (∀ q ∈ locs, zN Z q.base) → lv_has ls 9 [(0, .ref b0), (1, vr Z 0 0), (2, vr Z 26 0), (3, vr Z 29 0), (4, vi (i : Int))] → W p l e room_1 s m args below meth c H locs (c0 + dC I K) (s0 + dS I K) Q (F0 m 1238 ls [])) : W p l e room_1 s m args below meth c H locs c0 s0 Q (F0 m 654 ls []) := by
  have hcK : cle J K := (R_M_digest Z  J _ _ h2).1
  refine lv_aload_n b.1 b.2.1 dL_law_654 rfl (lv_at hl 1 rfl) ?_
  have R1 := R_PR_digest Z  I _ _ h1
  have hc1 : cle I J := R1.1
  refine lx_callV (n := 0) (As := []) (rest := []) b hfl hl.1 hH R1 ⟨(li_5 58 (by decide +kernel) (by decide +kernel)), (li_5 56 (by decide +kernel) (by decide +kernel)), (li_5 57 (by decide +kernel) (by decide +kernel)), (li_1 1 (by decide +kernel) (by decide +kernel)), by decide +kernel⟩ (fun gr => ob_0) rfl rfl ⟨Nat.le_of_ble_eq_true rfl, Nat.le_of_ble_eq_true rfl⟩ (Nat.le_of_ble_eq_true rfl) ⟨show c0 + dC I J ≤ 601024 by have q1 := dC_add hc1 hcK; have q2 := dC_self K; omega, show s0 + dS I J ≤ 7293034 by have q1 := dC_add hc1 hcK; have q2 := dC_self K; omega⟩ (li_5 55 (by decide +kernel) (by decide +kernel)) hlo dL_law_655 (fun H locs hH hlo => ?_)
  refine lv_pop2_2 b.1 b.2.1 dL_law_658 rfl ?_
  refine lv_aload_n b.1 b.2.1 dL_law_659 rfl (lv_at hl 2 rfl) ?_
  have R2 := R_M_digest Z  J _ _ h2
  have hc2 : cle J K := R2.1
  refine lx_callV (n := 0) (As := []) (rest := []) b hfl hl.1 hH R2 ⟨(li_9 120 (by decide +kernel) (by decide +kernel)), (li_9 118 (by decide +kernel) (by decide +kernel)), (li_9 119 (by decide +kernel) (by decide +kernel)), (li_1 16 (by decide +kernel) (by decide +kernel)), by decide +kernel⟩ (fun gr => ob_26) rfl rfl ⟨Nat.le_of_ble_eq_true rfl, Nat.le_of_ble_eq_true rfl⟩ (Nat.le_of_ble_eq_true rfl) ⟨show c0 + dC I J + dC J K ≤ 601024 by have q1 := dC_add hc1 hc2; have q2 := dC_self K; omega, show s0 + dS I J + dS J K ≤ 7293034 by have q1 := dC_add hc1 hc2; have q2 := dC_self K; omega⟩ (li_9 117 (by decide +kernel) (by decide +kernel)) hlo dL_law_660 (fun H locs hH hlo => ?_)
  refine lv_pop2_2 b.1 b.2.1 dL_law_663 rfl ?_
  refine lv_goto (tgt := 1238) b.1 b.2.1 dL_law_664 (by decide) ?_
  refine W.widen (k := c0 + dC I K) (n := s0 + dS I K) (show c0 + dC I J + dC J K ≤ c0 + dC I K by have q1 := dC_add hc1 hc2; have q2 := dC_self K; omega) (show s0 + dS I J + dS J K ≤ s0 + dS I K by have q1 := dC_add hc1 hc2; have q2 := dC_self K; omega) ?_
  exact kk H locs ls hH hlo (lv_sub hl [0, 1, 2, 3, 4] rfl)
set_option maxRecDepth 20000 in
set_option maxHeartbeats 4000000 in
theorem LC_18 {p : Program} {l : Launch} {e : Env} {s : State} {m : MethodId} {args : Array Value} {below : List Frame} {meth : Method} {c : Code} {H : Heap} {locs : List Loc} {c0 s0 : Nat} {Q : State → Prop} {ls : Array Slot} {Z : ZT} {I : Mem} {b0 L i : Nat} {xs : Nat → Int32} (b : BB p s m args c RL cL_law 9 Z) (hfl : l.stackTraces = false) (hX : va_X b0 L xs s s.heap) (hbl : b0 < s.heap.size) (hZ : zB Z = s.heap.size ∧ zH Z = s.heap) (hi : i + 6 ≤ L) (hL : L < 100000) (hH : HH Z I H) (hlo : ∀ q ∈ locs, zN Z q.base) (hl : lv_has ls 9 [(0, .ref b0), (1, vr Z 0 0), (2, vr Z 26 0), (3, vr Z 29 0), (4, vi (i : Int))]) {r1 : Int} {r2 : Int} {J K : Mem} (h1 : f_L_count ((xs (i + 1)).toInt) ((xs (i + 2)).toInt) I = some (r1, J)) (h2 : f_M_count ((xs (i + 1)).toInt) ((xs (i + 2)).toInt) J = some (r2, K)) (hmc : c0 + dC I K ≤ 601024) (hms : s0 + dS I K ≤ 7293034)
    (kk : ∀ (H : Heap) (locs : List Loc) (ls : Array Slot), HH Z K H → (∀ q ∈ locs, zN Z q.base) → lv_has ls 9 [(0, .ref b0), (1, vr Z 0 0), (2, vr Z 26 0), (3, vr Z 29 0), (4, vi (i : Int))] → W p l e room_1 s m args below meth c H locs (c0 + dC I K) (s0 + dS I K) Q (F0 m 1238 ls [])) : W p l e room_1 s m args below meth c H locs c0 s0 Q (F0 m 667 ls []) := by
  have hcK : cle J K := (R_M_count Z ((xs (i + 1)).toInt) ((xs (i + 2)).toInt) J _ _ h2).1
  refine lv_aload_n b.1 b.2.1 dL_law_667 rfl (lv_at hl 1 rfl) ?_
  refine lv_aload_n b.1 b.2.1 dL_law_668 rfl (lv_at hl 0 rfl) ?_
  refine lv_iload b.1 b.2.1 dL_law_669 (lv_at hl 4 rfl) ?_
  refine lv_iconst (v := Int32.ofInt 1) b.1 b.2.1 dL_law_671 rfl ?_
  refine lx_iadd b dL_law_672 ?_
  refine lx_sld (q := i + 1) b hX hbl hZ hH hlo (w32_of (by omega) (by omega)) (by omega) dL_law_673 ?_
  refine lv_aload_n b.1 b.2.1 dL_law_674 rfl (lv_at hl 0 rfl) ?_
  refine lv_iload b.1 b.2.1 dL_law_675 (lv_at hl 4 rfl) ?_
  refine lv_iconst (v := Int32.ofInt 2) b.1 b.2.1 dL_law_677 rfl ?_
  refine lx_iadd b dL_law_678 ?_
  refine lx_sld (q := i + 2) b hX hbl hZ hH hlo (w32_of (by omega) (by omega)) (by omega) dL_law_679 ?_
  refine lv_aload_n b.1 b.2.1 dL_law_680 rfl (lv_at hl 3 rfl) ?_
  have R1 := R_L_count Z ((xs (i + 1)).toInt) ((xs (i + 2)).toInt) I _ _ h1
  have hc1 : cle I J := R1.1
  refine lx_callS (n := 4) (As := [vr Z 0 0, vi (xs (i + 1)).toInt, vi (xs (i + 2)).toInt, vr Z 29 0]) (rest := []) b hfl hl.1 hH R1 (li_6 108 (by decide +kernel) (by decide +kernel)) (li_6 107 (by decide +kernel) (by decide +kernel)) (li_1 0 (by decide +kernel) (by decide +kernel)) (by decide +kernel) rfl rfl ⟨Nat.le_of_ble_eq_true rfl, Nat.le_of_ble_eq_true rfl⟩ (Nat.le_of_ble_eq_true rfl) ⟨show c0 + dC I J ≤ 601024 by have q1 := dC_add hc1 hcK; have q2 := dC_self K; omega, show s0 + dS I J ≤ 7293034 by have q1 := dC_add hc1 hcK; have q2 := dC_self K; omega⟩ (li_6 106 (by decide +kernel) (by decide +kernel)) hlo dL_law_681 (fun H locs hH hlo => ?_)
  refine lv_istore (lv' := [(5, vi r1), (0, .ref b0), (1, vr Z 0 0), (2, vr Z 26 0), (3, vr Z 29 0), (4, vi (i : Int))]) b.1 b.2.1 dL_law_684 hl (by decide) rfl (fun ls hl => ?_)
  refine lv_aload_n b.1 b.2.1 dL_law_686 rfl (lv_at hl 3 rfl) ?_
  refine lv_aload_n b.1 b.2.1 dL_law_687 rfl (lv_at hl 1 rfl) ?_
  refine lv_iload b.1 b.2.1 dL_law_688 (lv_at hl 5 rfl) ?_
  refine lv_iconst (v := Int32.ofInt 1) b.1 b.2.1 dL_law_690 rfl ?_
  refine lx_iadd b dL_law_691 ?_
  refine lx_sld (q := i + 1) b hX hbl hZ hH hlo (w32_of (by omega) (by omega)) (by omega) dL_law_692 ?_
  refine lv_aload_n b.1 b.2.1 dL_law_693 rfl (lv_at hl 1 rfl) ?_
  refine lv_iload b.1 b.2.1 dL_law_694 (lv_at hl 5 rfl) ?_
  refine lv_iconst (v := Int32.ofInt 2) b.1 b.2.1 dL_law_696 rfl ?_
  refine lx_iadd b dL_law_697 ?_
  refine lx_sld (q := i + 2) b hX hbl hZ hH hlo (w32_of (by omega) (by omega)) (by omega) dL_law_698 ?_
  have R2 := R_M_count Z ((xs (i + 1)).toInt) ((xs (i + 2)).toInt) J _ _ h2
  have hc2 : cle J K := R2.1
  refine lx_callV (n := 2) (As := [vi (xs (i + 1)).toInt, vi (xs (i + 2)).toInt]) (rest := []) b hfl hl.1 hH R2 ⟨(li_9 125 (by decide +kernel) (by decide +kernel)), (li_9 123 (by decide +kernel) (by decide +kernel)), (li_9 124 (by decide +kernel) (by decide +kernel)), (li_1 16 (by decide +kernel) (by decide +kernel)), by decide +kernel⟩ (fun gr => ob_26) rfl rfl ⟨Nat.le_of_ble_eq_true rfl, Nat.le_of_ble_eq_true rfl⟩ (Nat.le_of_ble_eq_true rfl) ⟨show c0 + dC I J + dC J K ≤ 601024 by have q1 := dC_add hc1 hc2; have q2 := dC_self K; omega, show s0 + dS I J + dS J K ≤ 7293034 by have q1 := dC_add hc1 hc2; have q2 := dC_self K; omega⟩ (li_9 122 (by decide +kernel) (by decide +kernel)) hlo dL_law_699 (fun H locs hH hlo => ?_)
  refine lv_istore (lv' := [(6, vi r2), (5, vi r1), (0, .ref b0), (1, vr Z 0 0), (2, vr Z 26 0), (3, vr Z 29 0), (4, vi (i : Int))]) b.1 b.2.1 dL_law_702 hl (by decide) rfl (fun ls hl => ?_)
  refine lv_goto (tgt := 1238) b.1 b.2.1 dL_law_704 (by decide) ?_
  refine W.widen (k := c0 + dC I K) (n := s0 + dS I K) (show c0 + dC I J + dC J K ≤ c0 + dC I K by have q1 := dC_add hc1 hc2; have q2 := dC_self K; omega) (show s0 + dS I J + dS J K ≤ s0 + dS I K by have q1 := dC_add hc1 hc2; have q2 := dC_self K; omega) ?_
  exact kk H locs ls hH hlo (lv_sub hl [2, 3, 4, 5, 6] rfl)
set_option maxRecDepth 20000 in
set_option maxHeartbeats 4000000 in
theorem LC_19 {p : Program} {l : Launch} {e : Env} {s : State} {m : MethodId} {args : Array Value} {below : List Frame} {meth : Method} {c : Code} {H : Heap} {locs : List Loc} {c0 s0 : Nat} {Q : State → Prop} {ls : Array Slot} {Z : ZT} {I : Mem} {b0 L i : Nat} {xs : Nat → Int32} (b : BB p s m args c RL cL_law 9 Z) (hfl : l.stackTraces = false) (hX : va_X b0 L xs s s.heap) (hbl : b0 < s.heap.size) (hZ : zB Z = s.heap.size ∧ zH Z = s.heap) (hi : i + 6 ≤ L) (hL : L < 100000) (hH : HH Z I H) (hlo : ∀ q ∈ locs, zN Z q.base) (hl : lv_has ls 9 [(0, .ref b0), (1, vr Z 0 0), (2, vr Z 26 0), (3, vr Z 29 0), (4, vi (i : Int))]) {r1 : Int} {r2 : Int} {J K : Mem} (h1 : f_L_best ((xs (i + 1)).toInt) I = some (r1, J)) (h2 : f_M_best ((xs (i + 1)).toInt) J = some (r2, K)) (hmc : c0 + dC I K ≤ 601024) (hms : s0 + dS I K ≤ 7293034)
    (kk : ∀ (H : Heap) (locs : List Loc) (ls : Array Slot), HH Z K H → (∀ q ∈ locs, zN Z q.base) → lv_has ls 9 [(0, .ref b0), (1, vr Z 0 0), (2, vr Z 26 0), (3, vr Z 29 0), (4, vi (i : Int))] → W p l e room_1 s m args below meth c H locs (c0 + dC I K) (s0 + dS I K) Q (F0 m 1238 ls [])) : W p l e room_1 s m args below meth c H locs c0 s0 Q (F0 m 707 ls []) := by
  have hcK : cle J K := (R_M_best Z ((xs (i + 1)).toInt) J _ _ h2).1
  refine lv_aload_n b.1 b.2.1 dL_law_707 rfl (lv_at hl 1 rfl) ?_
  refine lv_aload_n b.1 b.2.1 dL_law_708 rfl (lv_at hl 0 rfl) ?_
  refine lv_iload b.1 b.2.1 dL_law_709 (lv_at hl 4 rfl) ?_
  refine lv_iconst (v := Int32.ofInt 1) b.1 b.2.1 dL_law_711 rfl ?_
  refine lx_iadd b dL_law_712 ?_
  refine lx_sld (q := i + 1) b hX hbl hZ hH hlo (w32_of (by omega) (by omega)) (by omega) dL_law_713 ?_
  refine lv_aload_n b.1 b.2.1 dL_law_714 rfl (lv_at hl 3 rfl) ?_
  have R1 := R_L_best Z ((xs (i + 1)).toInt) I _ _ h1
  have hc1 : cle I J := R1.1
  refine lx_callS (n := 3) (As := [vr Z 0 0, vi (xs (i + 1)).toInt, vr Z 29 0]) (rest := []) b hfl hl.1 hH R1 (li_6 116 (by decide +kernel) (by decide +kernel)) (li_6 115 (by decide +kernel) (by decide +kernel)) (li_1 0 (by decide +kernel) (by decide +kernel)) (by decide +kernel) rfl rfl ⟨Nat.le_of_ble_eq_true rfl, Nat.le_of_ble_eq_true rfl⟩ (Nat.le_of_ble_eq_true rfl) ⟨show c0 + dC I J ≤ 601024 by have q1 := dC_add hc1 hcK; have q2 := dC_self K; omega, show s0 + dS I J ≤ 7293034 by have q1 := dC_add hc1 hcK; have q2 := dC_self K; omega⟩ (li_6 114 (by decide +kernel) (by decide +kernel)) hlo dL_law_715 (fun H locs hH hlo => ?_)
  refine lv_istore (lv' := [(5, vi r1), (0, .ref b0), (1, vr Z 0 0), (2, vr Z 26 0), (3, vr Z 29 0), (4, vi (i : Int))]) b.1 b.2.1 dL_law_718 hl (by decide) rfl (fun ls hl => ?_)
  refine lv_aload_n b.1 b.2.1 dL_law_720 rfl (lv_at hl 3 rfl) ?_
  refine lv_aload_n b.1 b.2.1 dL_law_721 rfl (lv_at hl 1 rfl) ?_
  refine lv_iload b.1 b.2.1 dL_law_722 (lv_at hl 5 rfl) ?_
  refine lv_iconst (v := Int32.ofInt 1) b.1 b.2.1 dL_law_724 rfl ?_
  refine lx_iadd b dL_law_725 ?_
  refine lx_sld (q := i + 1) b hX hbl hZ hH hlo (w32_of (by omega) (by omega)) (by omega) dL_law_726 ?_
  have R2 := R_M_best Z ((xs (i + 1)).toInt) J _ _ h2
  have hc2 : cle J K := R2.1
  refine lx_callV (n := 1) (As := [vi (xs (i + 1)).toInt]) (rest := []) b hfl hl.1 hH R2 ⟨(li_9 133 (by decide +kernel) (by decide +kernel)), (li_9 131 (by decide +kernel) (by decide +kernel)), (li_9 132 (by decide +kernel) (by decide +kernel)), (li_1 16 (by decide +kernel) (by decide +kernel)), by decide +kernel⟩ (fun gr => ob_26) rfl rfl ⟨Nat.le_of_ble_eq_true rfl, Nat.le_of_ble_eq_true rfl⟩ (Nat.le_of_ble_eq_true rfl) ⟨show c0 + dC I J + dC J K ≤ 601024 by have q1 := dC_add hc1 hc2; have q2 := dC_self K; omega, show s0 + dS I J + dS J K ≤ 7293034 by have q1 := dC_add hc1 hc2; have q2 := dC_self K; omega⟩ (li_9 130 (by decide +kernel) (by decide +kernel)) hlo dL_law_727 (fun H locs hH hlo => ?_)
  refine lv_istore (lv' := [(6, vi r2), (5, vi r1), (0, .ref b0), (1, vr Z 0 0), (2, vr Z 26 0), (3, vr Z 29 0), (4, vi (i : Int))]) b.1 b.2.1 dL_law_730 hl (by decide) rfl (fun ls hl => ?_)
  refine lv_goto (tgt := 1238) b.1 b.2.1 dL_law_732 (by decide) ?_
  refine W.widen (k := c0 + dC I K) (n := s0 + dS I K) (show c0 + dC I J + dC J K ≤ c0 + dC I K by have q1 := dC_add hc1 hc2; have q2 := dC_self K; omega) (show s0 + dS I J + dS J K ≤ s0 + dS I K by have q1 := dC_add hc1 hc2; have q2 := dC_self K; omega) ?_
  exact kk H locs ls hH hlo (lv_sub hl [2, 3, 4, 5, 6] rfl)
set_option maxRecDepth 20000 in
set_option maxHeartbeats 4000000 in
theorem LC_20 {p : Program} {l : Launch} {e : Env} {s : State} {m : MethodId} {args : Array Value} {below : List Frame} {meth : Method} {c : Code} {H : Heap} {locs : List Loc} {c0 s0 : Nat} {Q : State → Prop} {ls : Array Slot} {Z : ZT} {I : Mem} {b0 L i : Nat} {xs : Nat → Int32} (b : BB p s m args c RL cL_law 9 Z) (hfl : l.stackTraces = false) (hX : va_X b0 L xs s s.heap) (hbl : b0 < s.heap.size) (hZ : zB Z = s.heap.size ∧ zH Z = s.heap) (hi : i + 6 ≤ L) (hL : L < 100000) (hH : HH Z I H) (hlo : ∀ q ∈ locs, zN Z q.base) (hl : lv_has ls 9 [(0, .ref b0), (1, vr Z 0 0), (2, vr Z 26 0), (3, vr Z 29 0), (4, vi (i : Int))]) {r1 : Int} {r2 : Int} {J K : Mem} (h1 : f_L_why ((xs (i + 1)).toInt) ((xs (i + 2)).toInt) I = some (r1, J)) (h2 : f_M_why ((xs (i + 1)).toInt) ((xs (i + 2)).toInt) J = some (r2, K)) (hmc : c0 + dC I K ≤ 601024) (hms : s0 + dS I K ≤ 7293034)
    (kk : ∀ (H : Heap) (locs : List Loc) (ls : Array Slot), HH Z K H → (∀ q ∈ locs, zN Z q.base) → lv_has ls 9 [(0, .ref b0), (1, vr Z 0 0), (2, vr Z 26 0), (3, vr Z 29 0), (4, vi (i : Int))] → W p l e room_1 s m args below meth c H locs (c0 + dC I K) (s0 + dS I K) Q (F0 m 1238 ls [])) : W p l e room_1 s m args below meth c H locs c0 s0 Q (F0 m 735 ls []) := by
  have hcK : cle J K := (R_M_why Z ((xs (i + 1)).toInt) ((xs (i + 2)).toInt) J _ _ h2).1
  refine lv_aload_n b.1 b.2.1 dL_law_735 rfl (lv_at hl 1 rfl) ?_
  refine lv_aload_n b.1 b.2.1 dL_law_736 rfl (lv_at hl 0 rfl) ?_
  refine lv_iload b.1 b.2.1 dL_law_737 (lv_at hl 4 rfl) ?_
  refine lv_iconst (v := Int32.ofInt 1) b.1 b.2.1 dL_law_739 rfl ?_
  refine lx_iadd b dL_law_740 ?_
  refine lx_sld (q := i + 1) b hX hbl hZ hH hlo (w32_of (by omega) (by omega)) (by omega) dL_law_741 ?_
  refine lv_aload_n b.1 b.2.1 dL_law_742 rfl (lv_at hl 0 rfl) ?_
  refine lv_iload b.1 b.2.1 dL_law_743 (lv_at hl 4 rfl) ?_
  refine lv_iconst (v := Int32.ofInt 2) b.1 b.2.1 dL_law_745 rfl ?_
  refine lx_iadd b dL_law_746 ?_
  refine lx_sld (q := i + 2) b hX hbl hZ hH hlo (w32_of (by omega) (by omega)) (by omega) dL_law_747 ?_
  refine lv_aload_n b.1 b.2.1 dL_law_748 rfl (lv_at hl 3 rfl) ?_
  have R1 := R_L_why Z ((xs (i + 1)).toInt) ((xs (i + 2)).toInt) I _ _ h1
  have hc1 : cle I J := R1.1
  refine lx_callS (n := 4) (As := [vr Z 0 0, vi (xs (i + 1)).toInt, vi (xs (i + 2)).toInt, vr Z 29 0]) (rest := []) b hfl hl.1 hH R1 (li_6 130 (by decide +kernel) (by decide +kernel)) (li_6 129 (by decide +kernel) (by decide +kernel)) (li_1 0 (by decide +kernel) (by decide +kernel)) (by decide +kernel) rfl rfl ⟨Nat.le_of_ble_eq_true rfl, Nat.le_of_ble_eq_true rfl⟩ (Nat.le_of_ble_eq_true rfl) ⟨show c0 + dC I J ≤ 601024 by have q1 := dC_add hc1 hcK; have q2 := dC_self K; omega, show s0 + dS I J ≤ 7293034 by have q1 := dC_add hc1 hcK; have q2 := dC_self K; omega⟩ (li_6 128 (by decide +kernel) (by decide +kernel)) hlo dL_law_749 (fun H locs hH hlo => ?_)
  refine lv_istore (lv' := [(5, vi r1), (0, .ref b0), (1, vr Z 0 0), (2, vr Z 26 0), (3, vr Z 29 0), (4, vi (i : Int))]) b.1 b.2.1 dL_law_752 hl (by decide) rfl (fun ls hl => ?_)
  refine lv_aload_n b.1 b.2.1 dL_law_754 rfl (lv_at hl 3 rfl) ?_
  refine lv_aload_n b.1 b.2.1 dL_law_755 rfl (lv_at hl 1 rfl) ?_
  refine lv_iload b.1 b.2.1 dL_law_756 (lv_at hl 5 rfl) ?_
  refine lv_iconst (v := Int32.ofInt 1) b.1 b.2.1 dL_law_758 rfl ?_
  refine lx_iadd b dL_law_759 ?_
  refine lx_sld (q := i + 1) b hX hbl hZ hH hlo (w32_of (by omega) (by omega)) (by omega) dL_law_760 ?_
  refine lv_aload_n b.1 b.2.1 dL_law_761 rfl (lv_at hl 1 rfl) ?_
  refine lv_iload b.1 b.2.1 dL_law_762 (lv_at hl 5 rfl) ?_
  refine lv_iconst (v := Int32.ofInt 2) b.1 b.2.1 dL_law_764 rfl ?_
  refine lx_iadd b dL_law_765 ?_
  refine lx_sld (q := i + 2) b hX hbl hZ hH hlo (w32_of (by omega) (by omega)) (by omega) dL_law_766 ?_
  have R2 := R_M_why Z ((xs (i + 1)).toInt) ((xs (i + 2)).toInt) J _ _ h2
  have hc2 : cle J K := R2.1
  refine lx_callV (n := 2) (As := [vi (xs (i + 1)).toInt, vi (xs (i + 2)).toInt]) (rest := []) b hfl hl.1 hH R2 ⟨(li_9 137 (by decide +kernel) (by decide +kernel)), (li_9 135 (by decide +kernel) (by decide +kernel)), (li_9 136 (by decide +kernel) (by decide +kernel)), (li_1 16 (by decide +kernel) (by decide +kernel)), by decide +kernel⟩ (fun gr => ob_26) rfl rfl ⟨Nat.le_of_ble_eq_true rfl, Nat.le_of_ble_eq_true rfl⟩ (Nat.le_of_ble_eq_true rfl) ⟨show c0 + dC I J + dC J K ≤ 601024 by have q1 := dC_add hc1 hc2; have q2 := dC_self K; omega, show s0 + dS I J + dS J K ≤ 7293034 by have q1 := dC_add hc1 hc2; have q2 := dC_self K; omega⟩ (li_9 134 (by decide +kernel) (by decide +kernel)) hlo dL_law_767 (fun H locs hH hlo => ?_)
  refine lv_istore (lv' := [(6, vi r2), (5, vi r1), (0, .ref b0), (1, vr Z 0 0), (2, vr Z 26 0), (3, vr Z 29 0), (4, vi (i : Int))]) b.1 b.2.1 dL_law_770 hl (by decide) rfl (fun ls hl => ?_)
  refine lv_goto (tgt := 1238) b.1 b.2.1 dL_law_772 (by decide) ?_
  refine W.widen (k := c0 + dC I K) (n := s0 + dS I K) (show c0 + dC I J + dC J K ≤ c0 + dC I K by have q1 := dC_add hc1 hc2; have q2 := dC_self K; omega) (show s0 + dS I J + dS J K ≤ s0 + dS I K by have q1 := dC_add hc1 hc2; have q2 := dC_self K; omega) ?_
  exact kk H locs ls hH hlo (lv_sub hl [2, 3, 4, 5, 6] rfl)
set_option maxRecDepth 20000 in
set_option maxHeartbeats 4000000 in
theorem LC_21 {p : Program} {l : Launch} {e : Env} {s : State} {m : MethodId} {args : Array Value} {below : List Frame} {meth : Method} {c : Code} {H : Heap} {locs : List Loc} {c0 s0 : Nat} {Q : State → Prop} {ls : Array Slot} {Z : ZT} {I : Mem} {b0 L i : Nat} {xs : Nat → Int32} (b : BB p s m args c RL cL_law 9 Z) (hfl : l.stackTraces = false) (hX : va_X b0 L xs s s.heap) (hbl : b0 < s.heap.size) (hZ : zB Z = s.heap.size ∧ zH Z = s.heap) (hi : i + 6 ≤ L) (hL : L < 100000) (hH : HH Z I H) (hlo : ∀ q ∈ locs, zN Z q.base) (hl : lv_has ls 9 [(0, .ref b0), (1, vr Z 0 0), (2, vr Z 26 0), (3, vr Z 29 0), (4, vi (i : Int))]) {r1 : Int} {r2 : Int} {J K : Mem} (h1 : f_L_gain ((xs (i + 1)).toInt) ((xs (i + 2)).toInt) I = some (r1, J)) (h2 : f_M_gain ((xs (i + 1)).toInt) ((xs (i + 2)).toInt) J = some (r2, K)) (hmc : c0 + dC I K ≤ 601024) (hms : s0 + dS I K ≤ 7293034)
    (kk : ∀ (H : Heap) (locs : List Loc) (ls : Array Slot), HH Z K H → (∀ q ∈ locs, zN Z q.base) → lv_has ls 9 [(0, .ref b0), (1, vr Z 0 0), (2, vr Z 26 0), (3, vr Z 29 0), (4, vi (i : Int))] → W p l e room_1 s m args below meth c H locs (c0 + dC I K) (s0 + dS I K) Q (F0 m 1238 ls [])) : W p l e room_1 s m args below meth c H locs c0 s0 Q (F0 m 775 ls []) := by
  have hcK : cle J K := (R_M_gain Z ((xs (i + 1)).toInt) ((xs (i + 2)).toInt) J _ _ h2).1
  refine lv_aload_n b.1 b.2.1 dL_law_775 rfl (lv_at hl 1 rfl) ?_
  refine lv_aload_n b.1 b.2.1 dL_law_776 rfl (lv_at hl 0 rfl) ?_
  refine lv_iload b.1 b.2.1 dL_law_777 (lv_at hl 4 rfl) ?_
  refine lv_iconst (v := Int32.ofInt 1) b.1 b.2.1 dL_law_779 rfl ?_
  refine lx_iadd b dL_law_780 ?_
  refine lx_sld (q := i + 1) b hX hbl hZ hH hlo (w32_of (by omega) (by omega)) (by omega) dL_law_781 ?_
  refine lv_aload_n b.1 b.2.1 dL_law_782 rfl (lv_at hl 0 rfl) ?_
  refine lv_iload b.1 b.2.1 dL_law_783 (lv_at hl 4 rfl) ?_
  refine lv_iconst (v := Int32.ofInt 2) b.1 b.2.1 dL_law_785 rfl ?_
  refine lx_iadd b dL_law_786 ?_
  refine lx_sld (q := i + 2) b hX hbl hZ hH hlo (w32_of (by omega) (by omega)) (by omega) dL_law_787 ?_
  refine lv_aload_n b.1 b.2.1 dL_law_788 rfl (lv_at hl 3 rfl) ?_
  have R1 := R_L_gain Z ((xs (i + 1)).toInt) ((xs (i + 2)).toInt) I _ _ h1
  have hc1 : cle I J := R1.1
  refine lx_callS (n := 4) (As := [vr Z 0 0, vi (xs (i + 1)).toInt, vi (xs (i + 2)).toInt, vr Z 29 0]) (rest := []) b hfl hl.1 hH R1 (li_6 138 (by decide +kernel) (by decide +kernel)) (li_6 137 (by decide +kernel) (by decide +kernel)) (li_1 0 (by decide +kernel) (by decide +kernel)) (by decide +kernel) rfl rfl ⟨Nat.le_of_ble_eq_true rfl, Nat.le_of_ble_eq_true rfl⟩ (Nat.le_of_ble_eq_true rfl) ⟨show c0 + dC I J ≤ 601024 by have q1 := dC_add hc1 hcK; have q2 := dC_self K; omega, show s0 + dS I J ≤ 7293034 by have q1 := dC_add hc1 hcK; have q2 := dC_self K; omega⟩ (li_6 136 (by decide +kernel) (by decide +kernel)) hlo dL_law_789 (fun H locs hH hlo => ?_)
  refine lv_istore (lv' := [(5, vi r1), (0, .ref b0), (1, vr Z 0 0), (2, vr Z 26 0), (3, vr Z 29 0), (4, vi (i : Int))]) b.1 b.2.1 dL_law_792 hl (by decide) rfl (fun ls hl => ?_)
  refine lv_aload_n b.1 b.2.1 dL_law_794 rfl (lv_at hl 3 rfl) ?_
  refine lv_aload_n b.1 b.2.1 dL_law_795 rfl (lv_at hl 1 rfl) ?_
  refine lv_iload b.1 b.2.1 dL_law_796 (lv_at hl 5 rfl) ?_
  refine lv_iconst (v := Int32.ofInt 1) b.1 b.2.1 dL_law_798 rfl ?_
  refine lx_iadd b dL_law_799 ?_
  refine lx_sld (q := i + 1) b hX hbl hZ hH hlo (w32_of (by omega) (by omega)) (by omega) dL_law_800 ?_
  refine lv_aload_n b.1 b.2.1 dL_law_801 rfl (lv_at hl 1 rfl) ?_
  refine lv_iload b.1 b.2.1 dL_law_802 (lv_at hl 5 rfl) ?_
  refine lv_iconst (v := Int32.ofInt 2) b.1 b.2.1 dL_law_804 rfl ?_
  refine lx_iadd b dL_law_805 ?_
  refine lx_sld (q := i + 2) b hX hbl hZ hH hlo (w32_of (by omega) (by omega)) (by omega) dL_law_806 ?_
  have R2 := R_M_gain Z ((xs (i + 1)).toInt) ((xs (i + 2)).toInt) J _ _ h2
  have hc2 : cle J K := R2.1
  refine lx_callV (n := 2) (As := [vi (xs (i + 1)).toInt, vi (xs (i + 2)).toInt]) (rest := []) b hfl hl.1 hH R2 ⟨(li_9 141 (by decide +kernel) (by decide +kernel)), (li_9 139 (by decide +kernel) (by decide +kernel)), (li_9 140 (by decide +kernel) (by decide +kernel)), (li_1 16 (by decide +kernel) (by decide +kernel)), by decide +kernel⟩ (fun gr => ob_26) rfl rfl ⟨Nat.le_of_ble_eq_true rfl, Nat.le_of_ble_eq_true rfl⟩ (Nat.le_of_ble_eq_true rfl) ⟨show c0 + dC I J + dC J K ≤ 601024 by have q1 := dC_add hc1 hc2; have q2 := dC_self K; omega, show s0 + dS I J + dS J K ≤ 7293034 by have q1 := dC_add hc1 hc2; have q2 := dC_self K; omega⟩ (li_9 138 (by decide +kernel) (by decide +kernel)) hlo dL_law_807 (fun H locs hH hlo => ?_)
  refine lv_istore (lv' := [(6, vi r2), (5, vi r1), (0, .ref b0), (1, vr Z 0 0), (2, vr Z 26 0), (3, vr Z 29 0), (4, vi (i : Int))]) b.1 b.2.1 dL_law_810 hl (by decide) rfl (fun ls hl => ?_)
  refine lv_goto (tgt := 1238) b.1 b.2.1 dL_law_812 (by decide) ?_
  refine W.widen (k := c0 + dC I K) (n := s0 + dS I K) (show c0 + dC I J + dC J K ≤ c0 + dC I K by have q1 := dC_add hc1 hc2; have q2 := dC_self K; omega) (show s0 + dS I J + dS J K ≤ s0 + dS I K by have q1 := dC_add hc1 hc2; have q2 := dC_self K; omega) ?_
  exact kk H locs ls hH hlo (lv_sub hl [2, 3, 4, 5, 6] rfl)
set_option maxRecDepth 20000 in
set_option maxHeartbeats 4000000 in
theorem LC_22 {p : Program} {l : Launch} {e : Env} {s : State} {m : MethodId} {args : Array Value} {below : List Frame} {meth : Method} {c : Code} {H : Heap} {locs : List Loc} {c0 s0 : Nat} {Q : State → Prop} {ls : Array Slot} {Z : ZT} {I : Mem} {b0 L i : Nat} {xs : Nat → Int32} (b : BB p s m args c RL cL_law 9 Z) (hfl : l.stackTraces = false) (hX : va_X b0 L xs s s.heap) (hbl : b0 < s.heap.size) (hZ : zB Z = s.heap.size ∧ zH Z = s.heap) (hi : i + 6 ≤ L) (hL : L < 100000) (hH : HH Z I H) (hlo : ∀ q ∈ locs, zN Z q.base) (hl : lv_has ls 9 [(0, .ref b0), (1, vr Z 0 0), (2, vr Z 26 0), (3, vr Z 29 0), (4, vi (i : Int))]) {r1 : Int} {r2 : Int} {J K : Mem} (h1 : f_PR_stepsLeft  I = some (r1, J)) (h2 : f_M_stepsLeft  J = some (r2, K)) (hmc : c0 + dC I K ≤ 601024) (hms : s0 + dS I K ≤ 7293034)
    (kk : ∀ (H : Heap) (locs : List Loc) (ls : Array Slot), HH Z K H → (∀ q ∈ locs, zN Z q.base) → lv_has ls 9 [(0, .ref b0), (1, vr Z 0 0), (2, vr Z 26 0), (3, vr Z 29 0), (4, vi (i : Int))] → W p l e room_1 s m args below meth c H locs (c0 + dC I K) (s0 + dS I K) Q (F0 m 1238 ls [])) : W p l e room_1 s m args below meth c H locs c0 s0 Q (F0 m 815 ls []) := by
  have hcK : cle J K := (R_M_stepsLeft Z  J _ _ h2).1
  refine lv_aload_n b.1 b.2.1 dL_law_815 rfl (lv_at hl 1 rfl) ?_
  have R1 := R_PR_stepsLeft Z  I _ _ h1
  have hc1 : cle I J := R1.1
  refine lx_callV (n := 0) (As := []) (rest := []) b hfl hl.1 hH R1 ⟨(li_5 67 (by decide +kernel) (by decide +kernel)), (li_5 65 (by decide +kernel) (by decide +kernel)), (li_5 66 (by decide +kernel) (by decide +kernel)), (li_1 1 (by decide +kernel) (by decide +kernel)), by decide +kernel⟩ (fun gr => ob_0) rfl rfl ⟨Nat.le_of_ble_eq_true rfl, Nat.le_of_ble_eq_true rfl⟩ (Nat.le_of_ble_eq_true rfl) ⟨show c0 + dC I J ≤ 601024 by have q1 := dC_add hc1 hcK; have q2 := dC_self K; omega, show s0 + dS I J ≤ 7293034 by have q1 := dC_add hc1 hcK; have q2 := dC_self K; omega⟩ (li_5 64 (by decide +kernel) (by decide +kernel)) hlo dL_law_816 (fun H locs hH hlo => ?_)
  refine lv_pop b.1 b.2.1 dL_law_819 rfl ?_
  refine lv_aload_n b.1 b.2.1 dL_law_820 rfl (lv_at hl 2 rfl) ?_
  have R2 := R_M_stepsLeft Z  J _ _ h2
  have hc2 : cle J K := R2.1
  refine lx_callV (n := 0) (As := []) (rest := []) b hfl hl.1 hH R2 ⟨(li_9 145 (by decide +kernel) (by decide +kernel)), (li_9 143 (by decide +kernel) (by decide +kernel)), (li_9 144 (by decide +kernel) (by decide +kernel)), (li_1 16 (by decide +kernel) (by decide +kernel)), by decide +kernel⟩ (fun gr => ob_26) rfl rfl ⟨Nat.le_of_ble_eq_true rfl, Nat.le_of_ble_eq_true rfl⟩ (Nat.le_of_ble_eq_true rfl) ⟨show c0 + dC I J + dC J K ≤ 601024 by have q1 := dC_add hc1 hc2; have q2 := dC_self K; omega, show s0 + dS I J + dS J K ≤ 7293034 by have q1 := dC_add hc1 hc2; have q2 := dC_self K; omega⟩ (li_9 142 (by decide +kernel) (by decide +kernel)) hlo dL_law_821 (fun H locs hH hlo => ?_)
  refine lv_pop b.1 b.2.1 dL_law_824 rfl ?_
  refine lv_goto (tgt := 1238) b.1 b.2.1 dL_law_825 (by decide) ?_
  refine W.widen (k := c0 + dC I K) (n := s0 + dS I K) (show c0 + dC I J + dC J K ≤ c0 + dC I K by have q1 := dC_add hc1 hc2; have q2 := dC_self K; omega) (show s0 + dS I J + dS J K ≤ s0 + dS I K by have q1 := dC_add hc1 hc2; have q2 := dC_self K; omega) ?_
  exact kk H locs ls hH hlo (lv_sub hl [0, 1, 2, 3, 4] rfl)
set_option maxRecDepth 20000 in
set_option maxHeartbeats 4000000 in
theorem LC_23 {p : Program} {l : Launch} {e : Env} {s : State} {m : MethodId} {args : Array Value} {below : List Frame} {meth : Method} {c : Code} {H : Heap} {locs : List Loc} {c0 s0 : Nat} {Q : State → Prop} {ls : Array Slot} {Z : ZT} {I : Mem} {b0 L i : Nat} {xs : Nat → Int32} (b : BB p s m args c RL cL_law 9 Z) (hfl : l.stackTraces = false) (hX : va_X b0 L xs s s.heap) (hbl : b0 < s.heap.size) (hZ : zB Z = s.heap.size ∧ zH Z = s.heap) (hi : i + 6 ≤ L) (hL : L < 100000) (hH : HH Z I H) (hlo : ∀ q ∈ locs, zN Z q.base) (hl : lv_has ls 9 [(0, .ref b0), (1, vr Z 0 0), (2, vr Z 26 0), (3, vr Z 29 0), (4, vi (i : Int))]) {r1 : Int} {r2 : Int} {J K : Mem} (h1 : f_L_sizeIn ((xs (i + 1)).toInt) I = some (r1, J)) (h2 : f_M_sizeIn ((xs (i + 1)).toInt) J = some (r2, K)) (hmc : c0 + dC I K ≤ 601024) (hms : s0 + dS I K ≤ 7293034)
    (kk : ∀ (H : Heap) (locs : List Loc) (ls : Array Slot), HH Z K H → (∀ q ∈ locs, zN Z q.base) → lv_has ls 9 [(0, .ref b0), (1, vr Z 0 0), (2, vr Z 26 0), (3, vr Z 29 0), (4, vi (i : Int))] → W p l e room_1 s m args below meth c H locs (c0 + dC I K) (s0 + dS I K) Q (F0 m 1238 ls [])) : W p l e room_1 s m args below meth c H locs c0 s0 Q (F0 m 828 ls []) := by
  have hcK : cle J K := (R_M_sizeIn Z ((xs (i + 1)).toInt) J _ _ h2).1
  refine lv_aload_n b.1 b.2.1 dL_law_828 rfl (lv_at hl 1 rfl) ?_
  refine lv_aload_n b.1 b.2.1 dL_law_829 rfl (lv_at hl 0 rfl) ?_
  refine lv_iload b.1 b.2.1 dL_law_830 (lv_at hl 4 rfl) ?_
  refine lv_iconst (v := Int32.ofInt 1) b.1 b.2.1 dL_law_832 rfl ?_
  refine lx_iadd b dL_law_833 ?_
  refine lx_sld (q := i + 1) b hX hbl hZ hH hlo (w32_of (by omega) (by omega)) (by omega) dL_law_834 ?_
  refine lv_aload_n b.1 b.2.1 dL_law_835 rfl (lv_at hl 3 rfl) ?_
  have R1 := R_L_sizeIn Z ((xs (i + 1)).toInt) I _ _ h1
  have hc1 : cle I J := R1.1
  refine lx_callS (n := 3) (As := [vr Z 0 0, vi (xs (i + 1)).toInt, vr Z 29 0]) (rest := []) b hfl hl.1 hH R1 (li_6 145 (by decide +kernel) (by decide +kernel)) (li_6 144 (by decide +kernel) (by decide +kernel)) (li_1 0 (by decide +kernel) (by decide +kernel)) (by decide +kernel) rfl rfl ⟨Nat.le_of_ble_eq_true rfl, Nat.le_of_ble_eq_true rfl⟩ (Nat.le_of_ble_eq_true rfl) ⟨show c0 + dC I J ≤ 601024 by have q1 := dC_add hc1 hcK; have q2 := dC_self K; omega, show s0 + dS I J ≤ 7293034 by have q1 := dC_add hc1 hcK; have q2 := dC_self K; omega⟩ (li_6 143 (by decide +kernel) (by decide +kernel)) hlo dL_law_836 (fun H locs hH hlo => ?_)
  refine lv_istore (lv' := [(5, vi r1), (0, .ref b0), (1, vr Z 0 0), (2, vr Z 26 0), (3, vr Z 29 0), (4, vi (i : Int))]) b.1 b.2.1 dL_law_839 hl (by decide) rfl (fun ls hl => ?_)
  refine lv_aload_n b.1 b.2.1 dL_law_841 rfl (lv_at hl 3 rfl) ?_
  refine lv_aload_n b.1 b.2.1 dL_law_842 rfl (lv_at hl 1 rfl) ?_
  refine lv_iload b.1 b.2.1 dL_law_843 (lv_at hl 5 rfl) ?_
  refine lv_iconst (v := Int32.ofInt 1) b.1 b.2.1 dL_law_845 rfl ?_
  refine lx_iadd b dL_law_846 ?_
  refine lx_sld (q := i + 1) b hX hbl hZ hH hlo (w32_of (by omega) (by omega)) (by omega) dL_law_847 ?_
  have R2 := R_M_sizeIn Z ((xs (i + 1)).toInt) J _ _ h2
  have hc2 : cle J K := R2.1
  refine lx_callV (n := 1) (As := [vi (xs (i + 1)).toInt]) (rest := []) b hfl hl.1 hH R2 ⟨(li_9 149 (by decide +kernel) (by decide +kernel)), (li_9 147 (by decide +kernel) (by decide +kernel)), (li_9 148 (by decide +kernel) (by decide +kernel)), (li_1 16 (by decide +kernel) (by decide +kernel)), by decide +kernel⟩ (fun gr => ob_26) rfl rfl ⟨Nat.le_of_ble_eq_true rfl, Nat.le_of_ble_eq_true rfl⟩ (Nat.le_of_ble_eq_true rfl) ⟨show c0 + dC I J + dC J K ≤ 601024 by have q1 := dC_add hc1 hc2; have q2 := dC_self K; omega, show s0 + dS I J + dS J K ≤ 7293034 by have q1 := dC_add hc1 hc2; have q2 := dC_self K; omega⟩ (li_9 146 (by decide +kernel) (by decide +kernel)) hlo dL_law_848 (fun H locs hH hlo => ?_)
  refine lv_istore (lv' := [(6, vi r2), (5, vi r1), (0, .ref b0), (1, vr Z 0 0), (2, vr Z 26 0), (3, vr Z 29 0), (4, vi (i : Int))]) b.1 b.2.1 dL_law_851 hl (by decide) rfl (fun ls hl => ?_)
  refine lv_goto (tgt := 1238) b.1 b.2.1 dL_law_853 (by decide) ?_
  refine W.widen (k := c0 + dC I K) (n := s0 + dS I K) (show c0 + dC I J + dC J K ≤ c0 + dC I K by have q1 := dC_add hc1 hc2; have q2 := dC_self K; omega) (show s0 + dS I J + dS J K ≤ s0 + dS I K by have q1 := dC_add hc1 hc2; have q2 := dC_self K; omega) ?_
  exact kk H locs ls hH hlo (lv_sub hl [2, 3, 4, 5, 6] rfl)
set_option maxRecDepth 20000 in
set_option maxHeartbeats 4000000 in
theorem LC_24 {p : Program} {l : Launch} {e : Env} {s : State} {m : MethodId} {args : Array Value} {below : List Frame} {meth : Method} {c : Code} {H : Heap} {locs : List Loc} {c0 s0 : Nat} {Q : State → Prop} {ls : Array Slot} {Z : ZT} {I : Mem} {b0 L i : Nat} {xs : Nat → Int32} (b : BB p s m args c RL cL_law 9 Z) (hfl : l.stackTraces = false) (hX : va_X b0 L xs s s.heap) (hbl : b0 < s.heap.size) (hZ : zB Z = s.heap.size ∧ zH Z = s.heap) (hi : i + 6 ≤ L) (hL : L < 100000) (hH : HH Z I H) (hlo : ∀ q ∈ locs, zN Z q.base) (hl : lv_has ls 9 [(0, .ref b0), (1, vr Z 0 0), (2, vr Z 26 0), (3, vr Z 29 0), (4, vi (i : Int))]) {r1 : Int} {r2 : Int} {J K : Mem} (h1 : f_PR_bestTie  I = some (r1, J)) (h2 : f_M_bestTie  J = some (r2, K)) (hmc : c0 + dC I K ≤ 601024) (hms : s0 + dS I K ≤ 7293034)
    (kk : ∀ (H : Heap) (locs : List Loc) (ls : Array Slot), HH Z K H → (∀ q ∈ locs, zN Z q.base) → lv_has ls 9 [(0, .ref b0), (1, vr Z 0 0), (2, vr Z 26 0), (3, vr Z 29 0), (4, vi (i : Int))] → W p l e room_1 s m args below meth c H locs (c0 + dC I K) (s0 + dS I K) Q (F0 m 1238 ls [])) : W p l e room_1 s m args below meth c H locs c0 s0 Q (F0 m 856 ls []) := by
  have hcK : cle J K := (R_M_bestTie Z  J _ _ h2).1
  refine lv_aload_n b.1 b.2.1 dL_law_856 rfl (lv_at hl 1 rfl) ?_
  have R1 := R_PR_bestTie Z  I _ _ h1
  have hc1 : cle I J := R1.1
  refine lx_callV (n := 0) (As := []) (rest := []) b hfl hl.1 hH R1 ⟨(li_5 72 (by decide +kernel) (by decide +kernel)), (li_5 70 (by decide +kernel) (by decide +kernel)), (li_5 71 (by decide +kernel) (by decide +kernel)), (li_1 1 (by decide +kernel) (by decide +kernel)), by decide +kernel⟩ (fun gr => ob_0) rfl rfl ⟨Nat.le_of_ble_eq_true rfl, Nat.le_of_ble_eq_true rfl⟩ (Nat.le_of_ble_eq_true rfl) ⟨show c0 + dC I J ≤ 601024 by have q1 := dC_add hc1 hcK; have q2 := dC_self K; omega, show s0 + dS I J ≤ 7293034 by have q1 := dC_add hc1 hcK; have q2 := dC_self K; omega⟩ (li_5 69 (by decide +kernel) (by decide +kernel)) hlo dL_law_857 (fun H locs hH hlo => ?_)
  refine lv_pop b.1 b.2.1 dL_law_860 rfl ?_
  refine lv_aload_n b.1 b.2.1 dL_law_861 rfl (lv_at hl 2 rfl) ?_
  have R2 := R_M_bestTie Z  J _ _ h2
  have hc2 : cle J K := R2.1
  refine lx_callV (n := 0) (As := []) (rest := []) b hfl hl.1 hH R2 ⟨(li_9 153 (by decide +kernel) (by decide +kernel)), (li_9 151 (by decide +kernel) (by decide +kernel)), (li_9 152 (by decide +kernel) (by decide +kernel)), (li_1 16 (by decide +kernel) (by decide +kernel)), by decide +kernel⟩ (fun gr => ob_26) rfl rfl ⟨Nat.le_of_ble_eq_true rfl, Nat.le_of_ble_eq_true rfl⟩ (Nat.le_of_ble_eq_true rfl) ⟨show c0 + dC I J + dC J K ≤ 601024 by have q1 := dC_add hc1 hc2; have q2 := dC_self K; omega, show s0 + dS I J + dS J K ≤ 7293034 by have q1 := dC_add hc1 hc2; have q2 := dC_self K; omega⟩ (li_9 150 (by decide +kernel) (by decide +kernel)) hlo dL_law_862 (fun H locs hH hlo => ?_)
  refine lv_pop b.1 b.2.1 dL_law_865 rfl ?_
  refine lv_goto (tgt := 1238) b.1 b.2.1 dL_law_866 (by decide) ?_
  refine W.widen (k := c0 + dC I K) (n := s0 + dS I K) (show c0 + dC I J + dC J K ≤ c0 + dC I K by have q1 := dC_add hc1 hc2; have q2 := dC_self K; omega) (show s0 + dS I J + dS J K ≤ s0 + dS I K by have q1 := dC_add hc1 hc2; have q2 := dC_self K; omega) ?_
  exact kk H locs ls hH hlo (lv_sub hl [0, 1, 2, 3, 4] rfl)
set_option maxRecDepth 20000 in
set_option maxHeartbeats 4000000 in
theorem LC_25 {p : Program} {l : Launch} {e : Env} {s : State} {m : MethodId} {args : Array Value} {below : List Frame} {meth : Method} {c : Code} {H : Heap} {locs : List Loc} {c0 s0 : Nat} {Q : State → Prop} {ls : Array Slot} {Z : ZT} {I : Mem} {b0 L i : Nat} {xs : Nat → Int32} (b : BB p s m args c RL cL_law 9 Z) (hfl : l.stackTraces = false) (hX : va_X b0 L xs s s.heap) (hbl : b0 < s.heap.size) (hZ : zB Z = s.heap.size ∧ zH Z = s.heap) (hi : i + 6 ≤ L) (hL : L < 100000) (hH : HH Z I H) (hlo : ∀ q ∈ locs, zN Z q.base) (hl : lv_has ls 9 [(0, .ref b0), (1, vr Z 0 0), (2, vr Z 26 0), (3, vr Z 29 0), (4, vi (i : Int))]) {r1 : Int} {r2 : Int} {J K : Mem} (h1 : f_PR_bestLeast  I = some (r1, J)) (h2 : f_M_bestLeast  J = some (r2, K)) (hmc : c0 + dC I K ≤ 601024) (hms : s0 + dS I K ≤ 7293034)
    (kk : ∀ (H : Heap) (locs : List Loc) (ls : Array Slot), HH Z K H → (∀ q ∈ locs, zN Z q.base) → lv_has ls 9 [(0, .ref b0), (1, vr Z 0 0), (2, vr Z 26 0), (3, vr Z 29 0), (4, vi (i : Int))] → W p l e room_1 s m args below meth c H locs (c0 + dC I K) (s0 + dS I K) Q (F0 m 1238 ls [])) : W p l e room_1 s m args below meth c H locs c0 s0 Q (F0 m 869 ls []) := by
  have hcK : cle J K := (R_M_bestLeast Z  J _ _ h2).1
  refine lv_aload_n b.1 b.2.1 dL_law_869 rfl (lv_at hl 1 rfl) ?_
  have R1 := R_PR_bestLeast Z  I _ _ h1
  have hc1 : cle I J := R1.1
  refine lx_callV (n := 0) (As := []) (rest := []) b hfl hl.1 hH R1 ⟨(li_5 86 (by decide +kernel) (by decide +kernel)), (li_5 84 (by decide +kernel) (by decide +kernel)), (li_5 85 (by decide +kernel) (by decide +kernel)), (li_1 1 (by decide +kernel) (by decide +kernel)), by decide +kernel⟩ (fun gr => ob_0) rfl rfl ⟨Nat.le_of_ble_eq_true rfl, Nat.le_of_ble_eq_true rfl⟩ (Nat.le_of_ble_eq_true rfl) ⟨show c0 + dC I J ≤ 601024 by have q1 := dC_add hc1 hcK; have q2 := dC_self K; omega, show s0 + dS I J ≤ 7293034 by have q1 := dC_add hc1 hcK; have q2 := dC_self K; omega⟩ (li_5 83 (by decide +kernel) (by decide +kernel)) hlo dL_law_870 (fun H locs hH hlo => ?_)
  refine lv_pop b.1 b.2.1 dL_law_873 rfl ?_
  refine lv_aload_n b.1 b.2.1 dL_law_874 rfl (lv_at hl 2 rfl) ?_
  have R2 := R_M_bestLeast Z  J _ _ h2
  have hc2 : cle J K := R2.1
  refine lx_callV (n := 0) (As := []) (rest := []) b hfl hl.1 hH R2 ⟨(li_9 165 (by decide +kernel) (by decide +kernel)), (li_9 163 (by decide +kernel) (by decide +kernel)), (li_9 164 (by decide +kernel) (by decide +kernel)), (li_1 16 (by decide +kernel) (by decide +kernel)), by decide +kernel⟩ (fun gr => ob_26) rfl rfl ⟨Nat.le_of_ble_eq_true rfl, Nat.le_of_ble_eq_true rfl⟩ (Nat.le_of_ble_eq_true rfl) ⟨show c0 + dC I J + dC J K ≤ 601024 by have q1 := dC_add hc1 hc2; have q2 := dC_self K; omega, show s0 + dS I J + dS J K ≤ 7293034 by have q1 := dC_add hc1 hc2; have q2 := dC_self K; omega⟩ (li_9 162 (by decide +kernel) (by decide +kernel)) hlo dL_law_875 (fun H locs hH hlo => ?_)
  refine lv_pop b.1 b.2.1 dL_law_878 rfl ?_
  refine lv_goto (tgt := 1238) b.1 b.2.1 dL_law_879 (by decide) ?_
  refine W.widen (k := c0 + dC I K) (n := s0 + dS I K) (show c0 + dC I J + dC J K ≤ c0 + dC I K by have q1 := dC_add hc1 hc2; have q2 := dC_self K; omega) (show s0 + dS I J + dS J K ≤ s0 + dS I K by have q1 := dC_add hc1 hc2; have q2 := dC_self K; omega) ?_
  exact kk H locs ls hH hlo (lv_sub hl [0, 1, 2, 3, 4] rfl)
set_option maxRecDepth 20000 in
set_option maxHeartbeats 4000000 in
theorem LC_26 {p : Program} {l : Launch} {e : Env} {s : State} {m : MethodId} {args : Array Value} {below : List Frame} {meth : Method} {c : Code} {H : Heap} {locs : List Loc} {c0 s0 : Nat} {Q : State → Prop} {ls : Array Slot} {Z : ZT} {I : Mem} {b0 L i : Nat} {xs : Nat → Int32} (b : BB p s m args c RL cL_law 9 Z) (hfl : l.stackTraces = false) (hX : va_X b0 L xs s s.heap) (hbl : b0 < s.heap.size) (hZ : zB Z = s.heap.size ∧ zH Z = s.heap) (hi : i + 6 ≤ L) (hL : L < 100000) (hH : HH Z I H) (hlo : ∀ q ∈ locs, zN Z q.base) (hl : lv_has ls 9 [(0, .ref b0), (1, vr Z 0 0), (2, vr Z 26 0), (3, vr Z 29 0), (4, vi (i : Int))]) {r1 : Int} {r2 : Int} {J K : Mem} (h1 : f_PR_inlinable  I = some (r1, J)) (h2 : f_M_inlinable  J = some (r2, K)) (hmc : c0 + dC I K ≤ 601024) (hms : s0 + dS I K ≤ 7293034)
    (kk : ∀ (H : Heap) (locs : List Loc) (ls : Array Slot), HH Z K H → (∀ q ∈ locs, zN Z q.base) → lv_has ls 9 [(0, .ref b0), (1, vr Z 0 0), (2, vr Z 26 0), (3, vr Z 29 0), (4, vi (i : Int))] → W p l e room_1 s m args below meth c H locs (c0 + dC I K) (s0 + dS I K) Q (F0 m 1238 ls [])) : W p l e room_1 s m args below meth c H locs c0 s0 Q (F0 m 882 ls []) := by
  have hcK : cle J K := (R_M_inlinable Z  J _ _ h2).1
  refine lv_aload_n b.1 b.2.1 dL_law_882 rfl (lv_at hl 1 rfl) ?_
  have R1 := R_PR_inlinable Z  I _ _ h1
  have hc1 : cle I J := R1.1
  refine lx_callV (n := 0) (As := []) (rest := []) b hfl hl.1 hH R1 ⟨(li_5 90 (by decide +kernel) (by decide +kernel)), (li_5 88 (by decide +kernel) (by decide +kernel)), (li_5 89 (by decide +kernel) (by decide +kernel)), (li_1 1 (by decide +kernel) (by decide +kernel)), by decide +kernel⟩ (fun gr => ob_0) rfl rfl ⟨Nat.le_of_ble_eq_true rfl, Nat.le_of_ble_eq_true rfl⟩ (Nat.le_of_ble_eq_true rfl) ⟨show c0 + dC I J ≤ 601024 by have q1 := dC_add hc1 hcK; have q2 := dC_self K; omega, show s0 + dS I J ≤ 7293034 by have q1 := dC_add hc1 hcK; have q2 := dC_self K; omega⟩ (li_5 87 (by decide +kernel) (by decide +kernel)) hlo dL_law_883 (fun H locs hH hlo => ?_)
  refine lv_pop b.1 b.2.1 dL_law_886 rfl ?_
  refine lv_aload_n b.1 b.2.1 dL_law_887 rfl (lv_at hl 2 rfl) ?_
  have R2 := R_M_inlinable Z  J _ _ h2
  have hc2 : cle J K := R2.1
  refine lx_callV (n := 0) (As := []) (rest := []) b hfl hl.1 hH R2 ⟨(li_9 169 (by decide +kernel) (by decide +kernel)), (li_9 167 (by decide +kernel) (by decide +kernel)), (li_9 168 (by decide +kernel) (by decide +kernel)), (li_1 16 (by decide +kernel) (by decide +kernel)), by decide +kernel⟩ (fun gr => ob_26) rfl rfl ⟨Nat.le_of_ble_eq_true rfl, Nat.le_of_ble_eq_true rfl⟩ (Nat.le_of_ble_eq_true rfl) ⟨show c0 + dC I J + dC J K ≤ 601024 by have q1 := dC_add hc1 hc2; have q2 := dC_self K; omega, show s0 + dS I J + dS J K ≤ 7293034 by have q1 := dC_add hc1 hc2; have q2 := dC_self K; omega⟩ (li_9 166 (by decide +kernel) (by decide +kernel)) hlo dL_law_888 (fun H locs hH hlo => ?_)
  refine lv_pop b.1 b.2.1 dL_law_891 rfl ?_
  refine lv_goto (tgt := 1238) b.1 b.2.1 dL_law_892 (by decide) ?_
  refine W.widen (k := c0 + dC I K) (n := s0 + dS I K) (show c0 + dC I J + dC J K ≤ c0 + dC I K by have q1 := dC_add hc1 hc2; have q2 := dC_self K; omega) (show s0 + dS I J + dS J K ≤ s0 + dS I K by have q1 := dC_add hc1 hc2; have q2 := dC_self K; omega) ?_
  exact kk H locs ls hH hlo (lv_sub hl [0, 1, 2, 3, 4] rfl)
set_option maxRecDepth 20000 in
set_option maxHeartbeats 4000000 in
theorem LC_27 {p : Program} {l : Launch} {e : Env} {s : State} {m : MethodId} {args : Array Value} {below : List Frame} {meth : Method} {c : Code} {H : Heap} {locs : List Loc} {c0 s0 : Nat} {Q : State → Prop} {ls : Array Slot} {Z : ZT} {I : Mem} {b0 L i : Nat} {xs : Nat → Int32} (b : BB p s m args c RL cL_law 9 Z) (hfl : l.stackTraces = false) (hX : va_X b0 L xs s s.heap) (hbl : b0 < s.heap.size) (hZ : zB Z = s.heap.size ∧ zH Z = s.heap) (hi : i + 6 ≤ L) (hL : L < 100000) (hH : HH Z I H) (hlo : ∀ q ∈ locs, zN Z q.base) (hl : lv_has ls 9 [(0, .ref b0), (1, vr Z 0 0), (2, vr Z 26 0), (3, vr Z 29 0), (4, vi (i : Int))]) {r1 : Int} {r2 : Int} {J K : Mem} (h1 : f_L_step ((xs (i + 1)).toInt) I = some (r1, J)) (h2 : f_M_step ((xs (i + 1)).toInt) J = some (r2, K)) (hmc : c0 + dC I K ≤ 601024) (hms : s0 + dS I K ≤ 7293034)
    (kk : ∀ (H : Heap) (locs : List Loc) (ls : Array Slot), HH Z K H → (∀ q ∈ locs, zN Z q.base) → lv_has ls 9 [(0, .ref b0), (1, vr Z 0 0), (2, vr Z 26 0), (3, vr Z 29 0), (4, vi (i : Int))] → W p l e room_1 s m args below meth c H locs (c0 + dC I K) (s0 + dS I K) Q (F0 m 1238 ls [])) : W p l e room_1 s m args below meth c H locs c0 s0 Q (F0 m 895 ls []) := by
  have hcK : cle J K := (R_M_step Z ((xs (i + 1)).toInt) J _ _ h2).1
  refine lv_aload_n b.1 b.2.1 dL_law_895 rfl (lv_at hl 1 rfl) ?_
  refine lv_aload_n b.1 b.2.1 dL_law_896 rfl (lv_at hl 0 rfl) ?_
  refine lv_iload b.1 b.2.1 dL_law_897 (lv_at hl 4 rfl) ?_
  refine lv_iconst (v := Int32.ofInt 1) b.1 b.2.1 dL_law_899 rfl ?_
  refine lx_iadd b dL_law_900 ?_
  refine lx_sld (q := i + 1) b hX hbl hZ hH hlo (w32_of (by omega) (by omega)) (by omega) dL_law_901 ?_
  refine lv_aload_n b.1 b.2.1 dL_law_902 rfl (lv_at hl 3 rfl) ?_
  have R1 := R_L_step Z ((xs (i + 1)).toInt) I _ _ h1
  have hc1 : cle I J := R1.1
  refine lx_callS (n := 3) (As := [vr Z 0 0, vi (xs (i + 1)).toInt, vr Z 29 0]) (rest := []) b hfl hl.1 hH R1 (li_6 152 (by decide +kernel) (by decide +kernel)) (li_6 151 (by decide +kernel) (by decide +kernel)) (li_1 0 (by decide +kernel) (by decide +kernel)) (by decide +kernel) rfl rfl ⟨Nat.le_of_ble_eq_true rfl, Nat.le_of_ble_eq_true rfl⟩ (Nat.le_of_ble_eq_true rfl) ⟨show c0 + dC I J ≤ 601024 by have q1 := dC_add hc1 hcK; have q2 := dC_self K; omega, show s0 + dS I J ≤ 7293034 by have q1 := dC_add hc1 hcK; have q2 := dC_self K; omega⟩ (li_6 150 (by decide +kernel) (by decide +kernel)) hlo dL_law_903 (fun H locs hH hlo => ?_)
  refine lv_istore (lv' := [(5, vi r1), (0, .ref b0), (1, vr Z 0 0), (2, vr Z 26 0), (3, vr Z 29 0), (4, vi (i : Int))]) b.1 b.2.1 dL_law_906 hl (by decide) rfl (fun ls hl => ?_)
  refine lv_aload_n b.1 b.2.1 dL_law_908 rfl (lv_at hl 3 rfl) ?_
  refine lv_aload_n b.1 b.2.1 dL_law_909 rfl (lv_at hl 1 rfl) ?_
  refine lv_iload b.1 b.2.1 dL_law_910 (lv_at hl 5 rfl) ?_
  refine lv_iconst (v := Int32.ofInt 1) b.1 b.2.1 dL_law_912 rfl ?_
  refine lx_iadd b dL_law_913 ?_
  refine lx_sld (q := i + 1) b hX hbl hZ hH hlo (w32_of (by omega) (by omega)) (by omega) dL_law_914 ?_
  have R2 := R_M_step Z ((xs (i + 1)).toInt) J _ _ h2
  have hc2 : cle J K := R2.1
  refine lx_callV (n := 1) (As := [vi (xs (i + 1)).toInt]) (rest := []) b hfl hl.1 hH R2 ⟨(li_9 173 (by decide +kernel) (by decide +kernel)), (li_9 171 (by decide +kernel) (by decide +kernel)), (li_9 172 (by decide +kernel) (by decide +kernel)), (li_1 16 (by decide +kernel) (by decide +kernel)), by decide +kernel⟩ (fun gr => ob_26) rfl rfl ⟨Nat.le_of_ble_eq_true rfl, Nat.le_of_ble_eq_true rfl⟩ (Nat.le_of_ble_eq_true rfl) ⟨show c0 + dC I J + dC J K ≤ 601024 by have q1 := dC_add hc1 hc2; have q2 := dC_self K; omega, show s0 + dS I J + dS J K ≤ 7293034 by have q1 := dC_add hc1 hc2; have q2 := dC_self K; omega⟩ (li_9 170 (by decide +kernel) (by decide +kernel)) hlo dL_law_915 (fun H locs hH hlo => ?_)
  refine lv_istore (lv' := [(6, vi r2), (5, vi r1), (0, .ref b0), (1, vr Z 0 0), (2, vr Z 26 0), (3, vr Z 29 0), (4, vi (i : Int))]) b.1 b.2.1 dL_law_918 hl (by decide) rfl (fun ls hl => ?_)
  refine lv_goto (tgt := 1238) b.1 b.2.1 dL_law_920 (by decide) ?_
  refine W.widen (k := c0 + dC I K) (n := s0 + dS I K) (show c0 + dC I J + dC J K ≤ c0 + dC I K by have q1 := dC_add hc1 hc2; have q2 := dC_self K; omega) (show s0 + dS I J + dS J K ≤ s0 + dS I K by have q1 := dC_add hc1 hc2; have q2 := dC_self K; omega) ?_
  exact kk H locs ls hH hlo (lv_sub hl [2, 3, 4, 5, 6] rfl)
set_option maxRecDepth 20000 in
set_option maxHeartbeats 4000000 in
theorem LC_28 {p : Program} {l : Launch} {e : Env} {s : State} {m : MethodId} {args : Array Value} {below : List Frame} {meth : Method} {c : Code} {H : Heap} {locs : List Loc} {c0 s0 : Nat} {Q : State → Prop} {ls : Array Slot} {Z : ZT} {I : Mem} {b0 L i : Nat} {xs : Nat → Int32} (b : BB p s m args c RL cL_law 9 Z) (hfl : l.stackTraces = false) (hX : va_X b0 L xs s s.heap) (hbl : b0 < s.heap.size) (hZ : zB Z = s.heap.size ∧ zH Z = s.heap) (hi : i + 6 ≤ L) (hL : L < 100000) (hH : HH Z I H) (hlo : ∀ q ∈ locs, zN Z q.base) (hl : lv_has ls 9 [(0, .ref b0), (1, vr Z 0 0), (2, vr Z 26 0), (3, vr Z 29 0), (4, vi (i : Int))]) {r1 : Int} {r2 : Int} {J K : Mem} (h1 : f_PR_inline  I = some (r1, J)) (h2 : f_M_inline  J = some (r2, K)) (hmc : c0 + dC I K ≤ 601024) (hms : s0 + dS I K ≤ 7293034)
    (kk : ∀ (H : Heap) (locs : List Loc) (ls : Array Slot), HH Z K H → (∀ q ∈ locs, zN Z q.base) → lv_has ls 9 [(0, .ref b0), (1, vr Z 0 0), (2, vr Z 26 0), (3, vr Z 29 0), (4, vi (i : Int))] → W p l e room_1 s m args below meth c H locs (c0 + dC I K) (s0 + dS I K) Q (F0 m 1238 ls [])) : W p l e room_1 s m args below meth c H locs c0 s0 Q (F0 m 923 ls []) := by
  have hcK : cle J K := (R_M_inline Z  J _ _ h2).1
  refine lv_aload_n b.1 b.2.1 dL_law_923 rfl (lv_at hl 1 rfl) ?_
  have R1 := R_PR_inline Z  I _ _ h1
  have hc1 : cle I J := R1.1
  refine lx_callV (n := 0) (As := []) (rest := []) b hfl hl.1 hH R1 ⟨(li_5 94 (by decide +kernel) (by decide +kernel)), (li_5 92 (by decide +kernel) (by decide +kernel)), (li_5 93 (by decide +kernel) (by decide +kernel)), (li_1 1 (by decide +kernel) (by decide +kernel)), by decide +kernel⟩ (fun gr => ob_0) rfl rfl ⟨Nat.le_of_ble_eq_true rfl, Nat.le_of_ble_eq_true rfl⟩ (Nat.le_of_ble_eq_true rfl) ⟨show c0 + dC I J ≤ 601024 by have q1 := dC_add hc1 hcK; have q2 := dC_self K; omega, show s0 + dS I J ≤ 7293034 by have q1 := dC_add hc1 hcK; have q2 := dC_self K; omega⟩ (li_5 91 (by decide +kernel) (by decide +kernel)) hlo dL_law_924 (fun H locs hH hlo => ?_)
  refine lv_pop b.1 b.2.1 dL_law_927 rfl ?_
  refine lv_aload_n b.1 b.2.1 dL_law_928 rfl (lv_at hl 2 rfl) ?_
  have R2 := R_M_inline Z  J _ _ h2
  have hc2 : cle J K := R2.1
  refine lx_callV (n := 0) (As := []) (rest := []) b hfl hl.1 hH R2 ⟨(li_9 185 (by decide +kernel) (by decide +kernel)), (li_9 183 (by decide +kernel) (by decide +kernel)), (li_9 184 (by decide +kernel) (by decide +kernel)), (li_1 16 (by decide +kernel) (by decide +kernel)), by decide +kernel⟩ (fun gr => ob_26) rfl rfl ⟨Nat.le_of_ble_eq_true rfl, Nat.le_of_ble_eq_true rfl⟩ (Nat.le_of_ble_eq_true rfl) ⟨show c0 + dC I J + dC J K ≤ 601024 by have q1 := dC_add hc1 hc2; have q2 := dC_self K; omega, show s0 + dS I J + dS J K ≤ 7293034 by have q1 := dC_add hc1 hc2; have q2 := dC_self K; omega⟩ (li_9 182 (by decide +kernel) (by decide +kernel)) hlo dL_law_929 (fun H locs hH hlo => ?_)
  refine lv_pop b.1 b.2.1 dL_law_932 rfl ?_
  refine lv_goto (tgt := 1238) b.1 b.2.1 dL_law_933 (by decide) ?_
  refine W.widen (k := c0 + dC I K) (n := s0 + dS I K) (show c0 + dC I J + dC J K ≤ c0 + dC I K by have q1 := dC_add hc1 hc2; have q2 := dC_self K; omega) (show s0 + dS I J + dS J K ≤ s0 + dS I K by have q1 := dC_add hc1 hc2; have q2 := dC_self K; omega) ?_
  exact kk H locs ls hH hlo (lv_sub hl [0, 1, 2, 3, 4] rfl)
set_option maxRecDepth 20000 in
set_option maxHeartbeats 4000000 in
theorem LC_29 {p : Program} {l : Launch} {e : Env} {s : State} {m : MethodId} {args : Array Value} {below : List Frame} {meth : Method} {c : Code} {H : Heap} {locs : List Loc} {c0 s0 : Nat} {Q : State → Prop} {ls : Array Slot} {Z : ZT} {I : Mem} {b0 L i : Nat} {xs : Nat → Int32} (b : BB p s m args c RL cL_law 9 Z) (hfl : l.stackTraces = false) (hX : va_X b0 L xs s s.heap) (hbl : b0 < s.heap.size) (hZ : zB Z = s.heap.size ∧ zH Z = s.heap) (hi : i + 6 ≤ L) (hL : L < 100000) (hH : HH Z I H) (hlo : ∀ q ∈ locs, zN Z q.base) (hl : lv_has ls 9 [(0, .ref b0), (1, vr Z 0 0), (2, vr Z 26 0), (3, vr Z 29 0), (4, vi (i : Int))]) {r1 : Int} {r2 : Int} {J K : Mem} (h1 : f_L_make ((xs (i + 1)).toInt) ((xs (i + 2)).toInt) I = some (r1, J)) (h2 : f_M_make ((xs (i + 1)).toInt) ((xs (i + 2)).toInt) J = some (r2, K)) (hmc : c0 + dC I K ≤ 601024) (hms : s0 + dS I K ≤ 7293034)
    (kk : ∀ (H : Heap) (locs : List Loc) (ls : Array Slot), HH Z K H → (∀ q ∈ locs, zN Z q.base) → lv_has ls 9 [(0, .ref b0), (1, vr Z 0 0), (2, vr Z 26 0), (3, vr Z 29 0), (4, vi (i : Int))] → W p l e room_1 s m args below meth c H locs (c0 + dC I K) (s0 + dS I K) Q (F0 m 1238 ls [])) : W p l e room_1 s m args below meth c H locs c0 s0 Q (F0 m 936 ls []) := by
  have hcK : cle J K := (R_M_make Z ((xs (i + 1)).toInt) ((xs (i + 2)).toInt) J _ _ h2).1
  refine lv_aload_n b.1 b.2.1 dL_law_936 rfl (lv_at hl 1 rfl) ?_
  refine lv_aload_n b.1 b.2.1 dL_law_937 rfl (lv_at hl 0 rfl) ?_
  refine lv_iload b.1 b.2.1 dL_law_938 (lv_at hl 4 rfl) ?_
  refine lv_iconst (v := Int32.ofInt 1) b.1 b.2.1 dL_law_940 rfl ?_
  refine lx_iadd b dL_law_941 ?_
  refine lx_sld (q := i + 1) b hX hbl hZ hH hlo (w32_of (by omega) (by omega)) (by omega) dL_law_942 ?_
  refine lv_aload_n b.1 b.2.1 dL_law_943 rfl (lv_at hl 0 rfl) ?_
  refine lv_iload b.1 b.2.1 dL_law_944 (lv_at hl 4 rfl) ?_
  refine lv_iconst (v := Int32.ofInt 2) b.1 b.2.1 dL_law_946 rfl ?_
  refine lx_iadd b dL_law_947 ?_
  refine lx_sld (q := i + 2) b hX hbl hZ hH hlo (w32_of (by omega) (by omega)) (by omega) dL_law_948 ?_
  refine lv_aload_n b.1 b.2.1 dL_law_949 rfl (lv_at hl 3 rfl) ?_
  have R1 := R_L_make Z ((xs (i + 1)).toInt) ((xs (i + 2)).toInt) I _ _ h1
  have hc1 : cle I J := R1.1
  refine lx_callS (n := 4) (As := [vr Z 0 0, vi (xs (i + 1)).toInt, vi (xs (i + 2)).toInt, vr Z 29 0]) (rest := []) b hfl hl.1 hH R1 (li_6 159 (by decide +kernel) (by decide +kernel)) (li_6 158 (by decide +kernel) (by decide +kernel)) (li_1 0 (by decide +kernel) (by decide +kernel)) (by decide +kernel) rfl rfl ⟨Nat.le_of_ble_eq_true rfl, Nat.le_of_ble_eq_true rfl⟩ (Nat.le_of_ble_eq_true rfl) ⟨show c0 + dC I J ≤ 601024 by have q1 := dC_add hc1 hcK; have q2 := dC_self K; omega, show s0 + dS I J ≤ 7293034 by have q1 := dC_add hc1 hcK; have q2 := dC_self K; omega⟩ (li_6 157 (by decide +kernel) (by decide +kernel)) hlo dL_law_950 (fun H locs hH hlo => ?_)
  refine lv_istore (lv' := [(5, vi r1), (0, .ref b0), (1, vr Z 0 0), (2, vr Z 26 0), (3, vr Z 29 0), (4, vi (i : Int))]) b.1 b.2.1 dL_law_953 hl (by decide) rfl (fun ls hl => ?_)
  refine lv_aload_n b.1 b.2.1 dL_law_955 rfl (lv_at hl 3 rfl) ?_
  refine lv_aload_n b.1 b.2.1 dL_law_956 rfl (lv_at hl 1 rfl) ?_
  refine lv_iload b.1 b.2.1 dL_law_957 (lv_at hl 5 rfl) ?_
  refine lv_iconst (v := Int32.ofInt 1) b.1 b.2.1 dL_law_959 rfl ?_
  refine lx_iadd b dL_law_960 ?_
  refine lx_sld (q := i + 1) b hX hbl hZ hH hlo (w32_of (by omega) (by omega)) (by omega) dL_law_961 ?_
  refine lv_aload_n b.1 b.2.1 dL_law_962 rfl (lv_at hl 1 rfl) ?_
  refine lv_iload b.1 b.2.1 dL_law_963 (lv_at hl 5 rfl) ?_
  refine lv_iconst (v := Int32.ofInt 2) b.1 b.2.1 dL_law_965 rfl ?_
  refine lx_iadd b dL_law_966 ?_
  refine lx_sld (q := i + 2) b hX hbl hZ hH hlo (w32_of (by omega) (by omega)) (by omega) dL_law_967 ?_
  have R2 := R_M_make Z ((xs (i + 1)).toInt) ((xs (i + 2)).toInt) J _ _ h2
  have hc2 : cle J K := R2.1
  refine lx_callV (n := 2) (As := [vi (xs (i + 1)).toInt, vi (xs (i + 2)).toInt]) (rest := []) b hfl hl.1 hH R2 ⟨(li_9 189 (by decide +kernel) (by decide +kernel)), (li_9 187 (by decide +kernel) (by decide +kernel)), (li_9 188 (by decide +kernel) (by decide +kernel)), (li_1 16 (by decide +kernel) (by decide +kernel)), by decide +kernel⟩ (fun gr => ob_26) rfl rfl ⟨Nat.le_of_ble_eq_true rfl, Nat.le_of_ble_eq_true rfl⟩ (Nat.le_of_ble_eq_true rfl) ⟨show c0 + dC I J + dC J K ≤ 601024 by have q1 := dC_add hc1 hc2; have q2 := dC_self K; omega, show s0 + dS I J + dS J K ≤ 7293034 by have q1 := dC_add hc1 hc2; have q2 := dC_self K; omega⟩ (li_9 186 (by decide +kernel) (by decide +kernel)) hlo dL_law_968 (fun H locs hH hlo => ?_)
  refine lv_istore (lv' := [(6, vi r2), (5, vi r1), (0, .ref b0), (1, vr Z 0 0), (2, vr Z 26 0), (3, vr Z 29 0), (4, vi (i : Int))]) b.1 b.2.1 dL_law_971 hl (by decide) rfl (fun ls hl => ?_)
  refine lv_goto (tgt := 1238) b.1 b.2.1 dL_law_973 (by decide) ?_
  refine W.widen (k := c0 + dC I K) (n := s0 + dS I K) (show c0 + dC I J + dC J K ≤ c0 + dC I K by have q1 := dC_add hc1 hc2; have q2 := dC_self K; omega) (show s0 + dS I J + dS J K ≤ s0 + dS I K by have q1 := dC_add hc1 hc2; have q2 := dC_self K; omega) ?_
  exact kk H locs ls hH hlo (lv_sub hl [2, 3, 4, 5, 6] rfl)
set_option maxRecDepth 20000 in
set_option maxHeartbeats 4000000 in
theorem LC_30 {p : Program} {l : Launch} {e : Env} {s : State} {m : MethodId} {args : Array Value} {below : List Frame} {meth : Method} {c : Code} {H : Heap} {locs : List Loc} {c0 s0 : Nat} {Q : State → Prop} {ls : Array Slot} {Z : ZT} {I : Mem} {b0 L i : Nat} {xs : Nat → Int32} (b : BB p s m args c RL cL_law 9 Z) (hfl : l.stackTraces = false) (hX : va_X b0 L xs s s.heap) (hbl : b0 < s.heap.size) (hZ : zB Z = s.heap.size ∧ zH Z = s.heap) (hi : i + 6 ≤ L) (hL : L < 100000) (hH : HH Z I H) (hlo : ∀ q ∈ locs, zN Z q.base) (hl : lv_has ls 9 [(0, .ref b0), (1, vr Z 0 0), (2, vr Z 26 0), (3, vr Z 29 0), (4, vi (i : Int))]) {r1 : Int} {r2 : Int} {J K : Mem} (h1 : f_L_expand ((xs (i + 1)).toInt) I = some (r1, J)) (h2 : f_M_expand ((xs (i + 1)).toInt) J = some (r2, K)) (hmc : c0 + dC I K ≤ 601024) (hms : s0 + dS I K ≤ 7293034)
    (kk : ∀ (H : Heap) (locs : List Loc) (ls : Array Slot), HH Z K H → (∀ q ∈ locs, zN Z q.base) → lv_has ls 9 [(0, .ref b0), (1, vr Z 0 0), (2, vr Z 26 0), (3, vr Z 29 0), (4, vi (i : Int))] → W p l e room_1 s m args below meth c H locs (c0 + dC I K) (s0 + dS I K) Q (F0 m 1238 ls [])) : W p l e room_1 s m args below meth c H locs c0 s0 Q (F0 m 976 ls []) := by
  have hcK : cle J K := (R_M_expand Z ((xs (i + 1)).toInt) J _ _ h2).1
  refine lv_aload_n b.1 b.2.1 dL_law_976 rfl (lv_at hl 1 rfl) ?_
  refine lv_aload_n b.1 b.2.1 dL_law_977 rfl (lv_at hl 0 rfl) ?_
  refine lv_iload b.1 b.2.1 dL_law_978 (lv_at hl 4 rfl) ?_
  refine lv_iconst (v := Int32.ofInt 1) b.1 b.2.1 dL_law_980 rfl ?_
  refine lx_iadd b dL_law_981 ?_
  refine lx_sld (q := i + 1) b hX hbl hZ hH hlo (w32_of (by omega) (by omega)) (by omega) dL_law_982 ?_
  refine lv_aload_n b.1 b.2.1 dL_law_983 rfl (lv_at hl 3 rfl) ?_
  have R1 := R_L_expand Z ((xs (i + 1)).toInt) I _ _ h1
  have hc1 : cle I J := R1.1
  refine lx_callS (n := 3) (As := [vr Z 0 0, vi (xs (i + 1)).toInt, vr Z 29 0]) (rest := []) b hfl hl.1 hH R1 (li_6 166 (by decide +kernel) (by decide +kernel)) (li_6 165 (by decide +kernel) (by decide +kernel)) (li_1 0 (by decide +kernel) (by decide +kernel)) (by decide +kernel) rfl rfl ⟨Nat.le_of_ble_eq_true rfl, Nat.le_of_ble_eq_true rfl⟩ (Nat.le_of_ble_eq_true rfl) ⟨show c0 + dC I J ≤ 601024 by have q1 := dC_add hc1 hcK; have q2 := dC_self K; omega, show s0 + dS I J ≤ 7293034 by have q1 := dC_add hc1 hcK; have q2 := dC_self K; omega⟩ (li_6 164 (by decide +kernel) (by decide +kernel)) hlo dL_law_984 (fun H locs hH hlo => ?_)
  refine lv_istore (lv' := [(5, vi r1), (0, .ref b0), (1, vr Z 0 0), (2, vr Z 26 0), (3, vr Z 29 0), (4, vi (i : Int))]) b.1 b.2.1 dL_law_987 hl (by decide) rfl (fun ls hl => ?_)
  refine lv_aload_n b.1 b.2.1 dL_law_989 rfl (lv_at hl 3 rfl) ?_
  refine lv_aload_n b.1 b.2.1 dL_law_990 rfl (lv_at hl 1 rfl) ?_
  refine lv_iload b.1 b.2.1 dL_law_991 (lv_at hl 5 rfl) ?_
  refine lv_iconst (v := Int32.ofInt 1) b.1 b.2.1 dL_law_993 rfl ?_
  refine lx_iadd b dL_law_994 ?_
  refine lx_sld (q := i + 1) b hX hbl hZ hH hlo (w32_of (by omega) (by omega)) (by omega) dL_law_995 ?_
  have R2 := R_M_expand Z ((xs (i + 1)).toInt) J _ _ h2
  have hc2 : cle J K := R2.1
  refine lx_callV (n := 1) (As := [vi (xs (i + 1)).toInt]) (rest := []) b hfl hl.1 hH R2 ⟨(li_9 193 (by decide +kernel) (by decide +kernel)), (li_9 191 (by decide +kernel) (by decide +kernel)), (li_9 192 (by decide +kernel) (by decide +kernel)), (li_1 16 (by decide +kernel) (by decide +kernel)), by decide +kernel⟩ (fun gr => ob_26) rfl rfl ⟨Nat.le_of_ble_eq_true rfl, Nat.le_of_ble_eq_true rfl⟩ (Nat.le_of_ble_eq_true rfl) ⟨show c0 + dC I J + dC J K ≤ 601024 by have q1 := dC_add hc1 hc2; have q2 := dC_self K; omega, show s0 + dS I J + dS J K ≤ 7293034 by have q1 := dC_add hc1 hc2; have q2 := dC_self K; omega⟩ (li_9 190 (by decide +kernel) (by decide +kernel)) hlo dL_law_996 (fun H locs hH hlo => ?_)
  refine lv_istore (lv' := [(6, vi r2), (5, vi r1), (0, .ref b0), (1, vr Z 0 0), (2, vr Z 26 0), (3, vr Z 29 0), (4, vi (i : Int))]) b.1 b.2.1 dL_law_999 hl (by decide) rfl (fun ls hl => ?_)
  refine lv_goto (tgt := 1238) b.1 b.2.1 dL_law_1001 (by decide) ?_
  refine W.widen (k := c0 + dC I K) (n := s0 + dS I K) (show c0 + dC I J + dC J K ≤ c0 + dC I K by have q1 := dC_add hc1 hc2; have q2 := dC_self K; omega) (show s0 + dS I J + dS J K ≤ s0 + dS I K by have q1 := dC_add hc1 hc2; have q2 := dC_self K; omega) ?_
  exact kk H locs ls hH hlo (lv_sub hl [2, 3, 4, 5, 6] rfl)
set_option maxRecDepth 20000 in
set_option maxHeartbeats 4000000 in
theorem LC_31 {p : Program} {l : Launch} {e : Env} {s : State} {m : MethodId} {args : Array Value} {below : List Frame} {meth : Method} {c : Code} {H : Heap} {locs : List Loc} {c0 s0 : Nat} {Q : State → Prop} {ls : Array Slot} {Z : ZT} {I : Mem} {b0 L i : Nat} {xs : Nat → Int32} (b : BB p s m args c RL cL_law 9 Z) (hfl : l.stackTraces = false) (hX : va_X b0 L xs s s.heap) (hbl : b0 < s.heap.size) (hZ : zB Z = s.heap.size ∧ zH Z = s.heap) (hi : i + 6 ≤ L) (hL : L < 100000) (hH : HH Z I H) (hlo : ∀ q ∈ locs, zN Z q.base) (hl : lv_has ls 9 [(0, .ref b0), (1, vr Z 0 0), (2, vr Z 26 0), (3, vr Z 29 0), (4, vi (i : Int))]) {r1 : Int} {r2 : Int} {J K : Mem} (h1 : f_L_append ((xs (i + 1)).toInt) I = some (r1, J)) (h2 : f_M_append ((xs (i + 1)).toInt) J = some (r2, K)) (hmc : c0 + dC I K ≤ 601024) (hms : s0 + dS I K ≤ 7293034)
    (kk : ∀ (H : Heap) (locs : List Loc) (ls : Array Slot), HH Z K H → (∀ q ∈ locs, zN Z q.base) → lv_has ls 9 [(0, .ref b0), (1, vr Z 0 0), (2, vr Z 26 0), (3, vr Z 29 0), (4, vi (i : Int))] → W p l e room_1 s m args below meth c H locs (c0 + dC I K) (s0 + dS I K) Q (F0 m 1238 ls [])) : W p l e room_1 s m args below meth c H locs c0 s0 Q (F0 m 1004 ls []) := by
  have hcK : cle J K := (R_M_append Z ((xs (i + 1)).toInt) J _ _ h2).1
  refine lv_aload_n b.1 b.2.1 dL_law_1004 rfl (lv_at hl 1 rfl) ?_
  refine lv_aload_n b.1 b.2.1 dL_law_1005 rfl (lv_at hl 0 rfl) ?_
  refine lv_iload b.1 b.2.1 dL_law_1006 (lv_at hl 4 rfl) ?_
  refine lv_iconst (v := Int32.ofInt 1) b.1 b.2.1 dL_law_1008 rfl ?_
  refine lx_iadd b dL_law_1009 ?_
  refine lx_sld (q := i + 1) b hX hbl hZ hH hlo (w32_of (by omega) (by omega)) (by omega) dL_law_1010 ?_
  refine lv_aload_n b.1 b.2.1 dL_law_1011 rfl (lv_at hl 3 rfl) ?_
  have R1 := R_L_append Z ((xs (i + 1)).toInt) I _ _ h1
  have hc1 : cle I J := R1.1
  refine lx_callS (n := 3) (As := [vr Z 0 0, vi (xs (i + 1)).toInt, vr Z 29 0]) (rest := []) b hfl hl.1 hH R1 (li_6 173 (by decide +kernel) (by decide +kernel)) (li_6 172 (by decide +kernel) (by decide +kernel)) (li_1 0 (by decide +kernel) (by decide +kernel)) (by decide +kernel) rfl rfl ⟨Nat.le_of_ble_eq_true rfl, Nat.le_of_ble_eq_true rfl⟩ (Nat.le_of_ble_eq_true rfl) ⟨show c0 + dC I J ≤ 601024 by have q1 := dC_add hc1 hcK; have q2 := dC_self K; omega, show s0 + dS I J ≤ 7293034 by have q1 := dC_add hc1 hcK; have q2 := dC_self K; omega⟩ (li_6 171 (by decide +kernel) (by decide +kernel)) hlo dL_law_1012 (fun H locs hH hlo => ?_)
  refine lv_istore (lv' := [(5, vi r1), (0, .ref b0), (1, vr Z 0 0), (2, vr Z 26 0), (3, vr Z 29 0), (4, vi (i : Int))]) b.1 b.2.1 dL_law_1015 hl (by decide) rfl (fun ls hl => ?_)
  refine lv_aload_n b.1 b.2.1 dL_law_1017 rfl (lv_at hl 3 rfl) ?_
  refine lv_aload_n b.1 b.2.1 dL_law_1018 rfl (lv_at hl 1 rfl) ?_
  refine lv_iload b.1 b.2.1 dL_law_1019 (lv_at hl 5 rfl) ?_
  refine lv_iconst (v := Int32.ofInt 1) b.1 b.2.1 dL_law_1021 rfl ?_
  refine lx_iadd b dL_law_1022 ?_
  refine lx_sld (q := i + 1) b hX hbl hZ hH hlo (w32_of (by omega) (by omega)) (by omega) dL_law_1023 ?_
  have R2 := R_M_append Z ((xs (i + 1)).toInt) J _ _ h2
  have hc2 : cle J K := R2.1
  refine lx_callV (n := 1) (As := [vi (xs (i + 1)).toInt]) (rest := []) b hfl hl.1 hH R2 ⟨(li_9 197 (by decide +kernel) (by decide +kernel)), (li_9 195 (by decide +kernel) (by decide +kernel)), (li_9 196 (by decide +kernel) (by decide +kernel)), (li_1 16 (by decide +kernel) (by decide +kernel)), by decide +kernel⟩ (fun gr => ob_26) rfl rfl ⟨Nat.le_of_ble_eq_true rfl, Nat.le_of_ble_eq_true rfl⟩ (Nat.le_of_ble_eq_true rfl) ⟨show c0 + dC I J + dC J K ≤ 601024 by have q1 := dC_add hc1 hc2; have q2 := dC_self K; omega, show s0 + dS I J + dS J K ≤ 7293034 by have q1 := dC_add hc1 hc2; have q2 := dC_self K; omega⟩ (li_9 194 (by decide +kernel) (by decide +kernel)) hlo dL_law_1024 (fun H locs hH hlo => ?_)
  refine lv_istore (lv' := [(6, vi r2), (5, vi r1), (0, .ref b0), (1, vr Z 0 0), (2, vr Z 26 0), (3, vr Z 29 0), (4, vi (i : Int))]) b.1 b.2.1 dL_law_1027 hl (by decide) rfl (fun ls hl => ?_)
  refine lv_goto (tgt := 1238) b.1 b.2.1 dL_law_1029 (by decide) ?_
  refine W.widen (k := c0 + dC I K) (n := s0 + dS I K) (show c0 + dC I J + dC J K ≤ c0 + dC I K by have q1 := dC_add hc1 hc2; have q2 := dC_self K; omega) (show s0 + dS I J + dS J K ≤ s0 + dS I K by have q1 := dC_add hc1 hc2; have q2 := dC_self K; omega) ?_
  exact kk H locs ls hH hlo (lv_sub hl [2, 3, 4, 5, 6] rfl)
set_option maxRecDepth 20000 in
set_option maxHeartbeats 4000000 in
theorem LC_32 {p : Program} {l : Launch} {e : Env} {s : State} {m : MethodId} {args : Array Value} {below : List Frame} {meth : Method} {c : Code} {H : Heap} {locs : List Loc} {c0 s0 : Nat} {Q : State → Prop} {ls : Array Slot} {Z : ZT} {I : Mem} {b0 L i : Nat} {xs : Nat → Int32} (b : BB p s m args c RL cL_law 9 Z) (hfl : l.stackTraces = false) (hX : va_X b0 L xs s s.heap) (hbl : b0 < s.heap.size) (hZ : zB Z = s.heap.size ∧ zH Z = s.heap) (hi : i + 6 ≤ L) (hL : L < 100000) (hH : HH Z I H) (hlo : ∀ q ∈ locs, zN Z q.base) (hl : lv_has ls 9 [(0, .ref b0), (1, vr Z 0 0), (2, vr Z 26 0), (3, vr Z 29 0), (4, vi (i : Int))]) {r1 : Int} {r2 : Int} {J K : Mem} (h1 : f_L_cut ((xs (i + 1)).toInt) I = some (r1, J)) (h2 : f_M_cut ((xs (i + 1)).toInt) J = some (r2, K)) (hmc : c0 + dC I K ≤ 601024) (hms : s0 + dS I K ≤ 7293034)
    (kk : ∀ (H : Heap) (locs : List Loc) (ls : Array Slot), HH Z K H → (∀ q ∈ locs, zN Z q.base) → lv_has ls 9 [(0, .ref b0), (1, vr Z 0 0), (2, vr Z 26 0), (3, vr Z 29 0), (4, vi (i : Int))] → W p l e room_1 s m args below meth c H locs (c0 + dC I K) (s0 + dS I K) Q (F0 m 1238 ls [])) : W p l e room_1 s m args below meth c H locs c0 s0 Q (F0 m 1032 ls []) := by
  have hcK : cle J K := (R_M_cut Z ((xs (i + 1)).toInt) J _ _ h2).1
  refine lv_aload_n b.1 b.2.1 dL_law_1032 rfl (lv_at hl 1 rfl) ?_
  refine lv_aload_n b.1 b.2.1 dL_law_1033 rfl (lv_at hl 0 rfl) ?_
  refine lv_iload b.1 b.2.1 dL_law_1034 (lv_at hl 4 rfl) ?_
  refine lv_iconst (v := Int32.ofInt 1) b.1 b.2.1 dL_law_1036 rfl ?_
  refine lx_iadd b dL_law_1037 ?_
  refine lx_sld (q := i + 1) b hX hbl hZ hH hlo (w32_of (by omega) (by omega)) (by omega) dL_law_1038 ?_
  refine lv_aload_n b.1 b.2.1 dL_law_1039 rfl (lv_at hl 3 rfl) ?_
  have R1 := R_L_cut Z ((xs (i + 1)).toInt) I _ _ h1
  have hc1 : cle I J := R1.1
  refine lx_callS (n := 3) (As := [vr Z 0 0, vi (xs (i + 1)).toInt, vr Z 29 0]) (rest := []) b hfl hl.1 hH R1 (li_6 180 (by decide +kernel) (by decide +kernel)) (li_6 179 (by decide +kernel) (by decide +kernel)) (li_1 0 (by decide +kernel) (by decide +kernel)) (by decide +kernel) rfl rfl ⟨Nat.le_of_ble_eq_true rfl, Nat.le_of_ble_eq_true rfl⟩ (Nat.le_of_ble_eq_true rfl) ⟨show c0 + dC I J ≤ 601024 by have q1 := dC_add hc1 hcK; have q2 := dC_self K; omega, show s0 + dS I J ≤ 7293034 by have q1 := dC_add hc1 hcK; have q2 := dC_self K; omega⟩ (li_6 178 (by decide +kernel) (by decide +kernel)) hlo dL_law_1040 (fun H locs hH hlo => ?_)
  refine lv_istore (lv' := [(5, vi r1), (0, .ref b0), (1, vr Z 0 0), (2, vr Z 26 0), (3, vr Z 29 0), (4, vi (i : Int))]) b.1 b.2.1 dL_law_1043 hl (by decide) rfl (fun ls hl => ?_)
  refine lv_aload_n b.1 b.2.1 dL_law_1045 rfl (lv_at hl 3 rfl) ?_
  refine lv_aload_n b.1 b.2.1 dL_law_1046 rfl (lv_at hl 1 rfl) ?_
  refine lv_iload b.1 b.2.1 dL_law_1047 (lv_at hl 5 rfl) ?_
  refine lv_iconst (v := Int32.ofInt 1) b.1 b.2.1 dL_law_1049 rfl ?_
  refine lx_iadd b dL_law_1050 ?_
  refine lx_sld (q := i + 1) b hX hbl hZ hH hlo (w32_of (by omega) (by omega)) (by omega) dL_law_1051 ?_
  have R2 := R_M_cut Z ((xs (i + 1)).toInt) J _ _ h2
  have hc2 : cle J K := R2.1
  refine lx_callV (n := 1) (As := [vi (xs (i + 1)).toInt]) (rest := []) b hfl hl.1 hH R2 ⟨(li_9 201 (by decide +kernel) (by decide +kernel)), (li_9 199 (by decide +kernel) (by decide +kernel)), (li_9 200 (by decide +kernel) (by decide +kernel)), (li_1 16 (by decide +kernel) (by decide +kernel)), by decide +kernel⟩ (fun gr => ob_26) rfl rfl ⟨Nat.le_of_ble_eq_true rfl, Nat.le_of_ble_eq_true rfl⟩ (Nat.le_of_ble_eq_true rfl) ⟨show c0 + dC I J + dC J K ≤ 601024 by have q1 := dC_add hc1 hc2; have q2 := dC_self K; omega, show s0 + dS I J + dS J K ≤ 7293034 by have q1 := dC_add hc1 hc2; have q2 := dC_self K; omega⟩ (li_9 198 (by decide +kernel) (by decide +kernel)) hlo dL_law_1052 (fun H locs hH hlo => ?_)
  refine lv_istore (lv' := [(6, vi r2), (5, vi r1), (0, .ref b0), (1, vr Z 0 0), (2, vr Z 26 0), (3, vr Z 29 0), (4, vi (i : Int))]) b.1 b.2.1 dL_law_1055 hl (by decide) rfl (fun ls hl => ?_)
  refine lv_goto (tgt := 1238) b.1 b.2.1 dL_law_1057 (by decide) ?_
  refine W.widen (k := c0 + dC I K) (n := s0 + dS I K) (show c0 + dC I J + dC J K ≤ c0 + dC I K by have q1 := dC_add hc1 hc2; have q2 := dC_self K; omega) (show s0 + dS I J + dS J K ≤ s0 + dS I K by have q1 := dC_add hc1 hc2; have q2 := dC_self K; omega) ?_
  exact kk H locs ls hH hlo (lv_sub hl [2, 3, 4, 5, 6] rfl)
set_option maxRecDepth 20000 in
set_option maxHeartbeats 4000000 in
theorem LC_33 {p : Program} {l : Launch} {e : Env} {s : State} {m : MethodId} {args : Array Value} {below : List Frame} {meth : Method} {c : Code} {H : Heap} {locs : List Loc} {c0 s0 : Nat} {Q : State → Prop} {ls : Array Slot} {Z : ZT} {I : Mem} {b0 L i : Nat} {xs : Nat → Int32} (b : BB p s m args c RL cL_law 9 Z) (hfl : l.stackTraces = false) (hX : va_X b0 L xs s s.heap) (hbl : b0 < s.heap.size) (hZ : zB Z = s.heap.size ∧ zH Z = s.heap) (hi : i + 6 ≤ L) (hL : L < 100000) (hH : HH Z I H) (hlo : ∀ q ∈ locs, zN Z q.base) (hl : lv_has ls 9 [(0, .ref b0), (1, vr Z 0 0), (2, vr Z 26 0), (3, vr Z 29 0), (4, vi (i : Int))]) {r1 : Int} {r2 : Int} {J K : Mem} (h1 : f_L_set ((xs (i + 1)).toInt) ((xs (i + 2)).toInt) I = some (r1, J)) (h2 : f_M_set ((xs (i + 1)).toInt) ((xs (i + 2)).toInt) J = some (r2, K)) (hmc : c0 + dC I K ≤ 601024) (hms : s0 + dS I K ≤ 7293034)
    (kk : ∀ (H : Heap) (locs : List Loc) (ls : Array Slot), HH Z K H → (∀ q ∈ locs, zN Z q.base) → lv_has ls 9 [(0, .ref b0), (1, vr Z 0 0), (2, vr Z 26 0), (3, vr Z 29 0), (4, vi (i : Int))] → W p l e room_1 s m args below meth c H locs (c0 + dC I K) (s0 + dS I K) Q (F0 m 1238 ls [])) : W p l e room_1 s m args below meth c H locs c0 s0 Q (F0 m 1060 ls []) := by
  have hcK : cle J K := (R_M_set Z ((xs (i + 1)).toInt) ((xs (i + 2)).toInt) J _ _ h2).1
  refine lv_aload_n b.1 b.2.1 dL_law_1060 rfl (lv_at hl 1 rfl) ?_
  refine lv_aload_n b.1 b.2.1 dL_law_1061 rfl (lv_at hl 0 rfl) ?_
  refine lv_iload b.1 b.2.1 dL_law_1062 (lv_at hl 4 rfl) ?_
  refine lv_iconst (v := Int32.ofInt 1) b.1 b.2.1 dL_law_1064 rfl ?_
  refine lx_iadd b dL_law_1065 ?_
  refine lx_sld (q := i + 1) b hX hbl hZ hH hlo (w32_of (by omega) (by omega)) (by omega) dL_law_1066 ?_
  refine lv_aload_n b.1 b.2.1 dL_law_1067 rfl (lv_at hl 0 rfl) ?_
  refine lv_iload b.1 b.2.1 dL_law_1068 (lv_at hl 4 rfl) ?_
  refine lv_iconst (v := Int32.ofInt 2) b.1 b.2.1 dL_law_1070 rfl ?_
  refine lx_iadd b dL_law_1071 ?_
  refine lx_sld (q := i + 2) b hX hbl hZ hH hlo (w32_of (by omega) (by omega)) (by omega) dL_law_1072 ?_
  refine lv_aload_n b.1 b.2.1 dL_law_1073 rfl (lv_at hl 3 rfl) ?_
  have R1 := R_L_set Z ((xs (i + 1)).toInt) ((xs (i + 2)).toInt) I _ _ h1
  have hc1 : cle I J := R1.1
  refine lx_callS (n := 4) (As := [vr Z 0 0, vi (xs (i + 1)).toInt, vi (xs (i + 2)).toInt, vr Z 29 0]) (rest := []) b hfl hl.1 hH R1 (li_6 187 (by decide +kernel) (by decide +kernel)) (li_6 186 (by decide +kernel) (by decide +kernel)) (li_1 0 (by decide +kernel) (by decide +kernel)) (by decide +kernel) rfl rfl ⟨Nat.le_of_ble_eq_true rfl, Nat.le_of_ble_eq_true rfl⟩ (Nat.le_of_ble_eq_true rfl) ⟨show c0 + dC I J ≤ 601024 by have q1 := dC_add hc1 hcK; have q2 := dC_self K; omega, show s0 + dS I J ≤ 7293034 by have q1 := dC_add hc1 hcK; have q2 := dC_self K; omega⟩ (li_6 185 (by decide +kernel) (by decide +kernel)) hlo dL_law_1074 (fun H locs hH hlo => ?_)
  refine lv_istore (lv' := [(5, vi r1), (0, .ref b0), (1, vr Z 0 0), (2, vr Z 26 0), (3, vr Z 29 0), (4, vi (i : Int))]) b.1 b.2.1 dL_law_1077 hl (by decide) rfl (fun ls hl => ?_)
  refine lv_aload_n b.1 b.2.1 dL_law_1079 rfl (lv_at hl 3 rfl) ?_
  refine lv_aload_n b.1 b.2.1 dL_law_1080 rfl (lv_at hl 1 rfl) ?_
  refine lv_iload b.1 b.2.1 dL_law_1081 (lv_at hl 5 rfl) ?_
  refine lv_iconst (v := Int32.ofInt 1) b.1 b.2.1 dL_law_1083 rfl ?_
  refine lx_iadd b dL_law_1084 ?_
  refine lx_sld (q := i + 1) b hX hbl hZ hH hlo (w32_of (by omega) (by omega)) (by omega) dL_law_1085 ?_
  refine lv_aload_n b.1 b.2.1 dL_law_1086 rfl (lv_at hl 1 rfl) ?_
  refine lv_iload b.1 b.2.1 dL_law_1087 (lv_at hl 5 rfl) ?_
  refine lv_iconst (v := Int32.ofInt 2) b.1 b.2.1 dL_law_1089 rfl ?_
  refine lx_iadd b dL_law_1090 ?_
  refine lx_sld (q := i + 2) b hX hbl hZ hH hlo (w32_of (by omega) (by omega)) (by omega) dL_law_1091 ?_
  have R2 := R_M_set Z ((xs (i + 1)).toInt) ((xs (i + 2)).toInt) J _ _ h2
  have hc2 : cle J K := R2.1
  refine lx_callV (n := 2) (As := [vi (xs (i + 1)).toInt, vi (xs (i + 2)).toInt]) (rest := []) b hfl hl.1 hH R2 ⟨(li_9 205 (by decide +kernel) (by decide +kernel)), (li_9 203 (by decide +kernel) (by decide +kernel)), (li_9 204 (by decide +kernel) (by decide +kernel)), (li_1 16 (by decide +kernel) (by decide +kernel)), by decide +kernel⟩ (fun gr => ob_26) rfl rfl ⟨Nat.le_of_ble_eq_true rfl, Nat.le_of_ble_eq_true rfl⟩ (Nat.le_of_ble_eq_true rfl) ⟨show c0 + dC I J + dC J K ≤ 601024 by have q1 := dC_add hc1 hc2; have q2 := dC_self K; omega, show s0 + dS I J + dS J K ≤ 7293034 by have q1 := dC_add hc1 hc2; have q2 := dC_self K; omega⟩ (li_9 202 (by decide +kernel) (by decide +kernel)) hlo dL_law_1092 (fun H locs hH hlo => ?_)
  refine lv_istore (lv' := [(6, vi r2), (5, vi r1), (0, .ref b0), (1, vr Z 0 0), (2, vr Z 26 0), (3, vr Z 29 0), (4, vi (i : Int))]) b.1 b.2.1 dL_law_1095 hl (by decide) rfl (fun ls hl => ?_)
  refine lv_goto (tgt := 1238) b.1 b.2.1 dL_law_1097 (by decide) ?_
  refine W.widen (k := c0 + dC I K) (n := s0 + dS I K) (show c0 + dC I J + dC J K ≤ c0 + dC I K by have q1 := dC_add hc1 hc2; have q2 := dC_self K; omega) (show s0 + dS I J + dS J K ≤ s0 + dS I K by have q1 := dC_add hc1 hc2; have q2 := dC_self K; omega) ?_
  exact kk H locs ls hH hlo (lv_sub hl [2, 3, 4, 5, 6] rfl)
set_option maxRecDepth 20000 in
set_option maxHeartbeats 4000000 in
theorem LC_34 {p : Program} {l : Launch} {e : Env} {s : State} {m : MethodId} {args : Array Value} {below : List Frame} {meth : Method} {c : Code} {H : Heap} {locs : List Loc} {c0 s0 : Nat} {Q : State → Prop} {ls : Array Slot} {Z : ZT} {I : Mem} {b0 L i : Nat} {xs : Nat → Int32} (b : BB p s m args c RL cL_law 9 Z) (hfl : l.stackTraces = false) (hX : va_X b0 L xs s s.heap) (hbl : b0 < s.heap.size) (hZ : zB Z = s.heap.size ∧ zH Z = s.heap) (hi : i + 6 ≤ L) (hL : L < 100000) (hH : HH Z I H) (hlo : ∀ q ∈ locs, zN Z q.base) (hl : lv_has ls 9 [(0, .ref b0), (1, vr Z 0 0), (2, vr Z 26 0), (3, vr Z 29 0), (4, vi (i : Int))]) {r1 : Int} {r2 : Int} {J K : Mem} (h1 : f_PR_report  I = some (r1, J)) (h2 : f_M_report  J = some (r2, K)) (hmc : c0 + dC I K ≤ 601024) (hms : s0 + dS I K ≤ 7293034)
    (kk : ∀ (H : Heap) (locs : List Loc) (ls : Array Slot), HH Z K H → (∀ q ∈ locs, zN Z q.base) → lv_has ls 9 [(0, .ref b0), (1, vr Z 0 0), (2, vr Z 26 0), (3, vr Z 29 0), (4, vi (i : Int))] → W p l e room_1 s m args below meth c H locs (c0 + dC I K) (s0 + dS I K) Q (F0 m 1238 ls [])) : W p l e room_1 s m args below meth c H locs c0 s0 Q (F0 m 1100 ls []) := by
  have hcK : cle J K := (R_M_report Z  J _ _ h2).1
  refine lv_aload_n b.1 b.2.1 dL_law_1100 rfl (lv_at hl 1 rfl) ?_
  have R1 := R_PR_report Z  I _ _ h1
  have hc1 : cle I J := R1.1
  refine lx_callV (n := 0) (As := []) (rest := []) b hfl hl.1 hH R1 ⟨(li_5 98 (by decide +kernel) (by decide +kernel)), (li_5 96 (by decide +kernel) (by decide +kernel)), (li_5 97 (by decide +kernel) (by decide +kernel)), (li_1 1 (by decide +kernel) (by decide +kernel)), by decide +kernel⟩ (fun gr => ob_0) rfl rfl ⟨Nat.le_of_ble_eq_true rfl, Nat.le_of_ble_eq_true rfl⟩ (Nat.le_of_ble_eq_true rfl) ⟨show c0 + dC I J ≤ 601024 by have q1 := dC_add hc1 hcK; have q2 := dC_self K; omega, show s0 + dS I J ≤ 7293034 by have q1 := dC_add hc1 hcK; have q2 := dC_self K; omega⟩ (li_5 95 (by decide +kernel) (by decide +kernel)) hlo dL_law_1101 (fun H locs hH hlo => ?_)
  refine lv_pop b.1 b.2.1 dL_law_1104 rfl ?_
  refine lv_aload_n b.1 b.2.1 dL_law_1105 rfl (lv_at hl 2 rfl) ?_
  have R2 := R_M_report Z  J _ _ h2
  have hc2 : cle J K := R2.1
  refine lx_callV (n := 0) (As := []) (rest := []) b hfl hl.1 hH R2 ⟨(li_9 209 (by decide +kernel) (by decide +kernel)), (li_9 207 (by decide +kernel) (by decide +kernel)), (li_9 208 (by decide +kernel) (by decide +kernel)), (li_1 16 (by decide +kernel) (by decide +kernel)), by decide +kernel⟩ (fun gr => ob_26) rfl rfl ⟨Nat.le_of_ble_eq_true rfl, Nat.le_of_ble_eq_true rfl⟩ (Nat.le_of_ble_eq_true rfl) ⟨show c0 + dC I J + dC J K ≤ 601024 by have q1 := dC_add hc1 hc2; have q2 := dC_self K; omega, show s0 + dS I J + dS J K ≤ 7293034 by have q1 := dC_add hc1 hc2; have q2 := dC_self K; omega⟩ (li_9 206 (by decide +kernel) (by decide +kernel)) hlo dL_law_1106 (fun H locs hH hlo => ?_)
  refine lv_pop b.1 b.2.1 dL_law_1109 rfl ?_
  refine lv_goto (tgt := 1238) b.1 b.2.1 dL_law_1110 (by decide) ?_
  refine W.widen (k := c0 + dC I K) (n := s0 + dS I K) (show c0 + dC I J + dC J K ≤ c0 + dC I K by have q1 := dC_add hc1 hc2; have q2 := dC_self K; omega) (show s0 + dS I J + dS J K ≤ s0 + dS I K by have q1 := dC_add hc1 hc2; have q2 := dC_self K; omega) ?_
  exact kk H locs ls hH hlo (lv_sub hl [0, 1, 2, 3, 4] rfl)
set_option maxRecDepth 20000 in
set_option maxHeartbeats 4000000 in
theorem LC_35 {p : Program} {l : Launch} {e : Env} {s : State} {m : MethodId} {args : Array Value} {below : List Frame} {meth : Method} {c : Code} {H : Heap} {locs : List Loc} {c0 s0 : Nat} {Q : State → Prop} {ls : Array Slot} {Z : ZT} {I : Mem} {b0 L i : Nat} {xs : Nat → Int32} (b : BB p s m args c RL cL_law 9 Z) (hfl : l.stackTraces = false) (hX : va_X b0 L xs s s.heap) (hbl : b0 < s.heap.size) (hZ : zB Z = s.heap.size ∧ zH Z = s.heap) (hi : i + 6 ≤ L) (hL : L < 100000) (hH : HH Z I H) (hlo : ∀ q ∈ locs, zN Z q.base) (hl : lv_has ls 9 [(0, .ref b0), (1, vr Z 0 0), (2, vr Z 26 0), (3, vr Z 29 0), (4, vi (i : Int))]) {r1 : Int} {r2 : Int} {J K : Mem} (h1 : f_PR_reportByte ((xs (i + 1)).toInt) I = some (r1, J)) (h2 : f_M_reportByte ((xs (i + 1)).toInt) J = some (r2, K)) (hmc : c0 + dC I K ≤ 601024) (hms : s0 + dS I K ≤ 7293034)
    (kk : ∀ (H : Heap) (locs : List Loc) (ls : Array Slot), HH Z K H → (∀ q ∈ locs, zN Z q.base) → lv_has ls 9 [(0, .ref b0), (1, vr Z 0 0), (2, vr Z 26 0), (3, vr Z 29 0), (4, vi (i : Int))] → W p l e room_1 s m args below meth c H locs (c0 + dC I K) (s0 + dS I K) Q (F0 m 1238 ls [])) : W p l e room_1 s m args below meth c H locs c0 s0 Q (F0 m 1113 ls []) := by
  have hcK : cle J K := (R_M_reportByte Z ((xs (i + 1)).toInt) J _ _ h2).1
  refine lv_aload_n b.1 b.2.1 dL_law_1113 rfl (lv_at hl 1 rfl) ?_
  refine lv_aload_n b.1 b.2.1 dL_law_1114 rfl (lv_at hl 0 rfl) ?_
  refine lv_iload b.1 b.2.1 dL_law_1115 (lv_at hl 4 rfl) ?_
  refine lv_iconst (v := Int32.ofInt 1) b.1 b.2.1 dL_law_1117 rfl ?_
  refine lx_iadd b dL_law_1118 ?_
  refine lx_sld (q := i + 1) b hX hbl hZ hH hlo (w32_of (by omega) (by omega)) (by omega) dL_law_1119 ?_
  have R1 := R_PR_reportByte Z ((xs (i + 1)).toInt) I _ _ h1
  have hc1 : cle I J := R1.1
  refine lx_callV (n := 1) (As := [vi (xs (i + 1)).toInt]) (rest := []) b hfl hl.1 hH R1 ⟨(li_5 129 (by decide +kernel) (by decide +kernel)), (li_5 127 (by decide +kernel) (by decide +kernel)), (li_5 128 (by decide +kernel) (by decide +kernel)), (li_1 1 (by decide +kernel) (by decide +kernel)), by decide +kernel⟩ (fun gr => ob_0) rfl rfl ⟨Nat.le_of_ble_eq_true rfl, Nat.le_of_ble_eq_true rfl⟩ (Nat.le_of_ble_eq_true rfl) ⟨show c0 + dC I J ≤ 601024 by have q1 := dC_add hc1 hcK; have q2 := dC_self K; omega, show s0 + dS I J ≤ 7293034 by have q1 := dC_add hc1 hcK; have q2 := dC_self K; omega⟩ (li_5 126 (by decide +kernel) (by decide +kernel)) hlo dL_law_1120 (fun H locs hH hlo => ?_)
  refine lv_pop b.1 b.2.1 dL_law_1123 rfl ?_
  refine lv_aload_n b.1 b.2.1 dL_law_1124 rfl (lv_at hl 2 rfl) ?_
  refine lv_aload_n b.1 b.2.1 dL_law_1125 rfl (lv_at hl 0 rfl) ?_
  refine lv_iload b.1 b.2.1 dL_law_1126 (lv_at hl 4 rfl) ?_
  refine lv_iconst (v := Int32.ofInt 1) b.1 b.2.1 dL_law_1128 rfl ?_
  refine lx_iadd b dL_law_1129 ?_
  refine lx_sld (q := i + 1) b hX hbl hZ hH hlo (w32_of (by omega) (by omega)) (by omega) dL_law_1130 ?_
  have R2 := R_M_reportByte Z ((xs (i + 1)).toInt) J _ _ h2
  have hc2 : cle J K := R2.1
  refine lx_callV (n := 1) (As := [vi (xs (i + 1)).toInt]) (rest := []) b hfl hl.1 hH R2 ⟨(li_9 225 (by decide +kernel) (by decide +kernel)), (li_9 223 (by decide +kernel) (by decide +kernel)), (li_9 224 (by decide +kernel) (by decide +kernel)), (li_1 16 (by decide +kernel) (by decide +kernel)), by decide +kernel⟩ (fun gr => ob_26) rfl rfl ⟨Nat.le_of_ble_eq_true rfl, Nat.le_of_ble_eq_true rfl⟩ (Nat.le_of_ble_eq_true rfl) ⟨show c0 + dC I J + dC J K ≤ 601024 by have q1 := dC_add hc1 hc2; have q2 := dC_self K; omega, show s0 + dS I J + dS J K ≤ 7293034 by have q1 := dC_add hc1 hc2; have q2 := dC_self K; omega⟩ (li_9 222 (by decide +kernel) (by decide +kernel)) hlo dL_law_1131 (fun H locs hH hlo => ?_)
  refine lv_pop b.1 b.2.1 dL_law_1134 rfl ?_
  refine lv_goto (tgt := 1238) b.1 b.2.1 dL_law_1135 (by decide) ?_
  refine W.widen (k := c0 + dC I K) (n := s0 + dS I K) (show c0 + dC I J + dC J K ≤ c0 + dC I K by have q1 := dC_add hc1 hc2; have q2 := dC_self K; omega) (show s0 + dS I J + dS J K ≤ s0 + dS I K by have q1 := dC_add hc1 hc2; have q2 := dC_self K; omega) ?_
  exact kk H locs ls hH hlo (lv_sub hl [0, 1, 2, 3, 4] rfl)
set_option maxRecDepth 20000 in
set_option maxHeartbeats 4000000 in
theorem LC_36 {p : Program} {l : Launch} {e : Env} {s : State} {m : MethodId} {args : Array Value} {below : List Frame} {meth : Method} {c : Code} {H : Heap} {locs : List Loc} {c0 s0 : Nat} {Q : State → Prop} {ls : Array Slot} {Z : ZT} {I : Mem} {b0 L i : Nat} {xs : Nat → Int32} (b : BB p s m args c RL cL_law 9 Z) (hfl : l.stackTraces = false) (hX : va_X b0 L xs s s.heap) (hbl : b0 < s.heap.size) (hZ : zB Z = s.heap.size ∧ zH Z = s.heap) (hi : i + 6 ≤ L) (hL : L < 100000) (hH : HH Z I H) (hlo : ∀ q ∈ locs, zN Z q.base) (hl : lv_has ls 9 [(0, .ref b0), (1, vr Z 0 0), (2, vr Z 26 0), (3, vr Z 29 0), (4, vi (i : Int))]) {r1 : Int} {r2 : Int} {J K : Mem} (h1 : f_L_undo  I = some (r1, J)) (h2 : f_M_undo  J = some (r2, K)) (hmc : c0 + dC I K ≤ 601024) (hms : s0 + dS I K ≤ 7293034)
    (kk : ∀ (H : Heap) (locs : List Loc) (ls : Array Slot), HH Z K H → (∀ q ∈ locs, zN Z q.base) → lv_has ls 9 [(0, .ref b0), (1, vr Z 0 0), (2, vr Z 26 0), (3, vr Z 29 0), (4, vi (i : Int))] → W p l e room_1 s m args below meth c H locs (c0 + dC I K) (s0 + dS I K) Q (F0 m 1238 ls [])) : W p l e room_1 s m args below meth c H locs c0 s0 Q (F0 m 1138 ls []) := by
  have hcK : cle J K := (R_M_undo Z  J _ _ h2).1
  refine lv_aload_n b.1 b.2.1 dL_law_1138 rfl (lv_at hl 1 rfl) ?_
  refine lv_aload_n b.1 b.2.1 dL_law_1139 rfl (lv_at hl 3 rfl) ?_
  have R1 := R_L_undo Z  I _ _ h1
  have hc1 : cle I J := R1.1
  refine lx_callS (n := 2) (As := [vr Z 0 0, vr Z 29 0]) (rest := []) b hfl hl.1 hH R1 (li_6 194 (by decide +kernel) (by decide +kernel)) (li_6 193 (by decide +kernel) (by decide +kernel)) (li_1 0 (by decide +kernel) (by decide +kernel)) (by decide +kernel) rfl rfl ⟨Nat.le_of_ble_eq_true rfl, Nat.le_of_ble_eq_true rfl⟩ (Nat.le_of_ble_eq_true rfl) ⟨show c0 + dC I J ≤ 601024 by have q1 := dC_add hc1 hcK; have q2 := dC_self K; omega, show s0 + dS I J ≤ 7293034 by have q1 := dC_add hc1 hcK; have q2 := dC_self K; omega⟩ (li_6 192 (by decide +kernel) (by decide +kernel)) hlo dL_law_1140 (fun H locs hH hlo => ?_)
  refine lv_istore (lv' := [(5, vi r1), (0, .ref b0), (1, vr Z 0 0), (2, vr Z 26 0), (3, vr Z 29 0), (4, vi (i : Int))]) b.1 b.2.1 dL_law_1143 hl (by decide) rfl (fun ls hl => ?_)
  refine lv_aload_n b.1 b.2.1 dL_law_1145 rfl (lv_at hl 3 rfl) ?_
  have R2 := R_M_undo Z  J _ _ h2
  have hc2 : cle J K := R2.1
  refine lx_callV (n := 0) (As := []) (rest := []) b hfl hl.1 hH R2 ⟨(li_9 229 (by decide +kernel) (by decide +kernel)), (li_9 227 (by decide +kernel) (by decide +kernel)), (li_9 228 (by decide +kernel) (by decide +kernel)), (li_1 16 (by decide +kernel) (by decide +kernel)), by decide +kernel⟩ (fun gr => ob_26) rfl rfl ⟨Nat.le_of_ble_eq_true rfl, Nat.le_of_ble_eq_true rfl⟩ (Nat.le_of_ble_eq_true rfl) ⟨show c0 + dC I J + dC J K ≤ 601024 by have q1 := dC_add hc1 hc2; have q2 := dC_self K; omega, show s0 + dS I J + dS J K ≤ 7293034 by have q1 := dC_add hc1 hc2; have q2 := dC_self K; omega⟩ (li_9 226 (by decide +kernel) (by decide +kernel)) hlo dL_law_1146 (fun H locs hH hlo => ?_)
  refine lv_istore (lv' := [(6, vi r2), (5, vi r1), (0, .ref b0), (1, vr Z 0 0), (2, vr Z 26 0), (3, vr Z 29 0), (4, vi (i : Int))]) b.1 b.2.1 dL_law_1149 hl (by decide) rfl (fun ls hl => ?_)
  refine lv_goto (tgt := 1238) b.1 b.2.1 dL_law_1151 (by decide) ?_
  refine W.widen (k := c0 + dC I K) (n := s0 + dS I K) (show c0 + dC I J + dC J K ≤ c0 + dC I K by have q1 := dC_add hc1 hc2; have q2 := dC_self K; omega) (show s0 + dS I J + dS J K ≤ s0 + dS I K by have q1 := dC_add hc1 hc2; have q2 := dC_self K; omega) ?_
  exact kk H locs ls hH hlo (lv_sub hl [2, 3, 4, 5, 6] rfl)
set_option maxRecDepth 20000 in
set_option maxHeartbeats 4000000 in
theorem LC_37 {p : Program} {l : Launch} {e : Env} {s : State} {m : MethodId} {args : Array Value} {below : List Frame} {meth : Method} {c : Code} {H : Heap} {locs : List Loc} {c0 s0 : Nat} {Q : State → Prop} {ls : Array Slot} {Z : ZT} {I : Mem} {b0 L i : Nat} {xs : Nat → Int32} (b : BB p s m args c RL cL_law 9 Z) (hfl : l.stackTraces = false) (hX : va_X b0 L xs s s.heap) (hbl : b0 < s.heap.size) (hZ : zB Z = s.heap.size ∧ zH Z = s.heap) (hi : i + 6 ≤ L) (hL : L < 100000) (hH : HH Z I H) (hlo : ∀ q ∈ locs, zN Z q.base) (hl : lv_has ls 9 [(0, .ref b0), (1, vr Z 0 0), (2, vr Z 26 0), (3, vr Z 29 0), (4, vi (i : Int))]) {r1 : Int} {r2 : Int} {J K : Mem} (h1 : f_L_save ((xs (i + 1)).toInt) I = some (r1, J)) (h2 : f_M_save ((xs (i + 1)).toInt) J = some (r2, K)) (hmc : c0 + dC I K ≤ 601024) (hms : s0 + dS I K ≤ 7293034)
    (kk : ∀ (H : Heap) (locs : List Loc) (ls : Array Slot), HH Z K H → (∀ q ∈ locs, zN Z q.base) → lv_has ls 9 [(0, .ref b0), (1, vr Z 0 0), (2, vr Z 26 0), (3, vr Z 29 0), (4, vi (i : Int))] → W p l e room_1 s m args below meth c H locs (c0 + dC I K) (s0 + dS I K) Q (F0 m 1238 ls [])) : W p l e room_1 s m args below meth c H locs c0 s0 Q (F0 m 1154 ls []) := by
  have hcK : cle J K := (R_M_save Z ((xs (i + 1)).toInt) J _ _ h2).1
  refine lv_aload_n b.1 b.2.1 dL_law_1154 rfl (lv_at hl 1 rfl) ?_
  refine lv_aload_n b.1 b.2.1 dL_law_1155 rfl (lv_at hl 0 rfl) ?_
  refine lv_iload b.1 b.2.1 dL_law_1156 (lv_at hl 4 rfl) ?_
  refine lv_iconst (v := Int32.ofInt 1) b.1 b.2.1 dL_law_1158 rfl ?_
  refine lx_iadd b dL_law_1159 ?_
  refine lx_sld (q := i + 1) b hX hbl hZ hH hlo (w32_of (by omega) (by omega)) (by omega) dL_law_1160 ?_
  refine lv_aload_n b.1 b.2.1 dL_law_1161 rfl (lv_at hl 3 rfl) ?_
  have R1 := R_L_save Z ((xs (i + 1)).toInt) I _ _ h1
  have hc1 : cle I J := R1.1
  refine lx_callS (n := 3) (As := [vr Z 0 0, vi (xs (i + 1)).toInt, vr Z 29 0]) (rest := []) b hfl hl.1 hH R1 (li_6 221 (by decide +kernel) (by decide +kernel)) (li_6 220 (by decide +kernel) (by decide +kernel)) (li_1 0 (by decide +kernel) (by decide +kernel)) (by decide +kernel) rfl rfl ⟨Nat.le_of_ble_eq_true rfl, Nat.le_of_ble_eq_true rfl⟩ (Nat.le_of_ble_eq_true rfl) ⟨show c0 + dC I J ≤ 601024 by have q1 := dC_add hc1 hcK; have q2 := dC_self K; omega, show s0 + dS I J ≤ 7293034 by have q1 := dC_add hc1 hcK; have q2 := dC_self K; omega⟩ (li_6 219 (by decide +kernel) (by decide +kernel)) hlo dL_law_1162 (fun H locs hH hlo => ?_)
  refine lv_istore (lv' := [(5, vi r1), (0, .ref b0), (1, vr Z 0 0), (2, vr Z 26 0), (3, vr Z 29 0), (4, vi (i : Int))]) b.1 b.2.1 dL_law_1165 hl (by decide) rfl (fun ls hl => ?_)
  refine lv_aload_n b.1 b.2.1 dL_law_1167 rfl (lv_at hl 3 rfl) ?_
  refine lv_aload_n b.1 b.2.1 dL_law_1168 rfl (lv_at hl 1 rfl) ?_
  refine lv_iload b.1 b.2.1 dL_law_1169 (lv_at hl 5 rfl) ?_
  refine lv_iconst (v := Int32.ofInt 1) b.1 b.2.1 dL_law_1171 rfl ?_
  refine lx_iadd b dL_law_1172 ?_
  refine lx_sld (q := i + 1) b hX hbl hZ hH hlo (w32_of (by omega) (by omega)) (by omega) dL_law_1173 ?_
  have R2 := R_M_save Z ((xs (i + 1)).toInt) J _ _ h2
  have hc2 : cle J K := R2.1
  refine lx_callV (n := 1) (As := [vi (xs (i + 1)).toInt]) (rest := []) b hfl hl.1 hH R2 ⟨(li_9 233 (by decide +kernel) (by decide +kernel)), (li_9 231 (by decide +kernel) (by decide +kernel)), (li_9 232 (by decide +kernel) (by decide +kernel)), (li_1 16 (by decide +kernel) (by decide +kernel)), by decide +kernel⟩ (fun gr => ob_26) rfl rfl ⟨Nat.le_of_ble_eq_true rfl, Nat.le_of_ble_eq_true rfl⟩ (Nat.le_of_ble_eq_true rfl) ⟨show c0 + dC I J + dC J K ≤ 601024 by have q1 := dC_add hc1 hc2; have q2 := dC_self K; omega, show s0 + dS I J + dS J K ≤ 7293034 by have q1 := dC_add hc1 hc2; have q2 := dC_self K; omega⟩ (li_9 230 (by decide +kernel) (by decide +kernel)) hlo dL_law_1174 (fun H locs hH hlo => ?_)
  refine lv_istore (lv' := [(6, vi r2), (5, vi r1), (0, .ref b0), (1, vr Z 0 0), (2, vr Z 26 0), (3, vr Z 29 0), (4, vi (i : Int))]) b.1 b.2.1 dL_law_1177 hl (by decide) rfl (fun ls hl => ?_)
  refine lv_goto (tgt := 1238) b.1 b.2.1 dL_law_1179 (by decide) ?_
  refine W.widen (k := c0 + dC I K) (n := s0 + dS I K) (show c0 + dC I J + dC J K ≤ c0 + dC I K by have q1 := dC_add hc1 hc2; have q2 := dC_self K; omega) (show s0 + dS I J + dS J K ≤ s0 + dS I K by have q1 := dC_add hc1 hc2; have q2 := dC_self K; omega) ?_
  exact kk H locs ls hH hlo (lv_sub hl [2, 3, 4, 5, 6] rfl)
set_option maxRecDepth 20000 in
set_option maxHeartbeats 4000000 in
theorem LC_38 {p : Program} {l : Launch} {e : Env} {s : State} {m : MethodId} {args : Array Value} {below : List Frame} {meth : Method} {c : Code} {H : Heap} {locs : List Loc} {c0 s0 : Nat} {Q : State → Prop} {ls : Array Slot} {Z : ZT} {I : Mem} {b0 L i : Nat} {xs : Nat → Int32} (b : BB p s m args c RL cL_law 9 Z) (hfl : l.stackTraces = false) (hX : va_X b0 L xs s s.heap) (hbl : b0 < s.heap.size) (hZ : zB Z = s.heap.size ∧ zH Z = s.heap) (hi : i + 6 ≤ L) (hL : L < 100000) (hH : HH Z I H) (hlo : ∀ q ∈ locs, zN Z q.base) (hl : lv_has ls 9 [(0, .ref b0), (1, vr Z 0 0), (2, vr Z 26 0), (3, vr Z 29 0), (4, vi (i : Int))]) {r1 : Int} {r2 : Int} {J K : Mem} (h1 : f_L_restore ((xs (i + 1)).toInt) I = some (r1, J)) (h2 : f_M_restore ((xs (i + 1)).toInt) J = some (r2, K)) (h3 : w32 (K 26 0 7) = w32 r1) (h4 : w32 r1 = 0 → w64 (K 29 0 0) = w64 (w32 r2)) (hmc : c0 + dC I K ≤ 601024) (hms : s0 + dS I K ≤ 7293034)
    (kk : ∀ (H : Heap) (locs : List Loc) (ls : Array Slot), HH Z K H → (∀ q ∈ locs, zN Z q.base) → lv_has ls 9 [(0, .ref b0), (1, vr Z 0 0), (2, vr Z 26 0), (3, vr Z 29 0), (4, vi (i : Int))] → W p l e room_1 s m args below meth c H locs (c0 + dC I K) (s0 + dS I K) Q (F0 m 1238 ls [])) : W p l e room_1 s m args below meth c H locs c0 s0 Q (F0 m 1182 ls []) := by
  have hcK : cle J K := (R_M_restore Z ((xs (i + 1)).toInt) J _ _ h2).1
  refine lv_aload_n b.1 b.2.1 dL_law_1182 rfl (lv_at hl 1 rfl) ?_
  refine lv_aload_n b.1 b.2.1 dL_law_1183 rfl (lv_at hl 0 rfl) ?_
  refine lv_iload b.1 b.2.1 dL_law_1184 (lv_at hl 4 rfl) ?_
  refine lv_iconst (v := Int32.ofInt 1) b.1 b.2.1 dL_law_1186 rfl ?_
  refine lx_iadd b dL_law_1187 ?_
  refine lx_sld (q := i + 1) b hX hbl hZ hH hlo (w32_of (by omega) (by omega)) (by omega) dL_law_1188 ?_
  refine lv_aload_n b.1 b.2.1 dL_law_1189 rfl (lv_at hl 3 rfl) ?_
  have R1 := R_L_restore Z ((xs (i + 1)).toInt) I _ _ h1
  have hc1 : cle I J := R1.1
  refine lx_callS (n := 3) (As := [vr Z 0 0, vi (xs (i + 1)).toInt, vr Z 29 0]) (rest := []) b hfl hl.1 hH R1 (li_6 232 (by decide +kernel) (by decide +kernel)) (li_6 231 (by decide +kernel) (by decide +kernel)) (li_1 0 (by decide +kernel) (by decide +kernel)) (by decide +kernel) rfl rfl ⟨Nat.le_of_ble_eq_true rfl, Nat.le_of_ble_eq_true rfl⟩ (Nat.le_of_ble_eq_true rfl) ⟨show c0 + dC I J ≤ 601024 by have q1 := dC_add hc1 hcK; have q2 := dC_self K; omega, show s0 + dS I J ≤ 7293034 by have q1 := dC_add hc1 hcK; have q2 := dC_self K; omega⟩ (li_6 230 (by decide +kernel) (by decide +kernel)) hlo dL_law_1190 (fun H locs hH hlo => ?_)
  refine lv_istore (lv' := [(5, vi r1), (0, .ref b0), (1, vr Z 0 0), (2, vr Z 26 0), (3, vr Z 29 0), (4, vi (i : Int))]) b.1 b.2.1 dL_law_1193 hl (by decide) rfl (fun ls hl => ?_)
  refine lv_aload_n b.1 b.2.1 dL_law_1195 rfl (lv_at hl 3 rfl) ?_
  refine lv_aload_n b.1 b.2.1 dL_law_1196 rfl (lv_at hl 1 rfl) ?_
  refine lv_iload b.1 b.2.1 dL_law_1197 (lv_at hl 5 rfl) ?_
  refine lv_iconst (v := Int32.ofInt 1) b.1 b.2.1 dL_law_1199 rfl ?_
  refine lx_iadd b dL_law_1200 ?_
  refine lx_sld (q := i + 1) b hX hbl hZ hH hlo (w32_of (by omega) (by omega)) (by omega) dL_law_1201 ?_
  have R2 := R_M_restore Z ((xs (i + 1)).toInt) J _ _ h2
  have hc2 : cle J K := R2.1
  refine lx_callV (n := 1) (As := [vi (xs (i + 1)).toInt]) (rest := []) b hfl hl.1 hH R2 ⟨(li_10 1 (by decide +kernel) (by decide +kernel)), (li_9 239 (by decide +kernel) (by decide +kernel)), (li_10 0 (by decide +kernel) (by decide +kernel)), (li_1 16 (by decide +kernel) (by decide +kernel)), by decide +kernel⟩ (fun gr => ob_26) rfl rfl ⟨Nat.le_of_ble_eq_true rfl, Nat.le_of_ble_eq_true rfl⟩ (Nat.le_of_ble_eq_true rfl) ⟨show c0 + dC I J + dC J K ≤ 601024 by have q1 := dC_add hc1 hc2; have q2 := dC_self K; omega, show s0 + dS I J + dS J K ≤ 7293034 by have q1 := dC_add hc1 hc2; have q2 := dC_self K; omega⟩ (li_9 238 (by decide +kernel) (by decide +kernel)) hlo dL_law_1202 (fun H locs hH hlo => ?_)
  refine lv_istore (lv' := [(6, vi r2), (5, vi r1), (0, .ref b0), (1, vr Z 0 0), (2, vr Z 26 0), (3, vr Z 29 0), (4, vi (i : Int))]) b.1 b.2.1 dL_law_1205 hl (by decide) rfl (fun ls hl => ?_)
  refine lv_aload_n b.1 b.2.1 dL_law_1207 rfl (lv_at hl 4 rfl) ?_
  have R3 := R_M_thrown Z K _ _ (rfl : f_M_thrown K = some (K 26 0 7, K))
  refine lx_callV (n := 0) (As := []) (rest := []) b hfl hl.1 hH R3 ⟨(li_7 190 (by decide +kernel) (by decide +kernel)), (li_7 188 (by decide +kernel) (by decide +kernel)), (li_7 189 (by decide +kernel) (by decide +kernel)), (li_1 16 (by decide +kernel) (by decide +kernel)), by decide +kernel⟩ (fun gr => ob_26) rfl rfl ⟨Nat.le_of_ble_eq_true rfl, Nat.le_of_ble_eq_true rfl⟩ (Nat.le_of_ble_eq_true rfl) ⟨show c0 + dC I J + dC J K + dC K K ≤ 601024 by have q1 := dC_add hc1 hc2; have q2 := dC_self K; omega, show s0 + dS I J + dS J K + dS K K ≤ 7293034 by have q1 := dC_add hc1 hc2; have q2 := dC_self K; omega⟩ (li_7 187 (by decide +kernel) (by decide +kernel)) hlo dL_law_1208 (fun H locs hH hlo => ?_)
  refine lv_iload b.1 b.2.1 dL_law_1211 (lv_at hl 1 rfl) ?_
  refine lx_eq (tgt := 1218) b h3 dL_law_1213 (by decide) ?_
  refine lv_iload b.1 b.2.1 dL_law_1218 (lv_at hl 1 rfl) ?_
  refine lx_ifne (tgt := 1235) b dL_law_1220 (by decide) (fun z1 => ?_) (fun z1 => ?_)
  · skip
    refine lv_goto (tgt := 1238) b.1 b.2.1 dL_law_1235 (by decide) ?_
    refine W.widen (k := c0 + dC I K) (n := s0 + dS I K) (show c0 + dC I J + dC J K + dC K K ≤ c0 + dC I K by have q1 := dC_add hc1 hc2; have q2 := dC_self K; omega) (show s0 + dS I J + dS J K + dS K K ≤ s0 + dS I K by have q1 := dC_add hc1 hc2; have q2 := dC_self K; omega) ?_
    exact kk H locs ls hH hlo (lv_sub hl [2, 3, 4, 5, 6] rfl)
  · skip
    refine lv_aload_n b.1 b.2.1 dL_law_1223 rfl (lv_at hl 5 rfl) ?_
    refine lv_iconst (v := Int32.ofInt 0) b.1 b.2.1 dL_law_1224 rfl ?_
    refine lx_lald b hH dL_law_1225 ?_
    refine lv_iload b.1 b.2.1 dL_law_1226 (lv_at hl 0 rfl) ?_
    refine lx_i2l b dL_law_1228 ?_
    refine lx_lcmp b (h4 z1) dL_law_1229 ?_
    refine lx_ifeq (x := 0) (tgt := 1235) b dL_law_1230 (by decide) (fun _ => ?_) (fun z => absurd (by decide) z)
    refine lv_goto (tgt := 1238) b.1 b.2.1 dL_law_1235 (by decide) ?_
    refine W.widen (k := c0 + dC I K) (n := s0 + dS I K) (show c0 + dC I J + dC J K + dC K K ≤ c0 + dC I K by have q1 := dC_add hc1 hc2; have q2 := dC_self K; omega) (show s0 + dS I J + dS J K + dS K K ≤ s0 + dS I K by have q1 := dC_add hc1 hc2; have q2 := dC_self K; omega) ?_
    exact kk H locs ls hH hlo (lv_sub hl [2, 3, 4, 5, 6] rfl)
end
section
/-! ===== by program out of 56 ===== -/
section LAWR
variable {p : Program} {l : Launch} {e : Env} {R : Room} {s : State} {m : MethodId} {args : Array Value} {below : List Frame} {meth : Method} {c : Code} {H : Heap} {locs : List Loc} {cells slots : Nat} {Q : State → Prop} {cc : ByteArray} {pc nL : Nat} {ls : Array Slot} {rest st : List Value} {own : String} {Z : ZT} {I : Mem}
theorem lx_callV_a {y' : MethodName} {cc' : ByteArray} {maxL' h' n index a : Nat} {ret' : Option FieldType} {As : List Value} {o1 : OV} (b : BB p s m args c own cc nL Z) (hfl : l.stackTraces = false) (hl : ls.size = nL) (hH : HH_a Z I H) (hr : Runs_a Z y' cc' maxL' ret' h' (.ref a :: As) I o1) (hM : MwV y' cc' maxL' ret' n) (hO : ∀ gr : Nat → Nat, Ob_a Z gr I a y'.cls) (hn : As.length = n) (hst : st = As.reverse ++ .ref a :: rest) (hR : h' + 1 ≤ R.frames ∧ 8 + (maxL' + 11) + 35 * h' ≤ R.locals) (hw : (rest.map fun v => v.category).sum ≤ 8) (hf : cells + dC I o1.2 ≤ R.cells ∧ slots + dS I o1.2 ≤ R.slots)
    (hlink : Cond.methodLink own index y' ∈ lw_good) (hlo : ∀ q ∈ locs, zN Z q.base) (d : decode cc pc = .ok (.invokevirtual index, 3))
    (kk : ∀ (H1 : Heap) (locs1 : List Loc), HH_a Z o1.2 H1 → (∀ q ∈ locs1, zN Z q.base) → W p l e R s m args below meth c H1 locs1 (cells + dC I o1.2) (slots + dS I o1.2) Q (F0 m (pc + 3) ls (o1.1.toList ++ rest))) : W p l e R s m args below meth c H locs cells slots Q (F0 m pc ls st) := by
  obtain ⟨gr, hH⟩ := hH
  obtain ⟨hx, hb, hown, hts, hK, hml⟩ := b
  obtain ⟨hcode, hinst, hsel, hini, hd⟩ := hM
  obtain ⟨k, i, ci, N, T0, fs, he, hi, ha, hc⟩ := hO gr
  have hat := hH.at hi
  rw [he, ha] at hat
  have hrecv := va_recv (q0 := 0) hK.1.1 (va_P1 hat) hc rfl
  have hG : GoodIn lw_good (wsV own index y'.cls y' (wsAll y' cc' maxL' ret')) := by
    intro w hw
    rcases List.mem_append.mp hw with hw | hw
    · have hm : w ∈ lw_good := by
        simp only [List.mem_cons, List.mem_nil_iff, or_false] at hw
        rcases hw with rfl | rfl | rfl | rfl <;> assumption
      exact ⟨hm, good_of_word (List.mem_filter.mp hm).2⟩
    · exact goodAll hcode w hw
  exact call_go_a (va_runV (cc := cc) (nL := nL) (Ts := lw_good) (own := own) (As := As) (n := n) ⟨hx, hb, hml, hown, hts⟩ (hr.2 l hfl) (cwV n hts hG rfl rfl rfl ⟨rfl, hd⟩ hR) ⟨fb_Pcz_a, hrecv, fun U hU hW => ⟨rfl, ⟨gr, by rw [hU]; exact hH⟩, hK.1.warm hW⟩⟩ rfl hn hl hst (lv_room hw) d hf) hlo kk
end LAWR

section LAWR
variable {p : Program} {l : Launch} {e : Env} {R : Room} {s : State} {m : MethodId} {args : Array Value} {below : List Frame} {meth : Method} {c : Code} {H : Heap} {locs : List Loc} {cells slots : Nat} {Q : State → Prop} {cc : ByteArray} {pc nL : Nat} {ls : Array Slot} {rest st : List Value} {own : String} {Z : ZT} {I : Mem}
theorem lx_callV_b {y' : MethodName} {cc' : ByteArray} {maxL' h' n index a : Nat} {ret' : Option FieldType} {As : List Value} {o1 : OV} (b : BB p s m args c own cc nL Z) (hfl : l.stackTraces = false) (hl : ls.size = nL) (hH : HH_b Z I H) (hr : Runs_b Z y' cc' maxL' ret' h' (.ref a :: As) I o1) (hM : MwV y' cc' maxL' ret' n) (hO : ∀ gr : Nat → Nat, Ob_b Z gr I a y'.cls) (hn : As.length = n) (hst : st = As.reverse ++ .ref a :: rest) (hR : h' + 1 ≤ R.frames ∧ 8 + (maxL' + 11) + 35 * h' ≤ R.locals) (hw : (rest.map fun v => v.category).sum ≤ 8) (hf : cells + dC I o1.2 ≤ R.cells ∧ slots + dS I o1.2 ≤ R.slots)
    (hlink : Cond.methodLink own index y' ∈ lw_good) (hlo : ∀ q ∈ locs, zN Z q.base) (d : decode cc pc = .ok (.invokevirtual index, 3))
    (kk : ∀ (H1 : Heap) (locs1 : List Loc), HH_b Z o1.2 H1 → (∀ q ∈ locs1, zN Z q.base) → W p l e R s m args below meth c H1 locs1 (cells + dC I o1.2) (slots + dS I o1.2) Q (F0 m (pc + 3) ls (o1.1.toList ++ rest))) : W p l e R s m args below meth c H locs cells slots Q (F0 m pc ls st) := by
  obtain ⟨gr, hH⟩ := hH
  obtain ⟨hx, hb, hown, hts, hK, hml⟩ := b
  obtain ⟨hcode, hinst, hsel, hini, hd⟩ := hM
  obtain ⟨k, i, ci, N, T0, fs, he, hi, ha, hc⟩ := hO gr
  have hat := hH.at hi
  rw [he, ha] at hat
  have hrecv := va_recv (q0 := 0) hK.1.1 (va_P1 hat) hc rfl
  have hG : GoodIn lw_good (wsV own index y'.cls y' (wsAll y' cc' maxL' ret')) := by
    intro w hw
    rcases List.mem_append.mp hw with hw | hw
    · have hm : w ∈ lw_good := by
        simp only [List.mem_cons, List.mem_nil_iff, or_false] at hw
        rcases hw with rfl | rfl | rfl | rfl <;> assumption
      exact ⟨hm, good_of_word (List.mem_filter.mp hm).2⟩
    · exact goodAll hcode w hw
  exact call_go_b (va_runV (cc := cc) (nL := nL) (Ts := lw_good) (own := own) (As := As) (n := n) ⟨hx, hb, hml, hown, hts⟩ (hr.2 l hfl) (cwV n hts hG rfl rfl rfl ⟨rfl, hd⟩ hR) ⟨fb_Pcz_b, hrecv, fun U hU hW => ⟨rfl, ⟨gr, by rw [hU]; exact hH⟩, hK.1.warm hW⟩⟩ rfl hn hl hst (lv_room hw) d hf) hlo kk
end LAWR
end
section
/-! ===== the two constructors, whole ===== -/
section E13
variable {Z : ZT} {B : Nat} {E : Nat → va_E}
theorem E13_0 : E_RX13 Z B E 0 = .inr (11, [.ref (B + 1), .ref (B + 2), .ref (B + 3), .ref (B + 4), .ref (B + 5), .ref (B + 6), vi 0, vi 0, .ref (B + 7), .ref (B + 8), vi 0, .ref (B + 9), .ref (B + 10), .ref (B + 11), .ref (B + 12), .ref (B + 13), .ref (B + 14), .ref (B + 15), vi 0, .ref (B + 16), vi 0, vi 0, vi 0, vi 0, vi 0, vi 0, vi 0, vi (-1), vi 0, vi 0, vi 0, vi 0, .ref (B + 17), .ref (B + 18), .ref (B + 19), .ref (B + 20), .ref (B + 21), .ref (B + 22), vi 0, vi 0, vi 0, .ref (B + 23), .ref (B + 24), vi 0]) := by
  unfold E_RX13
  repeat (first | rw [uE_ne (by omega)] | rw [uE_eq (by omega)])
theorem E13_1 : E_RX13 Z B E 1 = arI (zC Z 0) 16860 (fun _ => 0) := by
  unfold E_RX13
  repeat (first | rw [uE_ne (by omega)] | rw [uE_eq (by omega)])
theorem E13_2 : E_RX13 Z B E 2 = arI (zC Z 0) 16860 (fun _ => 0) := by
  unfold E_RX13
  repeat (first | rw [uE_ne (by omega)] | rw [uE_eq (by omega)])
theorem E13_3 : E_RX13 Z B E 3 = arI (zC Z 0) 16860 (fun _ => 0) := by
  unfold E_RX13
  repeat (first | rw [uE_ne (by omega)] | rw [uE_eq (by omega)])
theorem E13_4 : E_RX13 Z B E 4 = arI (zC Z 0) 134880 (fun _ => 0) := by
  unfold E_RX13
  repeat (first | rw [uE_ne (by omega)] | rw [uE_eq (by omega)])
theorem E13_5 : E_RX13 Z B E 5 = arI (zC Z 0) 33720 (fun _ => 0) := by
  unfold E_RX13
  repeat (first | rw [uE_ne (by omega)] | rw [uE_eq (by omega)])
theorem E13_6 : E_RX13 Z B E 6 = arI (zC Z 1) 2 (fun _ => 0) := by
  unfold E_RX13
  repeat (first | rw [uE_ne (by omega)] | rw [uE_eq (by omega)])
theorem E13_7 : E_RX13 Z B E 7 = arI (zC Z 0) 66 (fun _ => 0) := by
  unfold E_RX13
  repeat (first | rw [uE_ne (by omega)] | rw [uE_eq (by omega)])
theorem E13_8 : E_RX13 Z B E 8 = arI (zC Z 0) 66 (fun _ => 0) := by
  unfold E_RX13
  repeat (first | rw [uE_ne (by omega)] | rw [uE_eq (by omega)])
theorem E13_9 : E_RX13 Z B E 9 = arI (zC Z 0) 401 (fun _ => 0) := by
  unfold E_RX13
  repeat (first | rw [uE_ne (by omega)] | rw [uE_eq (by omega)])
theorem E13_10 : E_RX13 Z B E 10 = arI (zC Z 0) 401 (fun _ => 0) := by
  unfold E_RX13
  repeat (first | rw [uE_ne (by omega)] | rw [uE_eq (by omega)])
theorem E13_11 : E_RX13 Z B E 11 = arI (zC Z 0) 42 (fun _ => 0) := by
  unfold E_RX13
  repeat (first | rw [uE_ne (by omega)] | rw [uE_eq (by omega)])
theorem E13_12 : E_RX13 Z B E 12 = arI (zC Z 0) 42 (fun _ => 0) := by
  unfold E_RX13
  repeat (first | rw [uE_ne (by omega)] | rw [uE_eq (by omega)])
theorem E13_13 : E_RX13 Z B E 13 = arI (zC Z 0) 4356 (fun _ => 0) := by
  unfold E_RX13
  repeat (first | rw [uE_ne (by omega)] | rw [uE_eq (by omega)])
theorem E13_14 : E_RX13 Z B E 14 = arI (zC Z 0) 4356 (fun _ => 0) := by
  unfold E_RX13
  repeat (first | rw [uE_ne (by omega)] | rw [uE_eq (by omega)])
theorem E13_15 : E_RX13 Z B E 15 = arI (zC Z 0) 4356 (fun _ => 0) := by
  unfold E_RX13
  repeat (first | rw [uE_ne (by omega)] | rw [uE_eq (by omega)])
theorem E13_16 : E_RX13 Z B E 16 = arI (zC Z 0) 600 (fun _ => 0) := by
  unfold E_RX13
  repeat (first | rw [uE_ne (by omega)] | rw [uE_eq (by omega)])
theorem E13_17 : E_RX13 Z B E 17 = arI (zC Z 0) 64 (fun _ => 0) := by
  unfold E_RX13
  repeat (first | rw [uE_ne (by omega)] | rw [uE_eq (by omega)])
theorem E13_18 : E_RX13 Z B E 18 = arI (zC Z 0) 64 (fun _ => 0) := by
  unfold E_RX13
  repeat (first | rw [uE_ne (by omega)] | rw [uE_eq (by omega)])
theorem E13_19 : E_RX13 Z B E 19 = arI (zC Z 0) 64 (fun _ => 0) := by
  unfold E_RX13
  repeat (first | rw [uE_ne (by omega)] | rw [uE_eq (by omega)])
theorem E13_20 : E_RX13 Z B E 20 = arI (zC Z 0) 64 (fun _ => 0) := by
  unfold E_RX13
  repeat (first | rw [uE_ne (by omega)] | rw [uE_eq (by omega)])
theorem E13_21 : E_RX13 Z B E 21 = arI (zC Z 0) 2 (fun _ => 0) := by
  unfold E_RX13
  repeat (first | rw [uE_ne (by omega)] | rw [uE_eq (by omega)])
theorem E13_22 : E_RX13 Z B E 22 = arI (zC Z 0) 2 (fun _ => 0) := by
  unfold E_RX13
  repeat (first | rw [uE_ne (by omega)] | rw [uE_eq (by omega)])
theorem E13_23 : E_RX13 Z B E 23 = arI (zC Z 0) 66 (fun _ => 0) := by
  unfold E_RX13
  repeat (first | rw [uE_ne (by omega)] | rw [uE_eq (by omega)])
theorem E13_24 : E_RX13 Z B E 24 = arI (zC Z 0) 70000 (fun _ => 0) := by
  unfold E_RX13
  repeat (first | rw [uE_ne (by omega)] | rw [uE_eq (by omega)])
end E13
set_option maxRecDepth 20000 in
set_option maxHeartbeats 4000000 in
theorem C_RX12 (Z : ZT) (hA : AtF Z) {JA : Mem} (hJ : f_G_becomeLetterA 0 FR0 = some ((), JA)) : RunsC Z yX12_init cX12_init 1 4 [.ref (zB Z + 0)] (1111 + dC FR0 JA) (21377 + dS FR0 JA) (fun H => ∃ E : Nat → va_E, E 0 = .inr (0, [.null, .null, .null, .null, .null, .null, .null, .null, .null, vi 0]) ∧ CHp (zD Z) (zB Z) (zH Z) 1 E H) (HH_a Z JA) := by
  refine RunsC.of (by decide +kernel) rfl (Nat.le_of_ble_eq_true rfl) ?_
  intro p l e s m args below meth c ls hfl b hH hr hlk hnm hl
  have hl : lv_has ls 1 [(0, .ref (zB Z + 0))] := hl
  have b : BB p s m args c RX12 cX12_init 1 Z := b
  obtain ⟨E, hE, hH⟩ := hH
  refine W_RX12 Z (zB Z) (zH Z) E hfl (Nat.le_refl _) ⟨rfl, rfl⟩ (by omega) (by omega) b hH hE hnm hl (fun H locs hH hlo => ?_)
  have hF := fresh hA hH
  refine lv_aload_n b.1 b.2.1 dX12_init_120 rfl (lv_at hl 0 rfl) ?_
  refine ch_get (k := 0) (j := 0) b hH (by omega) E12_0 rfl in_0 (by decide) rfl rfl (li_2 100 (by decide +kernel) (by decide +kernel)) dX12_init_121 ?_
  have e1 : (.ref (zB Z + 1) : Value) = vr Z 1 0 := by
    unfold vr
    rw [hA 1 0 (by decide) (by decide) (by decide)]
    rfl
  rw [e1]
  have R := R_G_becomeLetterA_a Z 0 FR0 () JA hJ
  refine lx_callV_a (n := 0) (As := []) (rest := []) b hfl hl.1 ⟨_, hF⟩ R ⟨(li_2 77 (by decide +kernel) (by decide +kernel)), (li_2 75 (by decide +kernel) (by decide +kernel)), (li_2 76 (by decide +kernel) (by decide +kernel)), (li_1 2 (by decide +kernel) (by decide +kernel)), by decide +kernel⟩ (fun gr => ob_1_a (by decide)) rfl rfl ⟨Nat.le_of_ble_eq_true rfl, Nat.le_of_ble_eq_true rfl⟩ (Nat.le_of_ble_eq_true rfl) ⟨Nat.le_refl _, Nat.le_refl _⟩ (li_2 74 (by decide +kernel) (by decide +kernel)) hlo dX12_init_124 (fun H1 locs1 hH1 hlo1 => ?_)
  exact ch_ret b hr hlk hlo1 hH1 (Nat.le_refl _) (Nat.le_refl _) dX12_init_127
def mp (k i : Nat) : Nat := if k = 26 then 0 else if k = 28 then 6 else if i < 5 then 1 + i else 2 + i
def AtM (Z : ZT) (B : Nat) : Prop := ∀ k i : Nat, 26 ≤ k → i < ksz_b k → zA Z k i = B + mp k i
theorem kb_lt {k i : Nat} (h : i < ksz_b k) : k < 29 := by
  rcases Nat.lt_or_ge k 29 with q | q
  · exact q
  · exfalso
    unfold ksz_b at h
    split at h <;> first | omega | (rw [if_neg (by omega)] at h; omega)
theorem ka_b {k i : Nat} (hk : k < 26) (h : i < ksz_b k) : i < ksz_a k := by
  match k, hk, h with
  | 0, _, h | 1, _, h | 2, _, h | 3, _, h | 4, _, h | 5, _, h | 6, _, h | 7, _, h | 8, _, h | 9, _, h | 10, _, h | 11, _, h | 12, _, h | 13, _, h | 14, _, h | 15, _, h | 16, _, h | 17, _, h | 18, _, h | 19, _, h | 20, _, h | 21, _, h | 22, _, h | 23, _, h | 24, _, h | 25, _, h => exact h
  | k + 26, hk, _ => exact absurd hk (by omega)
theorem mp_lt {k i : Nat} (hk : 26 ≤ k) (h : i < ksz_b k) : mp k i < 25 := by
  have h2 := kb_lt h
  rcases (show k = 26 ∨ k = 27 ∨ k = 28 by omega) with rfl | rfl | rfl
  · unfold mp
    rw [if_pos rfl]
    decide
  · have h : i < 23 := h
    unfold mp
    rw [if_neg (by decide), if_neg (by decide)]
    split <;> omega
  · unfold mp
    rw [if_neg (by decide), if_pos rfl]
    decide
theorem mp_inj {k i k' i' : Nat} (hk : 26 ≤ k) (h : i < ksz_b k) (hk' : 26 ≤ k') (h' : i' < ksz_b k') (e : mp k i = mp k' i') : k = k' ∧ i = i' := by
  have h2 := kb_lt h
  have h2' := kb_lt h'
  have z : ∀ {k i : Nat}, 26 ≤ k → k < 29 → i < ksz_b k → (k = 26 ∧ i = 0 ∧ mp k i = 0) ∨ (k = 28 ∧ i = 0 ∧ mp k i = 6) ∨ (k = 27 ∧ ((i < 5 ∧ mp k i = 1 + i) ∨ (5 ≤ i ∧ mp k i = 2 + i))) := by
    intro k i a b h
    rcases (show k = 26 ∨ k = 27 ∨ k = 28 by omega) with rfl | rfl | rfl
    · have h : i < 1 := h
      exact Or.inl ⟨rfl, by omega, rfl⟩
    · right; right
      refine ⟨rfl, ?_⟩
      unfold mp
      rw [if_neg (by decide), if_neg (by decide)]
      by_cases q : i < 5
      · rw [if_pos q]; exact Or.inl ⟨q, rfl⟩
      · rw [if_neg q]; exact Or.inr ⟨by omega, rfl⟩
    · have h : i < 1 := h
      exact Or.inr (Or.inl ⟨rfl, by omega, rfl⟩)
  have z1 := z hk h2 h
  have z2 := z hk' h2' h'
  omega
theorem ad26 {Z : ZT} {gr : Nat → Nat} {k i : Nat} (hk : 26 ≤ k) : adG Z gr k i = zA Z k i := by
  unfold adG
  rw [if_neg (by omega), if_neg (by omega)]
set_option maxRecDepth 100000 in
set_option maxHeartbeats 4000000 in
theorem fresh2 {Z : ZT} {E : Nat → va_E} {JA : Mem} {H1 H : Heap} {gr : Nat → Nat} (h1 : HHA_a Z gr JA H1) (hM : AtM Z H1.size) (hF : ∀ k i s : Nat, 26 ≤ k → k < 29 → JA k i s = FR0 k i s) (hH : CHp (zD Z) H1.size H1 25 (E_RX13 Z H1.size E) H) : HHA_b Z gr JA H := by
  obtain ⟨⟨a1, a2, a3⟩, a4, a5, a6⟩ := h1
  obtain ⟨c1, c2, c3, c4⟩ := hH
  have lt26 : ∀ k i : Nat, k < 26 → i < ksz_b k → adG Z gr k i < H1.size := fun k i hk hi => (a6 k i (ka_b hk hi)).lt
  refine ⟨⟨a1, by omega, fun q hq => (c3 q (by omega)).trans (a3 q hq)⟩, fun k i k' i' hi hi' he => ?_, fun k i hi => ?_, fun k i hi => ?_⟩
  · rcases Nat.lt_or_ge k 26 with q | q
    · rcases Nat.lt_or_ge k' 26 with q' | q'
      · exact a4 k i k' i' (ka_b q hi) (ka_b q' hi') he
      · have := lt26 k i q hi
        rw [he, ad26 q', hM k' i' q' hi'] at this
        omega
    · rcases Nat.lt_or_ge k' 26 with q' | q'
      · have := lt26 k' i' q' hi'
        rw [← he, ad26 q, hM k i q hi] at this
        omega
      · rw [ad26 q, ad26 q', hM k i q hi, hM k' i' q' hi'] at he
        exact mp_inj q hi q' hi' (by omega)
  · rcases Nat.lt_or_ge k 26 with q | q
    · exact a5 k i (ka_b q hi)
    · rw [ad26 q, hM k i q hi]; omega
  · rcases Nat.lt_or_ge k 26 with q | q
    · exact (a6 k i (ka_b q hi)).kept (c3 _ (lt26 k i q hi))
    · have h29 := kb_lt hi
      have hz := c4 (mp k i) (mp_lt q hi)
      rw [ad26 q, hM k i q hi]
      have ha : ∀ i : Nat, i < 23 → zA Z 27 i = H1.size + mp 27 i := fun i hi => hM 27 i (by decide) hi
      rcases (show k = 26 ∨ k = 27 ∨ k = 28 by omega) with rfl | rfl | rfl
      · obtain rfl : i = 0 := by have hi : i < 1 := hi; omega
        have hz : va_at (zD Z) cls (H1.size + 0, E_RX13 Z H1.size E 0) H := hz
        rw [E13_0] at hz
        show va_at (zD Z) cls (H1.size + 0, ent Z gr JA 26 0) H
        unfold ent
        simp only [vr]
        rw [ha 0 (by decide), ha 1 (by decide), ha 2 (by decide), ha 3 (by decide), ha 4 (by decide), ha 5 (by decide), ha 6 (by decide), ha 7 (by decide), ha 8 (by decide), ha 9 (by decide), ha 10 (by decide), ha 11 (by decide), ha 12 (by decide), ha 13 (by decide), ha 14 (by decide), ha 15 (by decide), ha 16 (by decide), ha 17 (by decide), ha 18 (by decide), ha 19 (by decide), ha 20 (by decide), ha 21 (by decide), ha 22 (by decide), hM 28 0 (by decide) (by decide)]
        simp only [hF 26 _ _ (by decide) (by decide)]
        exact hz
      · have hi : i < 23 := hi
        have hz' : va_at (zD Z) cls (H1.size + mp 27 i, arI (zC Z 0) (mLen i) (fun _ => 0)) H := by
          rcases (show i = 0 ∨ i = 1 ∨ i = 2 ∨ i = 3 ∨ i = 4 ∨ i = 5 ∨ i = 6 ∨ i = 7 ∨ i = 8 ∨ i = 9 ∨ i = 10 ∨ i = 11 ∨ i = 12 ∨ i = 13 ∨ i = 14 ∨ i = 15 ∨ i = 16 ∨ i = 17 ∨ i = 18 ∨ i = 19 ∨ i = 20 ∨ i = 21 ∨ i = 22 by omega) with rfl | rfl | rfl | rfl | rfl | rfl | rfl | rfl | rfl | rfl | rfl | rfl | rfl | rfl | rfl | rfl | rfl | rfl | rfl | rfl | rfl | rfl | rfl
          · have hz : va_at (zD Z) cls (H1.size + 1, E_RX13 Z H1.size E 1) H := hz
            rw [E13_1] at hz
            exact hz
          · have hz : va_at (zD Z) cls (H1.size + 2, E_RX13 Z H1.size E 2) H := hz
            rw [E13_2] at hz
            exact hz
          · have hz : va_at (zD Z) cls (H1.size + 3, E_RX13 Z H1.size E 3) H := hz
            rw [E13_3] at hz
            exact hz
          · have hz : va_at (zD Z) cls (H1.size + 4, E_RX13 Z H1.size E 4) H := hz
            rw [E13_4] at hz
            exact hz
          · have hz : va_at (zD Z) cls (H1.size + 5, E_RX13 Z H1.size E 5) H := hz
            rw [E13_5] at hz
            exact hz
          · have hz : va_at (zD Z) cls (H1.size + 7, E_RX13 Z H1.size E 7) H := hz
            rw [E13_7] at hz
            exact hz
          · have hz : va_at (zD Z) cls (H1.size + 8, E_RX13 Z H1.size E 8) H := hz
            rw [E13_8] at hz
            exact hz
          · have hz : va_at (zD Z) cls (H1.size + 9, E_RX13 Z H1.size E 9) H := hz
            rw [E13_9] at hz
            exact hz
          · have hz : va_at (zD Z) cls (H1.size + 10, E_RX13 Z H1.size E 10) H := hz
            rw [E13_10] at hz
            exact hz
          · have hz : va_at (zD Z) cls (H1.size + 11, E_RX13 Z H1.size E 11) H := hz
            rw [E13_11] at hz
            exact hz
          · have hz : va_at (zD Z) cls (H1.size + 12, E_RX13 Z H1.size E 12) H := hz
            rw [E13_12] at hz
            exact hz
          · have hz : va_at (zD Z) cls (H1.size + 13, E_RX13 Z H1.size E 13) H := hz
            rw [E13_13] at hz
            exact hz
          · have hz : va_at (zD Z) cls (H1.size + 14, E_RX13 Z H1.size E 14) H := hz
            rw [E13_14] at hz
            exact hz
          · have hz : va_at (zD Z) cls (H1.size + 15, E_RX13 Z H1.size E 15) H := hz
            rw [E13_15] at hz
            exact hz
          · have hz : va_at (zD Z) cls (H1.size + 16, E_RX13 Z H1.size E 16) H := hz
            rw [E13_16] at hz
            exact hz
          · have hz : va_at (zD Z) cls (H1.size + 17, E_RX13 Z H1.size E 17) H := hz
            rw [E13_17] at hz
            exact hz
          · have hz : va_at (zD Z) cls (H1.size + 18, E_RX13 Z H1.size E 18) H := hz
            rw [E13_18] at hz
            exact hz
          · have hz : va_at (zD Z) cls (H1.size + 19, E_RX13 Z H1.size E 19) H := hz
            rw [E13_19] at hz
            exact hz
          · have hz : va_at (zD Z) cls (H1.size + 20, E_RX13 Z H1.size E 20) H := hz
            rw [E13_20] at hz
            exact hz
          · have hz : va_at (zD Z) cls (H1.size + 21, E_RX13 Z H1.size E 21) H := hz
            rw [E13_21] at hz
            exact hz
          · have hz : va_at (zD Z) cls (H1.size + 22, E_RX13 Z H1.size E 22) H := hz
            rw [E13_22] at hz
            exact hz
          · have hz : va_at (zD Z) cls (H1.size + 23, E_RX13 Z H1.size E 23) H := hz
            rw [E13_23] at hz
            exact hz
          · have hz : va_at (zD Z) cls (H1.size + 24, E_RX13 Z H1.size E 24) H := hz
            rw [E13_24] at hz
            exact hz
        exact va_ints hz' (fun q => (hF 27 i q (by decide) (by decide)).symm)
      · obtain rfl : i = 0 := by have hi : i < 1 := hi; omega
        have hz : va_at (zD Z) cls (H1.size + 6, E_RX13 Z H1.size E 6) H := hz
        rw [E13_6] at hz
        show va_at (zD Z) cls (H1.size + 6, arI (zC Z 1) 2 (JA 28 0)) H
        have e : JA 28 0 = fun _ => 0 := funext fun s => hF 28 0 s (by decide) (by decide)
        rw [e]
        exact hz
theorem va_atE {D : va_G} {a : Nat} {x y : va_E} {H : Heap} (h : va_at D cls (a, x) H) (e : x = y) : va_at D cls (a, y) H := e ▸ h
set_option maxRecDepth 20000 in
set_option maxHeartbeats 4000000 in
theorem C_RX13 (Z : ZT) {B1 : Nat} (hB : zB Z ≤ B1) (hM : AtM Z B1) {JA J1 J2 J3 : Mem} (hF : ∀ k i s : Nat, 26 ≤ k → k < 29 → JA k i s = FR0 k i s) (h1 : f_M_begins JA = some ((), J1)) (h2 : f_M_adds 0 0 J1 = some ((), J2)) (h3 : f_M_tellsText J2 = some ((), J3)) : RunsC Z yX13_init cX13_init 1 6 [.ref (B1 + 0)] (24 + dC JA J3) (304194 + dS JA J3) (fun H => ∃ (E : Nat → va_E) (H1 : Heap), H1.size = B1 ∧ HH_a Z JA H1 ∧ E 0 = .inr (11, [.null, .null, .null, .null, .null, .null, vi 0, vi 0, .null, .null, vi 0, .null, .null, .null, .null, .null, .null, .null, vi 0, .null, vi 0, vi 0, vi 0, vi 0, vi 0, vi 0, vi 0, vi 0, vi 0, vi 0, vi 0, vi 0, .null, .null, .null, .null, .null, .null, vi 0, vi 0, vi 0, .null, .null, vi 0]) ∧ CHp (zD Z) B1 H1 1 E H) (HH_b Z J3) := by
  refine RunsC.of (by decide +kernel) rfl (Nat.le_of_ble_eq_true rfl) ?_
  intro p l e s m args below meth c ls hfl b hH hr hlk hnm hl
  have hl : lv_has ls 1 [(0, .ref (B1 + 0))] := hl
  have b : BB p s m args c RX13 cX13_init 1 Z := b
  obtain ⟨E, H1, rfl, ⟨gr, hA⟩, hE, hH⟩ := hH
  refine W_RX13 Z H1.size H1 E hfl hB (by omega) (by omega) b hH hE hnm hl (fun H locs hH hlo => ?_)
  have hG : HH_b Z JA H := ⟨gr, fresh2 hA hM hF hH⟩
  have e1 : (.ref (H1.size + 0) : Value) = vr Z 26 0 := by
    unfold vr
    rw [hM 26 0 (by decide) (by decide)]
    rfl
  rw [e1] at hl
  have R1 := R_M_begins_b Z JA () J1 h1
  have R2 := R_M_adds_b Z 0 0 J1 () J2 h2
  have R3 := R_M_tellsText_b Z J2 () J3 h3
  have q1 : dC JA J1 + dC J1 J2 = dC JA J2 ∧ dS JA J1 + dS J1 J2 = dS JA J2 := dC_add R1.1 R2.1
  have q2 : dC JA J2 + dC J2 J3 = dC JA J3 ∧ dS JA J2 + dS J2 J3 = dS JA J3 := dC_add (R1.1.trans R2.1) R3.1
  refine lv_aload_n b.1 b.2.1 dX13_init_207 rfl (lv_at hl 0 rfl) ?_
  refine lx_callV_b (n := 0) (As := []) (rest := []) b hfl hl.1 hG R1 ⟨(li_7 18 (by decide +kernel) (by decide +kernel)), (li_7 17 (by decide +kernel) (by decide +kernel)), (lw_in 47 (by decide +kernel) (by decide +kernel)), (li_1 16 (by decide +kernel) (by decide +kernel)), by decide +kernel⟩ (fun gr => ob_26_b) rfl rfl ⟨Nat.le_of_ble_eq_true rfl, Nat.le_of_ble_eq_true rfl⟩ (Nat.le_of_ble_eq_true rfl) ⟨show 24 + dC JA J1 ≤ 24 + dC JA J3 by omega, show 304194 + dS JA J1 ≤ 304194 + dS JA J3 by omega⟩ (li_7 15 (by decide +kernel) (by decide +kernel)) hlo dX13_init_208 (fun H locs hG hlo => ?_)
  refine lv_aload_n b.1 b.2.1 dX13_init_211 rfl (lv_at hl 0 rfl) ?_
  refine lv_iconst (v := Int32.ofInt 0) b.1 b.2.1 dX13_init_212 rfl ?_
  refine lv_iconst (v := Int32.ofInt 0) b.1 b.2.1 dX13_init_213 rfl ?_
  refine lx_callV_b (n := 2) (As := [vi 0, vi 0]) (rest := []) b hfl hl.1 hG R2 ⟨(li_7 22 (by decide +kernel) (by decide +kernel)), (li_7 21 (by decide +kernel) (by decide +kernel)), (lw_in 48 (by decide +kernel) (by decide +kernel)), (li_1 16 (by decide +kernel) (by decide +kernel)), by decide +kernel⟩ (fun gr => ob_26_b) rfl rfl ⟨Nat.le_of_ble_eq_true rfl, Nat.le_of_ble_eq_true rfl⟩ (Nat.le_of_ble_eq_true rfl) ⟨show 24 + dC JA J1 + dC J1 J2 ≤ 24 + dC JA J3 by omega, show 304194 + dS JA J1 + dS J1 J2 ≤ 304194 + dS JA J3 by omega⟩ (li_7 19 (by decide +kernel) (by decide +kernel)) hlo dX13_init_214 (fun H locs hG hlo => ?_)
  refine lv_aload_n b.1 b.2.1 dX13_init_217 rfl (lv_at hl 0 rfl) ?_
  refine lx_callV_b (n := 0) (As := []) (rest := []) b hfl hl.1 hG R3 ⟨(li_7 34 (by decide +kernel) (by decide +kernel)), (li_7 33 (by decide +kernel) (by decide +kernel)), (lw_in 51 (by decide +kernel) (by decide +kernel)), (li_1 16 (by decide +kernel) (by decide +kernel)), by decide +kernel⟩ (fun gr => ob_26_b) rfl rfl ⟨Nat.le_of_ble_eq_true rfl, Nat.le_of_ble_eq_true rfl⟩ (Nat.le_of_ble_eq_true rfl) ⟨show 24 + dC JA J1 + dC J1 J2 + dC J2 J3 ≤ 24 + dC JA J3 by omega, show 304194 + dS JA J1 + dS J1 J2 + dS J2 J3 ≤ 304194 + dS JA J3 by omega⟩ (li_7 31 (by decide +kernel) (by decide +kernel)) hlo dX13_init_218 (fun H locs hG hlo => ?_)
  exact ch_ret b hr hlk hlo hG (show 24 + dC JA J1 + dC J1 J2 + dC J2 J3 ≤ 24 + dC JA J3 by omega) (show 304194 + dS JA J1 + dS J1 J2 + dS J2 J3 ≤ 304194 + dS JA J3 by omega) dX13_init_221
end
section
/-! ===== the static things at the entry ===== -/
abbrev nfl : List Cond := flatC (Jvm.Cond.and given_1 narrow_1)
section STA0
variable {args : Array Value} {s : State}
theorem nfk (h : (Jvm.Cond.and given_1 narrow_1).before args s = true) (k : Nat) {c : Cond} (hc : nfl[k]? = some c) : c.before args s = true := flat_of_before _ h c (List.mem_of_getElem? hc)
theorem tbk (h : ∀ w ∈ lw_tbl, w.before args s = true) (k : Nat) {c : Cond} (hc : lw_tbl[k]? = some c) : c.before args s = true := h c (List.mem_of_getElem? hc)
theorem va_eqw {t u : Term} {v : Value} (h : (Cond.eq t u).before args s = true) (ht : t.eval args s none [] s = some v) : u.eval args s none [] s = some v := by
  cases hu : u.eval args s none [] s with
  | none => simp [Cond.before, Cond.holds, Cond.value, hu, ht] at h
  | some w => rw [← ht]; exact (va_eqv h hu).symm
theorem all15 {Q : Nat → Prop} (h0 : Q 0) (h1 : Q 1) (h2 : Q 2) (h3 : Q 3) (h4 : Q 4) (h5 : Q 5) (h6 : Q 6) (h7 : Q 7) (h8 : Q 8) (h9 : Q 9) (h10 : Q 10) (h11 : Q 11) (h12 : Q 12) (h13 : Q 13) (h14 : Q 14) : ∀ i : Nat, i < 15 → Q i := by
  intro i hi
  rcases (show i = 0 ∨ i = 1 ∨ i = 2 ∨ i = 3 ∨ i = 4 ∨ i = 5 ∨ i = 6 ∨ i = 7 ∨ i = 8 ∨ i = 9 ∨ i = 10 ∨ i = 11 ∨ i = 12 ∨ i = 13 ∨ i = 14 by omega) with rfl | rfl | rfl | rfl | rfl | rfl | rfl | rfl | rfl | rfl | rfl | rfl | rfl | rfl | rfl
  · exact h0
  · exact h1
  · exact h2
  · exact h3
  · exact h4
  · exact h5
  · exact h6
  · exact h7
  · exact h8
  · exact h9
  · exact h10
  · exact h11
  · exact h12
  · exact h13
  · exact h14
set_option maxRecDepth 100000 in
theorem en_lays : ∀ i, i < 15 → lw_tbl[([617, 688, 706, 702, 704, 2329, 2330, 2331, 835, 2332, 2333, 2334, 868, 814, 376] : List Nat).getD i 0]? = some (Cond.laysStatic RX11 (wNames.getD i "") "LPairRules$Word;") := by decide +kernel
set_option maxRecDepth 100000 in
theorem en_ex : ∀ i, i < 15 → nfl[([35, 42, 69, 50, 59, 139, 154, 170, 110, 187, 205, 224, 123, 98, 4] : List Nat).getD i 0]? = some (Cond.exactly (.static RX11 (wNames.getD i "") "LPairRules$Word;") RX11) := by decide +kernel
set_option maxRecDepth 100000 in
theorem en_f0 : ∀ i, i < 15 → nfl[([36, 43, 70, 51, 60, 140, 155, 171, 111, 188, 206, 225, 124, 99, 5] : List Nat).getD i 0]? = some (Cond.eq (.field (.static RX11 (wNames.getD i "") "LPairRules$Word;") "java/lang/Enum" "ordinal" "I") (.int (([0, 1, 2, 3, 4, 5, 6, 7, 8, 9, 10, 11, 12, 13, 14] : List Int32).getD i 0))) := by decide +kernel
set_option maxRecDepth 100000 in
theorem en_f1 : ∀ i, i < 15 → nfl[([38, 45, 72, 53, 62, 142, 157, 173, 113, 190, 208, 227, 126, 101, 7] : List Nat).getD i 0]? = some (Cond.eq (.field (.static RX11 (wNames.getD i "") "LPairRules$Word;") RX11 "orders" "Z") (.int (([0, 0, 0, 1, 1, 1, 1, 1, 1, 1, 1, 1, 1, 0, 0] : List Int32).getD i 0))) := by decide +kernel
set_option maxRecDepth 100000 in
theorem en_f2 : ∀ i, i < 15 → nfl[([39, 46, 73, 54, 63, 143, 158, 174, 114, 191, 209, 228, 127, 102, 8] : List Nat).getD i 0]? = some (Cond.eq (.field (.static RX11 (wNames.getD i "") "LPairRules$Word;") RX11 "lowest" "I") (.int (([0, 0, 0, 2, 0, 0, 1, 0, 0, 0, 0, 1, 0, 0, 0] : List Int32).getD i 0))) := by decide +kernel
set_option maxRecDepth 100000 in
theorem en_f3 : ∀ i, i < 15 → nfl[([40, 47, 74, 55, 64, 144, 159, 175, 115, 192, 210, 229, 128, 103, 9] : List Nat).getD i 0]? = some (Cond.eq (.field (.static RX11 (wNames.getD i "") "LPairRules$Word;") RX11 "highest" "I") (.int (([39, 0, 1, 9, 2, 1, 50, 0, 0, 39, 0, 400, 20, 0, 0] : List Int32).getD i 0))) := by decide +kernel
set_option maxRecDepth 100000 in
theorem en_d : ∀ i, i < 15 → ∀ j, j < 15 → i ≠ j → nfl[(([[0, 49, 76, 57, 66, 146, 161, 177, 117, 194, 212, 231, 130, 105, 0], [0, 0, 77, 58, 67, 147, 162, 178, 118, 195, 213, 232, 131, 106, 0], [0, 0, 0, 0, 0, 150, 165, 181, 121, 198, 216, 235, 134, 109, 0], [0, 0, 78, 0, 68, 148, 163, 179, 119, 196, 214, 233, 132, 107, 0], [0, 0, 79, 0, 0, 149, 164, 180, 120, 197, 215, 234, 133, 108, 0], [0, 0, 0, 0, 0, 0, 169, 185, 0, 202, 220, 239, 0, 0, 0], [0, 0, 0, 0, 0, 0, 0, 186, 0, 203, 221, 240, 0, 0, 0], [0, 0, 0, 0, 0, 0, 0, 0, 0, 204, 222, 241, 0, 0, 0], [0, 0, 0, 0, 0, 152, 167, 183, 0, 200, 218, 237, 136, 0, 0], [0, 0, 0, 0, 0, 0, 0, 0, 0, 0, 223, 242, 0, 0, 0], [0, 0, 0, 0, 0, 0, 0, 0, 0, 0, 0, 243, 0, 0, 0], [0, 0, 0, 0, 0, 0, 0, 0, 0, 0, 0, 0, 0, 0, 0], [0, 0, 0, 0, 0, 153, 168, 184, 0, 201, 219, 238, 0, 0, 0], [0, 0, 0, 0, 0, 151, 166, 182, 122, 199, 217, 236, 135, 0, 0], [41, 48, 75, 56, 65, 145, 160, 176, 116, 193, 211, 230, 129, 104, 0]] : List (List Nat)).getD i []).getD j 0]? = some (Cond.not (.eq (.static RX11 (wNames.getD i "") "LPairRules$Word;") (.static RX11 (wNames.getD j "") "LPairRules$Word;"))) ∨ nfl[(([[0, 49, 76, 57, 66, 146, 161, 177, 117, 194, 212, 231, 130, 105, 0], [0, 0, 77, 58, 67, 147, 162, 178, 118, 195, 213, 232, 131, 106, 0], [0, 0, 0, 0, 0, 150, 165, 181, 121, 198, 216, 235, 134, 109, 0], [0, 0, 78, 0, 68, 148, 163, 179, 119, 196, 214, 233, 132, 107, 0], [0, 0, 79, 0, 0, 149, 164, 180, 120, 197, 215, 234, 133, 108, 0], [0, 0, 0, 0, 0, 0, 169, 185, 0, 202, 220, 239, 0, 0, 0], [0, 0, 0, 0, 0, 0, 0, 186, 0, 203, 221, 240, 0, 0, 0], [0, 0, 0, 0, 0, 0, 0, 0, 0, 204, 222, 241, 0, 0, 0], [0, 0, 0, 0, 0, 152, 167, 183, 0, 200, 218, 237, 136, 0, 0], [0, 0, 0, 0, 0, 0, 0, 0, 0, 0, 223, 242, 0, 0, 0], [0, 0, 0, 0, 0, 0, 0, 0, 0, 0, 0, 243, 0, 0, 0], [0, 0, 0, 0, 0, 0, 0, 0, 0, 0, 0, 0, 0, 0, 0], [0, 0, 0, 0, 0, 153, 168, 184, 0, 201, 219, 238, 0, 0, 0], [0, 0, 0, 0, 0, 151, 166, 182, 122, 199, 217, 236, 135, 0, 0], [41, 48, 75, 56, 65, 145, 160, 176, 116, 193, 211, 230, 129, 104, 0]] : List (List Nat)).getD j []).getD i 0]? = some (Cond.not (.eq (.static RX11 (wNames.getD j "") "LPairRules$Word;") (.static RX11 (wNames.getD i "") "LPairRules$Word;"))) := by decide +kernel
def wTm : List (String × Nat) := [("PairRulesModel", 316), ("PairRulesModel", 321), ("PairRulesModel", 296), ("PairRulesModel", 288), ("PairRulesModel", 294), ("PairRulesModel", 357), ("PairRulesModel", 345), ("PairRulesModel", 347), ("PairRulesModel", 349), ("PairRulesModel", 351), ("PairRulesModel", 353), ("PairRulesModel", 355), ("PairRulesModel", 359), ("PairRules$Word", 128), ("PairRules$Word", 131)]
abbrev tmS (i : Nat) : Term := .string (wTm.getD i ("", 0)).1 (wTm.getD i ("", 0)).2
set_option maxRecDepth 100000 in
theorem st_ex : ∀ i, i < 15 → nfl[([340, 348, 373, 357, 366, 437, 383, 391, 402, 410, 420, 430, 445, 506, 454] : List Nat).getD i 0]? = some (Cond.exactly (tmS i) "java/lang/String") := by decide +kernel
set_option maxRecDepth 100000 in
theorem st_co : ∀ i, i < 15 → nfl[([341, 349, 374, 358, 367, 438, 384, 392, 403, 411, 421, 431, 446, 507, 455] : List Nat).getD i 0]? = some (Cond.eq (.field (tmS i) "java/lang/String" "coder" "B") (.int 0)) := by decide +kernel
set_option maxRecDepth 100000 in
theorem st_ar : ∀ i, i < 15 → nfl[([342, 350, 375, 359, 368, 439, 385, 393, 404, 412, 422, 432, 447, 508, 456] : List Nat).getD i 0]? = some (Cond.arrayOf (.field (tmS i) "java/lang/String" "value" "[B") .byte) := by decide +kernel
set_option maxRecDepth 100000 in
theorem st_le : ∀ i, i < 15 → nfl[([343, 351, 376, 360, 369, 440, 386, 394, 405, 413, 423, 433, 448, 509, 457] : List Nat).getD i 0]? = some (Cond.eq (.length (.field (tmS i) "java/lang/String" "value" "[B")) (.int (Int32.ofNat ((wText.map List.length).getD i 0)))) := by decide +kernel
set_option maxRecDepth 100000 in
theorem st_el : ∀ i, i < 15 → ∀ j, j < (wText.map List.length).getD i 0 → nfl[(([[344, 345, 346, 347], [352, 353, 354, 355, 356], [377, 378, 379, 380, 381, 382], [361, 362, 363, 364, 365], [370, 371, 372], [441, 442, 443, 444], [387, 388, 389, 390], [395, 396, 397, 398, 399, 400, 401], [406, 407, 408, 409], [414, 415, 416, 417, 418, 419], [424, 425, 426, 427, 428, 429], [434, 435, 436], [449, 450, 451, 452, 453], [510], []] : List (List Nat)).getD i []).getD j 0]? = some (Cond.eq (.elem (.field (tmS i) "java/lang/String" "value" "[B") (.int (Int32.ofNat j))) (.int (((wText.map (fun l => l.map Int32.ofInt)).getD i []).getD j 0))) := by decide +kernel
def wTw : List Nat := [86, 92, 95, 98, 101, 104, 107, 110, 113, 116, 119, 122, 125, 128, 131]
set_option maxRecDepth 100000 in
theorem st_tx : ∀ i, i < 15 → nfl[([37, 44, 71, 52, 61, 141, 156, 172, 112, 189, 207, 226, 125, 100, 6] : List Nat).getD i 0]? = some (Cond.eq (.field (.static RX11 (wNames.getD i "") "LPairRules$Word;") RX11 "text" "Ljava/lang/String;") (.string RX11 (wTw.getD i 0))) := by decide +kernel
set_option maxRecDepth 100000 in
theorem st_eq : ∀ i, i < 13 → nfl[([466, 476, 505, 486, 494, 538, 547, 559, 519, 570, 581, 589, 529] : List Nat).getD i 0]? = some (Cond.eq (tmS i) (.string RX11 (wTw.getD i 0))) := by decide +kernel
set_option maxRecDepth 100000 in
theorem st_rf : ∀ q ∈ wLdc, q.2.2 < 13 ∧ (wTm.getD q.2.2 ("", 0)) = (RX13, q.1) := by decide +kernel
set_option maxRecDepth 100000 in
theorem st_sr : ∀ i, i < 13 → lw_tbl[([1814, 1862, 1869, 1867, 1868, 1918, 1912, 1913, 1914, 1915, 1916, 1917, 1919] : List Nat).getD i 0]? = some (Cond.stringRef RX13 (wTm.getD i ("", 0)).2 ((["rule", "start", "inline", "least", "tie", "mode", "step", "inlined", "make", "expand", "append", "cut", "again"] : List String).getD i "")) := by decide +kernel
set_option maxRecDepth 100000 in
theorem st_rn : ∀ q ∈ wLdc, q.2.1 = (["rule", "start", "inline", "least", "tie", "mode", "step", "inlined", "make", "expand", "append", "cut", "again"] : List String).getD q.2.2 "" := by decide +kernel
set_option maxRecDepth 100000 in
theorem st_ne : ∀ i, i < 15 → ∀ j, j < 15 → i ≠ j → (wText.map List.length).getD i 0 ≠ (wText.map List.length).getD j 0 ∨ ∃ k, k < (wText.map List.length).getD i 0 ∧ ((wText.map (fun l => l.map Int32.ofInt)).getD i []).getD k 0 ≠ ((wText.map (fun l => l.map Int32.ofInt)).getD j []).getD k 0 := by decide +kernel
set_option maxRecDepth 100000 in
theorem aw_el : ∀ j, j < 15 → nfl[([15, 16, 17, 18, 19, 20, 21, 22, 23, 24, 25, 26, 27, 28, 29] : List Nat).getD j 0]? = some (Cond.eq (.elem (.static RX8 "WORDS" "[LPairRules$Word;") (.int (Int32.ofNat j))) (.static RX11 (wNames.getD j "") "LPairRules$Word;")) := by decide +kernel
set_option maxRecDepth 100000 in
theorem as_el : ∀ j, j < 15 → nfl[([83, 84, 85, 86, 87, 88, 89, 90, 91, 92, 93, 94, 95, 96, 97] : List Nat).getD j 0]? = some (Cond.eq (.elem (.static RX0 "$SwitchMap$PairRules$Word" "[I") (.int (Int32.ofNat j))) (.int (Int32.ofInt (wSm.getD j 0)))) := by decide +kernel
set_option maxRecDepth 100000 in
theorem wn_ix : ∀ q ∈ wNot, ∃ k, k < 600 ∧ nfl[k]? = some (Cond.not (.castable q.1 q.2)) := by
  intro q hq
  simp only [wNot, List.mem_cons, List.mem_nil_iff, or_false] at hq
  rcases hq with rfl | rfl | rfl | rfl | rfl | rfl
  · exact ⟨257, by decide, by decide +kernel⟩
  · exact ⟨258, by decide, by decide +kernel⟩
  · exact ⟨272, by decide, by decide +kernel⟩
  · exact ⟨273, by decide, by decide +kernel⟩
  · exact ⟨287, by decide, by decide +kernel⟩
  · exact ⟨288, by decide, by decide +kernel⟩
/-- the strings: each by itself, then apart by what they hold -/
theorem st_all {A : Nat → Prop} (h : (Jvm.Cond.and given_1 narrow_1).before args s = true) (hA : ∀ a : Nat, a < s.heap.size → ¬ A a) : ∃ adK adV : Nat → Nat, vk_S 15 (wText.map List.length) (wText.map (fun l => l.map Int32.ofInt)) adK adV A s s.heap ∧ ∀ i : Nat, i < 15 → (tmS i).eval args s none [] s = some (.ref (adK i)) := by
  have one : ∀ i : Nat, i < 15 → ∃ q : Nat × Nat, (tmS i).eval args s none [] s = some (.ref q.1) ∧ va_O "java/lang/String" q.1 A s s.heap ∧ va_OF "java/lang/String" "coder" "B" (.int 0) q.1 A s s.heap ∧ va_OF "java/lang/String" "value" "[B" (.ref q.2) q.1 A s s.heap ∧ va_T .byte q.2 ((wText.map List.length).getD i 0) (fun j => .int (((wText.map (fun l => l.map Int32.ofInt)).getD i []).getD j 0)) A s s.heap := by
    intro i hi
    obtain ⟨aK, aV, hS, hev⟩ := vk_Sof (N := 1) (tm := fun _ => tmS i) (len := [(wText.map List.length).getD i 0]) (byt := [(wText.map (fun l => l.map Int32.ofInt)).getD i []]) (A := A)
      (fun k hk => by
        obtain rfl : k = 0 := by omega
        exact (by decide +kernel : ∀ i, i < 15 → (wText.map List.length).getD i 0 < 2 ^ 31) i hi)
      (fun _ _ => nfk h _ (st_ex i hi)) (fun _ _ => nfk h _ (st_co i hi)) (fun _ _ => nfk h _ (st_ar i hi))
      (fun k hk => by
        obtain rfl : k = 0 := by omega
        exact nfk h _ (st_le i hi))
      (fun k hk j hj => by
        obtain rfl : k = 0 := by omega
        exact nfk h _ (st_el i hi j hj))
      (fun a b ha hb hab => absurd (by omega : a = b) hab) hA
    obtain ⟨h1, h2, h3, h4⟩ := hS.1 0 (by decide)
    exact ⟨(aK 0, aV 0), hev 0 (by decide), h1, h2, h3, h4⟩
  have hq : ∀ i : Nat, ∃ q : Nat × Nat, i < 15 → (tmS i).eval args s none [] s = some (.ref q.1) ∧ va_O "java/lang/String" q.1 A s s.heap ∧ va_OF "java/lang/String" "coder" "B" (.int 0) q.1 A s s.heap ∧ va_OF "java/lang/String" "value" "[B" (.ref q.2) q.1 A s s.heap ∧ va_T .byte q.2 ((wText.map List.length).getD i 0) (fun j => .int (((wText.map (fun l => l.map Int32.ofInt)).getD i []).getD j 0)) A s s.heap := by
    intro i
    by_cases hi : i < 15
    · obtain ⟨q, hq⟩ := one i hi
      exact ⟨q, fun _ => hq⟩
    · exact ⟨(0, 0), fun z => absurd z hi⟩
  refine ⟨fun i => (Classical.choose (hq i)).1, fun i => (Classical.choose (hq i)).2, ⟨fun i hi => (Classical.choose_spec (hq i) hi).2, fun i j hi hj he => ?_⟩, fun i hi => (Classical.choose_spec (hq i) hi).1⟩
  refine Classical.byContradiction fun hne => ?_
  obtain ⟨-, -, -, hv1, ht1⟩ := Classical.choose_spec (hq i) hi
  obtain ⟨-, -, -, hv2, ht2⟩ := Classical.choose_spec (hq j) hj
  have he : (Classical.choose (hq i)).1 = (Classical.choose (hq j)).1 := he
  rw [← he] at hv2
  have e2 : (Classical.choose (hq i)).2 = (Classical.choose (hq j)).2 := by
    obtain ⟨cf, k, fi, f, cell, a1, a2, a3, a4, a5, a6⟩ := hv1
    obtain ⟨cf', k', fi', f', cell', b1, b2, b3, b4, b5, b6⟩ := hv2
    have q1 := Option.some.inj (a1.symm.trans b1)
    simp only [Prod.mk.injEq] at q1
    obtain ⟨-, -, -, rfl⟩ := q1
    cases Option.some.inj (a3.symm.trans b3)
    exact Value.ref.inj (Option.some.inj (a5.symm.trans b5))
  rw [← e2] at ht2
  obtain ⟨cell, a1, a2, a3, a4, a5, a6, a7⟩ := ht1
  obtain ⟨cell', b1, b2, b3, b4, b5, b6, b7⟩ := ht2
  cases Option.some.inj (a1.symm.trans b1)
  have hlen : (wText.map List.length).getD i 0 = (wText.map List.length).getD j 0 := by
    have q := a5.symm.trans b5
    have z : ∀ i, i < 15 → ∀ j, j < 15 → Int32.ofNat ((wText.map List.length).getD i 0) = Int32.ofNat ((wText.map List.length).getD j 0) → (wText.map List.length).getD i 0 = (wText.map List.length).getD j 0 := by decide +kernel
    exact z i hi j hj q
  rcases st_ne i hi j hj hne with q | ⟨k, hk, q⟩
  · exact q hlen
  · have z1 := a6 k hk
    have z2 := b6 k (by rw [← hlen]; exact hk)
    have := Option.some.inj (z1.symm.trans z2)
    exact q (Value.int.inj this)
/-- all of it -/
theorem sta_start (hts : ∀ w ∈ lw_tbl, w.before args s = true) (h : (Jvm.Cond.and given_1 narrow_1).before args s = true) {Z0 : ZT} (hZ : zB Z0 = s.heap.size ∧ zH Z0 = s.heap) : ∃ a : Nat → Nat → Nat, ∀ Z : ZT, zB Z = zB Z0 → zH Z = zH Z0 → (∀ k i : Nat, k = 11 ∨ 32 ≤ k → zA Z k i = a k i) → Sta Z s := by
  have hA : ∀ a : Nat, a < s.heap.size → ¬ (fun q : Nat => s.heap.size ≤ q) a := fun a h1 h2 => Nat.not_le.mpr h1 h2
  obtain ⟨ad, hEn, hev⟩ := va_Enof2 (E := RX11) (d := "LPairRules$Word;") (nm := wNames) (F := wFld) (fun i hi => tbk hts _ (en_lays i hi)) (tbk hts 148 (by decide +kernel)) (fun i hi => nfk h _ (en_ex i hi)) (fun q hq i hi => by
    simp only [wFld, List.mem_cons, List.mem_nil_iff, or_false] at hq
    rcases hq with rfl | rfl | rfl | rfl
    · exact nfk h _ (en_f0 i hi)
    · exact nfk h _ (en_f1 i hi)
    · exact nfk h _ (en_f2 i hi)
    · exact nfk h _ (en_f3 i hi)) (fun i j hi hj hij => (en_d i hi j hj hij).imp (nfk h _) (nfk h _)) hA
  obtain ⟨aK, aV, hS, hSev⟩ := st_all h hA
  have hev' : ∀ i : Nat, i < 15 → (Term.string RX11 (wTw.getD i 0)).eval args s none [] s = some (.ref (aK i)) := by
    have z : ∀ i : Nat, i < 13 → (Term.string RX11 (wTw.getD i 0)).eval args s none [] s = some (.ref (aK i)) := fun i hi => by
      have q := nfk h _ (st_eq i hi)
      have e := hSev i (by omega)
      exact va_eqw q e
    intro i hi
    by_cases q : i < 13
    · exact z i q
    · rcases (show i = 13 ∨ i = 14 by omega) with rfl | rfl
      · exact hSev 13 hi
      · exact hSev 14 hi
  obtain ⟨tW, hW1, hW2⟩ := va_Tof (tm := .static RX8 "WORDS" "[LPairRules$Word;") (ty := .object RX11) (N := 15) (f := fun j => .ref (ad j)) (by decide) (nfk h 12 (by decide +kernel)) (va_eqv (u := .int 15) (nfk h 13 (by decide +kernel)) rfl) (fun j hj => va_eqv (nfk h _ (aw_el j hj)) (hev j hj)) hA
  obtain ⟨tM, hM1, hM2⟩ := va_Tof (tm := .static RX0 "$SwitchMap$PairRules$Word" "[I") (ty := .int) (N := 15) (f := fun j => .int (Int32.ofInt (wSm.getD j 0))) (by decide) (nfk h 81 (by decide +kernel)) (va_eqv (u := .int 15) (nfk h 82 (by decide +kernel)) rfl) (fun j hj => va_eqv (nfk h _ (as_el j hj)) rfl) hA
  have hWz := va_Zof (tbk hts 558 (by decide +kernel)) (tbk hts 144 (by decide +kernel)) hW1 hA
  have hMz := va_Zof (tbk hts 712 (by decide +kernel)) (tbk hts 158 (by decide +kernel)) hM1 hA
  have hC := va_Zof (v := .int 1) (tbk hts 572 (by decide +kernel) : (Cond.laysStatic "java/lang/String" "COMPACT_STRINGS" "Z").before args s = true) (tbk hts 154 (by decide +kernel)) (va_eqv (u := .int 1) (nfk h 30 (by decide +kernel)) rfl) hA
  have hP := va_Zqof (tbk hts 592 (by decide +kernel) : (Cond.laysStatic "jdk/internal/util/Preconditions" "SIOOBE_FORMATTER" "Ljava/util/function/BiFunction;").before args s = true) (tbk hts 156 (by decide +kernel)) (nfk h 31 (by decide +kernel)) hA
  have hU := vx_Zqof (tbk hts 1311 (by decide +kernel) : (Cond.laysStatic Bundle.tN "UNASSIGNED_STACK" Bundle.steD).before args s = true) (tbk hts 159 (by decide +kernel)) (nfk h 137 (by decide +kernel)) hA
  have hN := vx_Zqof (tbk hts 1313 (by decide +kernel) : (Cond.laysStatic Bundle.tN "SUPPRESSED_SENTINEL" Bundle.listD).before args s = true) (tbk hts 159 (by decide +kernel)) (nfk h 138 (by decide +kernel)) hA
  refine ⟨fun k i => if k = 11 then ad i else if k = 32 then tW else if k = 33 then tM else if k = 34 then aK i else aV i, fun Z e1 e2 e3 => ?_⟩
  have z11 : zA Z 11 = ad := funext fun i => e3 11 i (Or.inl rfl)
  have z32 : zA Z 32 0 = tW := e3 32 0 (by omega)
  have z33 : zA Z 33 0 = tM := e3 33 0 (by omega)
  have z34 : zA Z 34 = aK := funext fun i => e3 34 i (by omega)
  have z35 : zA Z 35 = aV := funext fun i => e3 35 i (by omega)
  have eN : zN Z = fun q : Nat => s.heap.size ≤ q := by
    show (fun q => zB Z ≤ q) = _
    rw [e1, hZ.1]
  unfold Sta
  rw [z11, z32, z33, z34, z35, eN, e2, hZ.2]
  refine ⟨hEn, ?_, hS, hWz, hW2, hMz, hM2, ⟨hC, ?_, hU, hN, fun q hq => ?_⟩, fun q hq => ?_, fun w hw => ?_⟩
  · exact va_Efof (tm := fun i => .string RX11 (wTw.getD i 0)) hev (fun i hi => nfk h _ (st_tx i hi)) hev' hA
  · rcases hP with q | ⟨t, q⟩
    · exact ⟨_, rfl, q⟩
    · exact ⟨_, rfl, q⟩
  · obtain ⟨k, -, hk⟩ := wn_ix q hq
    exact va_Nc.of (nfk h k hk)
  · obtain ⟨q1, q2⟩ := st_rf q hq
    have e := hSev q.2.2 (by omega)
    have r := tbk hts _ (st_sr q.2.2 q1)
    rw [← st_rn q hq] at r
    have e4 : tmS q.2.2 = Term.string RX13 q.1 := by
      show Term.string (wTm.getD q.2.2 ("", 0)).1 (wTm.getD q.2.2 ("", 0)).2 = _
      rw [q2]
    rw [e4] at e
    rw [q2] at r
    exact vk_R.of r e
  · obtain ⟨h1, h2⟩ := List.mem_filter.mp hw
    have h3 := hts w h1
    cases w <;> first | exact va_Nw.of rfl h3 | cases h2
end STA0
end
