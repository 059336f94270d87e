/-! ===== the law's own rows ===== -/
theorem dC_add {I J K : Mem} (h : cle I J) (k : cle J K) : dC I J + dC J K = dC I K ∧ dS I J + dS J K = dS I K := by
  unfold dC dS
  obtain ⟨q1, q2⟩ := h
  obtain ⟨q3, q4⟩ := k
  constructor <;> omega
theorem dC_self (I : Mem) : dC I I = 0 ∧ dS I I = 0 := by
  unfold dC dS
  constructor <;> omega
section LAWR
variable {p : Program} {l : Launch} {e : Env} {R : Room} {s : State} {m : MethodId} {args : Array Value} {below : List Frame} {meth : Method} {c : Code} {H : Heap} {locs : List Loc} {cells slots : Nat} {Q : State → Prop} {cc : ByteArray} {pc nL : Nat} {ls : Array Slot} {rest st : List Value} {own : String} {Z : ZT} {I : Mem}
theorem lx_callV {y' : MethodName} {cc' : ByteArray} {maxL' h' n index a : Nat} {ret' : Option FieldType} {As : List Value} {o1 : OV} (b : BB p s m args c own cc nL Z) (hfl : l.stackTraces = false) (hl : ls.size = nL) (hH : HH Z I H) (hr : Runs Z y' cc' maxL' ret' h' (.ref a :: As) I o1) (hM : MwV y' cc' maxL' ret' n) (hO : ∀ gr : Nat → Nat, Ob Z gr I a y'.cls) (hn : As.length = n) (hst : st = As.reverse ++ .ref a :: rest) (hR : h' + 1 ≤ R.frames ∧ 8 + (maxL' + 11) + 35 * h' ≤ R.locals) (hw : (rest.map fun v => v.category).sum ≤ 8) (hf : cells + dC I o1.2 ≤ R.cells ∧ slots + dS I o1.2 ≤ R.slots)
    (hlink : Cond.methodLink own index y' ∈ lw_good) (hlo : ∀ q ∈ locs, zN Z q.base) (d : decode cc pc = .ok (.invokevirtual index, 3))
    (kk : ∀ (H1 : Heap) (locs1 : List Loc), HH Z o1.2 H1 → (∀ q ∈ locs1, zN Z q.base) → W p l e R s m args below meth c H1 locs1 (cells + dC I o1.2) (slots + dS I o1.2) Q (F0 m (pc + 3) ls (o1.1.toList ++ rest))) : W p l e R s m args below meth c H locs cells slots Q (F0 m pc ls st) := by
  obtain ⟨gr, hH⟩ := hH
  obtain ⟨hx, hb, hown, hts, hK, hml⟩ := b
  obtain ⟨hcode, hinst, hsel, hini, hd⟩ := hM
  obtain ⟨k, i, ci, N, T0, fs, he, hi, ha, hc⟩ := hO gr
  have hat := hH.at hi
  rw [he, ha] at hat
  have hrecv := va_recv (q0 := 0) hK.1.1 (va_P1 hat) hc rfl
  have hG : GoodIn lw_good (wsV own index y'.cls y' (wsAll y' cc' maxL' ret')) := by
    intro w hw
    rcases List.mem_append.mp hw with hw | hw
    · have hm : w ∈ lw_good := by
        simp only [List.mem_cons, List.mem_nil_iff, or_false] at hw
        rcases hw with rfl | rfl | rfl | rfl <;> assumption
      exact ⟨hm, good_of_word (List.mem_filter.mp hm).2⟩
    · exact goodAll hcode w hw
  exact call_go (va_runV (cc := cc) (nL := nL) (Ts := lw_good) (own := own) (As := As) (n := n) ⟨hx, hb, hml, hown, hts⟩ (hr.2 l hfl) (cwV n hts hG rfl rfl rfl ⟨rfl, hd⟩ hR) ⟨fb_Pcz, hrecv, fun U hU hW => ⟨rfl, ⟨gr, by rw [hU]; exact hH⟩, hK.1.warm hW⟩⟩ rfl hn hl hst (lv_room hw) d hf) hlo kk
theorem lx_callS {y' : MethodName} {cc' : ByteArray} {maxL' h' n index : Nat} {ret' : Option FieldType} {As : List Value} {o1 : OV} (b : BB p s m args c own cc nL Z) (hfl : l.stackTraces = false) (hl : ls.size = nL) (hH : HH Z I H) (hr : RunsH Z y' cc' maxL' ret' h' As I o1) (hcode : Cond.codeWith y' cc' maxL' ret' (xtb y') ∈ lw_good) (hstat : Cond.static y' ∈ lw_good) (hini : Cond.initialized y'.cls ∈ lw_good) (hd : y'.cls ≠ "java/lang/invoke/MethodHandle" ∧ y'.cls ≠ "java/lang/invoke/VarHandle" ∧ (parseMethodDescriptor y'.desc).map (fun d => d.parameters.length) = some n) (hn : As.length = n) (hst : st = As.reverse ++ rest) (hR : h' + 1 ≤ R.frames ∧ 8 + (maxL' + 11) + 35 * h' ≤ R.locals) (hw : (rest.map fun v => v.category).sum ≤ 8) (hf : cells + dC I o1.2 ≤ R.cells ∧ slots + dS I o1.2 ≤ R.slots)
    (hlink : Cond.methodLink own index y' ∈ lw_good) (hlo : ∀ q ∈ locs, zN Z q.base) (d : decode cc pc = .ok (.invokestatic index, 3))
    (kk : ∀ (H1 : Heap) (locs1 : List Loc), HH Z o1.2 H1 → (∀ q ∈ locs1, zN Z q.base) → W p l e R s m args below meth c H1 locs1 (cells + dC I o1.2) (slots + dS I o1.2) Q (F0 m (pc + 3) ls (o1.1.toList ++ rest))) : W p l e R s m args below meth c H locs cells slots Q (F0 m pc ls st) := by
  obtain ⟨gr, hH⟩ := hH
  obtain ⟨hx, hb, hown, hts, hK, hml⟩ := b
  have hG : GoodIn lw_good (va_wsS own index y' (wsH y' cc' maxL' ret')) := by
    intro w hw
    rcases List.mem_append.mp hw with hw | hw
    · have hm : w ∈ lw_good := by
        simp only [List.mem_cons, List.mem_nil_iff, or_false] at hw
        rcases hw with rfl | rfl | rfl <;> assumption
      exact ⟨hm, good_of_word (List.mem_filter.mp hm).2⟩
    · have hm : w ∈ lw_good := by
        rcases List.mem_cons.mp hw with rfl | hw
        · exact hcode
        · exact hw
      exact ⟨hm, good_of_word (List.mem_filter.mp hm).2⟩
  exact call_go (vx_runSW (cc := cc) (nL := nL) (Ts := lw_good) (own := own) (As := As) (n := n) ⟨hx, hb, hml, hown, hts⟩ (hr.2 l hfl) (vx_cwSW n hts hG rfl rfl rfl hd hR) ⟨fb_Pcz, fun U hU hW => ⟨rfl, ⟨gr, by rw [hU]; exact hH⟩, hK.1.warm hW⟩⟩ rfl hn hl hst (lv_room hw) d hf) hlo kk
theorem lx_S (hH : HH Z I H) (hZ : zB Z = s.heap.size ∧ zH Z = s.heap) (hlo : ∀ q ∈ locs, zN Z q.base) : va_S (zN Z) s.heap H locs := by
  obtain ⟨gr, hH⟩ := hH
  exact ⟨by rw [← hZ.1]; exact hH.1.2.1, fun q h1 h2 => by rw [← hZ.2]; exact hH.1.2.2 q (Nat.not_le.mp h2), hlo⟩
/-- an int of the script is read -/
theorem lx_sld {b0 L q : Nat} {xs : Nat → Int32} {x : Int} (b : BB p s m args c own cc nL Z) (hX : va_X b0 L xs s s.heap) (hbl : b0 < s.heap.size) (hZ : zB Z = s.heap.size ∧ zH Z = s.heap) (hH : HH Z I H) (hlo : ∀ q ∈ locs, zN Z q.base) (hx : w32 x = (q : Int)) (hq : q < L) (d : decode cc pc = .ok (.iaload, 1))
    (kk : W p l e R s m args below meth c H locs cells slots Q (F0 m (pc + 1) ls (vi (xs q).toInt :: rest))) : W p l e R s m args below meth c H locs cells slots Q (F0 m pc ls (vi x :: .ref b0 :: rest)) := by
  refine va_sld b.1 b.2.1 hX hbl (A := zN Z) (by show ¬ zB Z ≤ b0; rw [hZ.1]; omega) (lx_S hH hZ hlo) (w_in hx (by omega : 0 ≤ (q : Int) ∧ (q : Int) < (L : Int)) (by omega)) d ?_
  rw [show (Int32.ofInt x).toNatClampNeg = q from (w_nat hx).trans (Int.toNat_natCast q)]
  rw [show vi (xs q).toInt = Value.int (xs q) from congrArg Value.int (Int32.ofInt_toInt _)] at kk
  exact kk
theorem lx_slen {b0 L : Nat} {xs : Nat → Int32} (b : BB p s m args c own cc nL Z) (hX : va_X b0 L xs s s.heap) (hbl : b0 < s.heap.size) (hZ : zB Z = s.heap.size ∧ zH Z = s.heap) (hH : HH Z I H) (hlo : ∀ q ∈ locs, zN Z q.base) (d : decode cc pc = .ok (.arraylength, 1))
    (kk : W p l e R s m args below meth c H locs cells slots Q (F0 m (pc + 1) ls (vi (L : Int) :: rest))) : W p l e R s m args below meth c H locs cells slots Q (F0 m pc ls (.ref b0 :: rest)) := by
  refine va_slen b.1 b.2.1 hX hbl (A := zN Z) (by show ¬ zB Z ≤ b0; rw [hZ.1]; omega) (lx_S hH hZ hlo) d ?_
  rw [show (Int32.ofNat L) = Int32.ofInt (L : Int) from rfl]
  exact kk
theorem lx_iadd {x y : Int} (b : BB p s m args c own cc nL Z) (d : decode cc pc = .ok (.iadd, 1)) (kk : W p l e R s m args below meth c H locs cells slots Q (F0 m (pc + 1) ls (vi (x + y) :: rest))) : W p l e R s m args below meth c H locs cells slots Q (F0 m pc ls (vi y :: vi x :: rest)) :=
  lv_iadd b.1 b.2.1 d (by rw [i_add]; exact kk)
theorem lx_isub {x y : Int} (b : BB p s m args c own cc nL Z) (d : decode cc pc = .ok (.isub, 1)) (kk : W p l e R s m args below meth c H locs cells slots Q (F0 m (pc + 1) ls (vi (x - y) :: rest))) : W p l e R s m args below meth c H locs cells slots Q (F0 m pc ls (vi y :: vi x :: rest)) :=
  lv_isub b.1 b.2.1 d (by rw [i_sub]; exact kk)
theorem lx_iand {x y : Int} (b : BB p s m args c own cc nL Z) (d : decode cc pc = .ok (.iand, 1)) (kk : W p l e R s m args below meth c H locs cells slots Q (F0 m (pc + 1) ls (vi (ian x y) :: rest))) : W p l e R s m args below meth c H locs cells slots Q (F0 m pc ls (vi y :: vi x :: rest)) := by
  refine lv_iand b.1 b.2.1 d ?_
  rw [show vi (ian x y) = Value.int (Int32.ofInt x &&& Int32.ofInt y) from congrArg Value.int (Int32.ofInt_toInt _)] at kk
  exact kk
theorem lx_i2l {x : Int} (b : BB p s m args c own cc nL Z) (d : decode cc pc = .ok (.i2l, 1)) (kk : W p l e R s m args below meth c H locs cells slots Q (F0 m (pc + 1) ls (vl (w32 x) :: rest))) : W p l e R s m args below meth c H locs cells slots Q (F0 m pc ls (vi x :: rest)) :=
  lv_i2l b.1 b.2.1 d (i2l_ok x) kk
/-- equal: goes on at the target -/
theorem lx_eq {x y : Int} {off : Int} {tgt : Nat} (b : BB p s m args c own cc nL Z) (hxy : w32 x = w32 y) (d : decode cc pc = .ok (.if_icmp .eq off, 3)) (ht : (pc : Int) + off = (tgt : Int)) (kk : W p l e R s m args below meth c H locs cells slots Q (F0 m tgt ls rest)) : W p l e R s m args below meth c H locs cells slots Q (F0 m pc ls (vi y :: vi x :: rest)) :=
  lv_icmp_eq b.1 b.2.1 d ht (fun _ => kk) (fun q => absurd ((w_eq x y).mpr hxy) q)
theorem lx_ifne {x : Int} {off : Int} {tgt : Nat} (b : BB p s m args c own cc nL Z) (d : decode cc pc = .ok (.ifCond .ne off, 3)) (ht : (pc : Int) + off = (tgt : Int)) (k1 : w32 x ≠ 0 → W p l e R s m args below meth c H locs cells slots Q (F0 m tgt ls rest)) (k2 : w32 x = 0 → W p l e R s m args below meth c H locs cells slots Q (F0 m (pc + 3) ls rest)) : W p l e R s m args below meth c H locs cells slots Q (F0 m pc ls (vi x :: rest)) :=
  lv_if_ne b.1 b.2.1 d ht (fun q => k1 (fun z => q ((w_eq x 0).mpr (by rw [z]; rfl)))) (fun q => k2 (by have := (w_eq x 0).mp q; rw [this]; rfl))
theorem lx_ifeq {x : Int} {off : Int} {tgt : Nat} (b : BB p s m args c own cc nL Z) (d : decode cc pc = .ok (.ifCond .eq off, 3)) (ht : (pc : Int) + off = (tgt : Int)) (k1 : w32 x = 0 → W p l e R s m args below meth c H locs cells slots Q (F0 m tgt ls rest)) (k2 : w32 x ≠ 0 → W p l e R s m args below meth c H locs cells slots Q (F0 m (pc + 3) ls rest)) : W p l e R s m args below meth c H locs cells slots Q (F0 m pc ls (vi x :: rest)) :=
  lv_if_eq b.1 b.2.1 d ht (fun q => k1 (by have := (w_eq x 0).mp q; rw [this]; rfl)) (fun q => k2 (fun z => q ((w_eq x 0).mpr (by rw [z]; rfl))))
/-- the law's array of one long is read -/
theorem lx_lald (b : BB p s m args c own cc nL Z) (hH : HH Z I H) (d : decode cc pc = .ok (.laload, 1)) (kk : W p l e R s m args below meth c H locs cells slots Q (F0 m (pc + 1) ls (vl (I 29 0 0) :: rest))) : W p l e R s m args below meth c H locs cells slots Q (F0 m pc ls (vi 0 :: vr Z 29 0 :: rest)) := by
  obtain ⟨gr, hH⟩ := hH
  have hat : va_at (zD Z) cls (zA Z 29 0, .inl (zC Z 3, 1, .inr (.inl fun j => Int64.ofInt (I 29 0 j)))) H := hH.at (k := 29) (i := 0) (by decide)
  exact va_lald b.1 b.2.1 b.2.2.2.2.1.1.1 (va_P1 hat) 0 3 rfl rfl (w_in (x' := 0) (m := 1) (by decide) (by decide) (by decide)) d kk
/-- two longs that are equal -/
theorem lx_lcmp {x y : Int} (b : BB p s m args c own cc nL Z) (hxy : w64 x = w64 y) (d : decode cc pc = .ok (.lcmp, 1)) (kk : W p l e R s m args below meth c H locs cells slots Q (F0 m (pc + 1) ls (vi 0 :: rest))) : W p l e R s m args below meth c H locs cells slots Q (F0 m pc ls (vl y :: vl x :: rest)) := by
  have h : Int64.ofInt x = Int64.ofInt y := by rw [← Int64.toInt_inj, w_toInt64, w_toInt64]; exact hxy
  rw [show vl x = vl y from congrArg Value.long h]
  refine W.lcmp b.1 b.2.1 d ?_
  rw [show lg_cmp (Int64.ofInt y) (Int64.ofInt y) = 0 from by unfold lg_cmp; rw [if_neg (by simp), if_pos rfl]]
  exact kk
end LAWR
