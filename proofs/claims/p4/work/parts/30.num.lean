/-! ===== longs, floats, doubles ===== -/
def w64 (x : Int) : Int := x.bmod 18446744073709551616
abbrev vl (x : Int) : Value := .long (Int64.ofInt x)
theorem w_toInt64 (x : Int) : (Int64.ofInt x).toInt = w64 x := Int64.toInt_ofInt
theorem i2l_ok (x : Int) : (Int32.ofInt x).toInt64 = Int64.ofInt (w32 x) := by
  apply Int64.toInt_inj.mp
  have h1 := w_toInt x
  have h2 := Int32.toInt_lt (Int32.ofInt x)
  have h3 := Int32.le_toInt (Int32.ofInt x)
  rw [Int32.toInt_toInt64, w_toInt64, ← h1]
  unfold w64
  rw [Int.bmod_eq_of_le] <;> omega
def stl2 (i : Nat) (v : Value) (lv : List (Nat × Value)) : List (Nat × Value) := (i, v) :: lv.filter (fun q => !(q.1 == i) && (!(q.1 == i + 1) && !(q.1 + 1 == i && q.2.category == 2)))
section NUMW
variable {p : Program} {l : Launch} {e : Env} {R : Room} {s : State} {m : MethodId} {args : Array Value} {below : List Frame} {meth : Method} {c : Code} {H : Heap} {locs : List Loc} {cells slots : Nat} {Q : State → Prop}
theorem W_ldcwF {cc : ByteArray} {pc : Nat} {ls : Array Slot} {rest : List Value} (hexec : p.tables.exec = Jvm.exec) (hb : c.code = cc) {own : String} {index : Nat} {v : UInt32} (hown : s.vm.findClass own = some m.cls) (hconst : (Cond.constantFloat own index v).before args s = true) (hdg : decode cc pc = .ok (.ldc_w index, 3))
    (k : W p l e R s m args below meth c H locs cells slots Q (F0 m (pc + 3) ls (.float v :: rest))) : W p l e R s m args below meth c H locs cells slots Q (F0 m pc ls rest) := by
  intro T hT X
  obtain ⟨t, a, b⟩ := k T hT X
  refine ⟨t, ?_, b⟩
  obtain ⟨k1, cf, hk, hcf, hcp⟩ := Cond.constantFloat_spec hown hconst
  obtain ⟨k2, hk2, he⟩ := X.warmed.alike.2.2 _ _ hk
  jvm_step X.here [hexec, hb, hdg, ldc_w.wp_float (s := T) (f := F0 m pc ls rest) X.here.top hk2 (by rw [he]; exact hcf) hcp]
  exact a
end NUMW
section NUM
variable {Z : ZT} {Y : YT} {I0 : Mem} {gr : Nat → Nat} {pc : Nat} {lv : List (Nat × Value)} {st : List Value} {I : Mem} {α : Type} {e : Option (α × Mem)} {κ : α → Mem → Option OT}
theorem wq_lconst {n : Fin 2} {v : Int} (hv : Int64.ofNat (n : Nat) = Int64.ofInt v) (d : decode Y.2.1 pc = .ok (.lconst n, 1)) (k : WQ Z Y I0 gr (pc + 1) lv (vl v :: st) I e κ) : WQ Z Y I0 gr pc lv st I e κ :=
  WQ.go (fun _ B _ _ _ ls _ _ _ hl kk => lv_lconst B.1 B.2.1 d hv (kk ls hl)) k
theorem wq_ldc2 {index : Nat} {n : Int} (hw : Cond.constantLong Y.1.cls index (Int64.ofInt n) ∈ lw_good) (d : decode Y.2.1 pc = .ok (.ldc2_w index, 3)) (k : WQ Z Y I0 gr (pc + 3) lv (vl n :: st) I e κ) : WQ Z Y I0 gr pc lv st I e κ :=
  WQ.go (fun _ B _ _ _ ls _ _ _ hl kk => lv_ldc2 B.1 B.2.1 B.2.2.2.1 (B.2.2.2.2.1 _ hw) d (kk ls hl)) k
theorem wq_ldcwF {index : Nat} {n : UInt32} (hw : Cond.constantFloat Y.1.cls index n ∈ lw_good) (d : decode Y.2.1 pc = .ok (.ldc_w index, 3)) (k : WQ Z Y I0 gr (pc + 3) lv (.float n :: st) I e κ) : WQ Z Y I0 gr pc lv st I e κ :=
  WQ.go (fun _ B _ _ _ ls _ _ _ hl kk => W_ldcwF B.1 B.2.1 B.2.2.2.1 (B.2.2.2.2.1 _ hw) d (kk ls hl)) k
theorem wq_lload_n {j : Nat} {x : Int} {c : Fin 4} (d : decode Y.2.1 pc = .ok (.lload_n c, 1)) (j' : Nat) (hj : (c : Nat) = j) (hl : lv[j']? = some (j, vl x)) (k : WQ Z Y I0 gr (pc + 1) lv (vl x :: st) I e κ) : WQ Z Y I0 gr pc lv st I e κ :=
  WQ.go (fun _ B _ _ _ ls _ _ _ h kk => lv_lload_n B.1 B.2.1 d hj (lv_at h j' hl) (kk ls h)) k
theorem wq_lload {j : Nat} {x : Int} (d : decode Y.2.1 pc = .ok (.lload j, 2)) (j' : Nat) (hl : lv[j']? = some (j, vl x)) (k : WQ Z Y I0 gr (pc + 2) lv (vl x :: st) I e κ) : WQ Z Y I0 gr pc lv st I e κ :=
  WQ.go (fun _ B _ _ _ ls _ _ _ h kk => lv_lload B.1 B.2.1 d (lv_at h j' hl) (kk ls h)) k
theorem wq_lstore_n {j : Nat} {x : Int} {lv' : List (Nat × Value)} {c : Fin 4} (d : decode Y.2.1 pc = .ok (.lstore_n c, 1)) (hj : (c : Nat) = j) (hn : j + 1 < Y.2.2.1) (hl : stl2 j (vl x) lv = lv') (k : WQ Z Y I0 gr (pc + 1) lv' st I e κ) : WQ Z Y I0 gr pc lv (vl x :: st) I e κ :=
  WQ.go (fun _ B _ _ _ ls _ _ _ h kk => lv_lstore_n B.1 B.2.1 d hj h hn hl (fun ls' h' => kk ls' h')) k
theorem wq_lstore {j : Nat} {x : Int} {lv' : List (Nat × Value)} (d : decode Y.2.1 pc = .ok (.lstore j, 2)) (hn : j + 1 < Y.2.2.1) (hl : stl2 j (vl x) lv = lv') (k : WQ Z Y I0 gr (pc + 2) lv' st I e κ) : WQ Z Y I0 gr pc lv (vl x :: st) I e κ :=
  WQ.go (fun _ B _ _ _ ls _ _ _ h kk => lv_lstore B.1 B.2.1 d h hn hl (fun ls' h' => kk ls' h')) k
theorem wq_ladd {x y : Int} (d : decode Y.2.1 pc = .ok (.ladd, 1)) (k : WQ Z Y I0 gr (pc + 1) lv (vl (x + y) :: st) I e κ) : WQ Z Y I0 gr pc lv (vl y :: vl x :: st) I e κ :=
  WQ.go (fun _ B _ _ _ ls _ _ _ hl kk => lv_ladd B.1 B.2.1 d (by rw [← Int64.ofInt_add]; exact kk ls hl)) k
theorem wq_lmul {x y : Int} (d : decode Y.2.1 pc = .ok (.lmul, 1)) (k : WQ Z Y I0 gr (pc + 1) lv (vl (x * y) :: st) I e κ) : WQ Z Y I0 gr pc lv (vl y :: vl x :: st) I e κ :=
  WQ.go (fun _ B _ _ _ ls _ _ _ hl kk => lv_lmul B.1 B.2.1 d (by rw [← Int64.ofInt_mul]; exact kk ls hl)) k
theorem wq_i2l {x : Int} (d : decode Y.2.1 pc = .ok (.i2l, 1)) (k : WQ Z Y I0 gr (pc + 1) lv (vl (w32 x) :: st) I e κ) : WQ Z Y I0 gr pc lv (vi x :: st) I e κ :=
  WQ.go (fun _ B _ _ _ ls _ _ _ hl kk => lv_i2l B.1 B.2.1 d (i2l_ok x) (kk ls hl)) k
theorem wq_fconst1 (d : decode Y.2.1 pc = .ok (.fconst 1, 1)) (k : WQ Z Y I0 gr (pc + 1) lv (.float FP.fconst1 :: st) I e κ) : WQ Z Y I0 gr pc lv st I e κ :=
  WQ.go (fun _ B _ _ _ ls _ _ _ hl kk => lv_fconst1 B.1 B.2.1 d (kk ls hl)) k
theorem wq_fconst2 (d : decode Y.2.1 pc = .ok (.fconst 2, 1)) (k : WQ Z Y I0 gr (pc + 1) lv (.float FP.fconst2 :: st) I e κ) : WQ Z Y I0 gr pc lv st I e κ :=
  WQ.go (fun _ B _ _ _ ls _ _ _ hl kk => lv_fconst2 B.1 B.2.1 d (kk ls hl)) k
theorem wq_dconst0 (d : decode Y.2.1 pc = .ok (.dconst 0, 1)) (k : WQ Z Y I0 gr (pc + 1) lv (.double FP.dconst0 :: st) I e κ) : WQ Z Y I0 gr pc lv st I e κ :=
  WQ.go (fun _ B _ _ _ ls _ _ _ hl kk => lv_dconst0 B.1 B.2.1 d (kk ls hl)) k
theorem wq_fload_n {j : Nat} {x : UInt32} {c : Fin 4} (d : decode Y.2.1 pc = .ok (.fload_n c, 1)) (j' : Nat) (hj : (c : Nat) = j) (hl : lv[j']? = some (j, .float x)) (k : WQ Z Y I0 gr (pc + 1) lv (.float x :: st) I e κ) : WQ Z Y I0 gr pc lv st I e κ :=
  WQ.go (fun _ B _ _ _ ls _ _ _ h kk => lv_fload_n B.1 B.2.1 d hj (lv_at h j' hl) (kk ls h)) k
theorem wq_fstore_n {j : Nat} {x : UInt32} {lv' : List (Nat × Value)} {c : Fin 4} (d : decode Y.2.1 pc = .ok (.fstore_n c, 1)) (hj : (c : Nat) = j) (hn : j < Y.2.2.1) (hl : stl j (.float x) lv = lv') (k : WQ Z Y I0 gr (pc + 1) lv' st I e κ) : WQ Z Y I0 gr pc lv (.float x :: st) I e κ :=
  WQ.go (fun _ B _ _ _ ls _ _ _ h kk => lv_fstore_n B.1 B.2.1 d hj h hn hl (fun ls' h' => kk ls' h')) k
theorem wq_i2f {x : Int} (d : decode Y.2.1 pc = .ok (.i2f, 1)) (k : WQ Z Y I0 gr (pc + 1) lv (.float (FP.i2f (Int32.ofInt x)) :: st) I e κ) : WQ Z Y I0 gr pc lv (vi x :: st) I e κ :=
  WQ.go (fun _ B _ _ _ ls _ _ _ hl kk => lv_i2f B.1 B.2.1 d (kk ls hl)) k
theorem wq_i2d {x : Int} (d : decode Y.2.1 pc = .ok (.i2d, 1)) (k : WQ Z Y I0 gr (pc + 1) lv (.double (FP.i2d (Int32.ofInt x)) :: st) I e κ) : WQ Z Y I0 gr pc lv (vi x :: st) I e κ :=
  WQ.go (fun _ B _ _ _ ls _ _ _ hl kk => lv_i2d B.1 B.2.1 d (kk ls hl)) k
theorem wq_f2i {x : UInt32} (d : decode Y.2.1 pc = .ok (.f2i, 1)) (k : WQ Z Y I0 gr (pc + 1) lv (vi (FP.f2i x).toInt :: st) I e κ) : WQ Z Y I0 gr pc lv (.float x :: st) I e κ :=
  WQ.go (fun _ B _ _ _ ls _ _ _ hl kk => lv_f2i B.1 B.2.1 d (by have := kk ls hl; simp only [vi, Int32.ofInt_toInt] at this; exact this)) k
theorem wq_fcmp {x y : UInt32} {op : CmpOp} (d : decode Y.2.1 pc = .ok (.fcmp op, 1)) (k : WQ Z Y I0 gr (pc + 1) lv (vi (Op.cmpValue (FP.fcmp x y) op).toInt :: st) I e κ) : WQ Z Y I0 gr pc lv (.float y :: .float x :: st) I e κ :=
  WQ.go (fun _ B _ _ _ ls _ _ _ hl kk => lv_fcmp B.1 B.2.1 d (by have := kk ls hl; simp only [vi, Int32.ofInt_toInt] at this; exact this)) k
theorem wq_fsub {x y : UInt32} (h : vf_n32 (FP.fsub x y)) (d : decode Y.2.1 pc = .ok (.fsub, 1)) (k : WQ Z Y I0 gr (pc + 1) lv (.float (FP.fsub x y) :: st) I e κ) : WQ Z Y I0 gr pc lv (.float y :: .float x :: st) I e κ :=
  WQ.go (fun _ B _ _ _ ls _ _ _ hl kk => lv_fsub B.1 B.2.1 d h (kk ls hl)) k
theorem wq_fmul {x y : UInt32} (h : vf_n32 (FP.fmul x y)) (d : decode Y.2.1 pc = .ok (.fmul, 1)) (k : WQ Z Y I0 gr (pc + 1) lv (.float (FP.fmul x y) :: st) I e κ) : WQ Z Y I0 gr pc lv (.float y :: .float x :: st) I e κ :=
  WQ.go (fun _ B _ _ _ ls _ _ _ hl kk => lv_fmul B.1 B.2.1 d h (kk ls hl)) k
theorem wq_fdiv {x y : UInt32} (h : vf_n32 (FP.fdiv x y)) (d : decode Y.2.1 pc = .ok (.fdiv, 1)) (k : WQ Z Y I0 gr (pc + 1) lv (.float (FP.fdiv x y) :: st) I e κ) : WQ Z Y I0 gr pc lv (.float y :: .float x :: st) I e κ :=
  WQ.go (fun _ B _ _ _ ls _ _ _ hl kk => lv_fdiv B.1 B.2.1 d h (kk ls hl)) k
theorem wq_ddiv {x y : UInt64} (h : vf_n64 (FP.ddiv x y)) (d : decode Y.2.1 pc = .ok (.ddiv, 1)) (k : WQ Z Y I0 gr (pc + 1) lv (.double (FP.ddiv x y) :: st) I e κ) : WQ Z Y I0 gr pc lv (.double y :: .double x :: st) I e κ :=
  WQ.go (fun _ B _ _ _ ls _ _ _ hl kk => lv_ddiv B.1 B.2.1 d h (kk ls hl)) k
theorem wq_lret {x : Int} {b : α} (hr : Y.2.2.2.1 = some .long) (h : κ b I = some (.inl (some (vl x)), I)) (d : decode Y.2.1 pc = .ok (.lreturn, 1)) : WQ Z Y I0 gr pc lv [vl x] I (some (b, I)) κ := by
  intro o ho
  have ho : some o = some (.inl (some (vl x)), I) := ho.symm.trans h
  cases ho
  refine ⟨cle.refl I, fun X B hcl H locs ls hH hlo hl => ?_⟩
  exact W.lret (hlocks := B.2.2.2.2.2.2.2.1) B.1 B.2.1 (B.2.2.2.2.2.2.1.trans hr) (fun t ht _ => ⟨rfl, gr, by rw [ht]; exact hH⟩) hlo d
theorem wq_dret {x : UInt64} {b : α} (hr : Y.2.2.2.1 = some .double) (h : κ b I = some (.inl (some (.double x)), I)) (d : decode Y.2.1 pc = .ok (.dreturn, 1)) : WQ Z Y I0 gr pc lv [.double x] I (some (b, I)) κ := by
  intro o ho
  have ho : some o = some (.inl (some (.double x)), I) := ho.symm.trans h
  cases ho
  refine ⟨cle.refl I, fun X B hcl H locs ls hH hlo hl => ?_⟩
  exact W.dret (hlocks := B.2.2.2.2.2.2.2.1) B.1 B.2.1 (B.2.2.2.2.2.2.1.trans hr) (fun t ht _ => ⟨rfl, gr, by rw [ht]; exact hH⟩) hlo d
/-- a virtual call that answers with a long -/
theorem wq_cVl {f : Option (Int × Mem)} {K : Int → Mem → Option (α × Mem)} {y' : MethodName} {cc' : ByteArray} {maxL' h' index n a : Nat} {ret' : Option FieldType} {As rest : List Value} (hM : MwV y' cc' maxL' ret' n) (hr : ∀ (r : Int) (J : Mem), f = some (r, J) → Runs Z y' cc' maxL' ret' h' (.ref a :: As) I (some (vl r), J))
    (hO : Ob Z gr I a y'.cls) (hn : As.length = n) (hst : st = As.reverse ++ .ref a :: rest) (hh : h' < Y.2.2.2.2) (hm : maxL' ≤ 16) (hw : (rest.map fun v => v.category).sum ≤ 8)
    (hlink : Cond.methodLink Y.1.cls index y' ∈ lw_good) (d : decode Y.2.1 pc = .ok (.invokevirtual index, 3))
    (kk : ∀ (gr' : Nat → Nat) (r : Int) (J : Mem), WQ Z Y I0 gr' (pc + 3) lv (vl r :: rest) J (K r J) κ) : WQ Z Y I0 gr pc lv st I (bnd f K) κ := wq_cV (rv := fun r => some (vl r)) hM hr hO hn hst hh hm hw hlink d kk
theorem wq_rawbits {x : UInt32} {index : Nat} (hh : 1 ≤ Y.2.2.2.2) (hw : (st.map fun v => v.category).sum ≤ 8) (hln : Cond.methodLink Y.1.cls index ⟨"java/lang/Float", "floatToRawIntBits", "(F)I"⟩ ∈ lw_good) (d : decode Y.2.1 pc = .ok (.invokestatic index, 3))
    (k : WQ Z Y I0 gr (pc + 3) lv (vi x.toInt32.toInt :: st) I e κ) : WQ Z Y I0 gr pc lv (.float x :: st) I e κ := by
  refine WQ.go (fun X B o H locs ls cells slots hH hl kk => ?_) k
  have hgd := fun w (hw : w ∈ lw_good) => B.2.2.2.2.1 w hw
  refine vn_f2i B.1 B.2.1 (B.2.2.1.trans hl.1.symm) B.2.2.2.1 (hgd _ hln) (hgd _ (li_9 111 (by decide +kernel) (by decide +kernel))) (hgd _ (li_9 110 (by decide +kernel) (by decide +kernel))) (hgd _ (li_1 28 (by decide +kernel) (by decide +kernel))) hh ?_ d ?_
  · show _ + 15 ≤ 35 * Y.2.2.2.2
    omega
  · have := kk ls hl
    simp only [vi, Int32.ofInt_toInt] at this
    exact this
end NUM
theorem Met_ofF {l : Launch} {y : MethodName} {ws ws' : List Cond} {rm : Room} {Pc : Array Value → State → Prop} {Qc : Array Value → State → Outcome → State → Prop} {mc ms : Nat} {free : Addr → Prop} {cc : ByteArray} {maxL : Nat} {ret : Option FieldType}
    (hy : plainFor y = true) (hw : ws = Cond.code y cc maxL ret :: ws')
    (body : ∀ p e s m args below meth c s₁, BodyLoose p l y (headSpec ws rm) cc maxL ret e s m args below meth c s₁ → c.maxLocals = maxL → Pc args s →
      W p l e (headSpec ws rm).room s m args below meth c s.heap [] 0 0 (MQ below Qc args s mc ms free) (entryFrame m args maxL)) : Met l y ws rm Pc Qc mc ms free := by
  refine MetFree.of_bodySF (code := cc) (maxLocals := maxL) (ret := ret) hy ?_ ?_
  · intro args s m h hn
    obtain ⟨meth, c, h1, h2, h3, h4, h5, h6, -, -⟩ := Cond.code_spec hn (atoms_spec (ws := ws) h _ (by rw [hw]; exact List.mem_cons_self))
    exact ⟨meth, c, h1, h2, h3, h4, h5, h6⟩
  · intro p e s m args below meth c s₁ B hml hP _
    have hh0 : s₁.heap = s.heap := by rw [B.state]; rfl
    obtain ⟨t, a1, o, b1, b2, b3, b4⟩ := body p e s m args below meth c s₁ B hml hP s₁ hh0 (Stand.of_body B)
    exact ⟨t, o, a1, b1, b2, b3, b4⟩
theorem Runs.ofF {Z : ZT} {I : Mem} {β : Type} {rv : β → Option Value} {r : β} {J : Mem} {f : Option (β × Mem)} {y : MethodName} {cc : ByteArray} {maxL h : Nat} {ret : Option FieldType} {av : List Value} (hy : (plainFor y && (xtb y).isEmpty) = true) (hlen : (lg_sl av).length ≤ maxL) (hf : f = some (r, J))
    (k : ∀ gr : Nat → Nat, WQ Z (y, cc, maxL, ret, h) I gr 0 (lv_args 0 av) [] I f (fun b K => some (.inl (rv b), K))) : Runs Z y cc maxL ret h av I (rv r, J) := by
  have k := fun gr => k gr (.inl (rv r), J) (by rw [hf]; rfl)
  refine ⟨(k (fun _ => 0)).1, fun l hfl => ?_⟩
  rw [Bool.and_eq_true] at hy
  refine Met_ofF (cc := cc) (maxL := maxL) (ret := ret) hy.1 rfl ?_
  intro p e s m args below meth c s₁ B hml hv
  have htb := tab_nil (ws := wsAll y cc maxL ret) B List.mem_cons_self hy.2
  obtain ⟨rfl, ⟨gr, hH⟩, hKK⟩ := hv
  have hts : ∀ w ∈ lw_good, w.before av.toArray s = true := fun w hw => atoms_spec (ws := wsAll y cc maxL ret) B.pre w (List.mem_cons_of_mem _ hw)
  have hown := findClass_of_methodNamed B.named
  have hl := lv_entry av (n := maxL) hlen
  rw [lg_entry_eq]
  have hk := (k gr).2 (p, l, e, s, m, av.toArray, below, meth, c) ⟨B.exec, B.bytes, hml, hown, hts, hKK, B.returns, B.notSynchronized, hfl, htb, I, gr, hH⟩ (cle.refl I) s.heap [] _ hH (fun q hq => by cases hq) hl
  have e1 : dC I I = 0 := by unfold dC; omega
  have e2 : dS I I = 0 := by unfold dS; omega
  rw [e1, e2] at hk
  exact hk
theorem M_isNaN : MwS yJxf58ca_isNaN_12338 cJxf58ca_isNaN_12338 1 (some .boolean) 1 := ⟨li_9 108 (by decide +kernel) (by decide +kernel), li_9 107 (by decide +kernel) (by decide +kernel), li_1 28 (by decide +kernel) (by decide +kernel), by decide +kernel⟩
theorem M_f2ib : MwS yJxf58ca_floatToIntBits_5c35a cJxf58ca_floatToIntBits_5c35a 1 (some .int) 1 := ⟨li_9 105 (by decide +kernel) (by decide +kernel), li_9 104 (by decide +kernel) (by decide +kernel), li_1 28 (by decide +kernel) (by decide +kernel), by decide +kernel⟩
theorem R_isNaN (Z : ZT) (x : UInt32) (hx : Op.cmpValue (FP.fcmp x x) .l = 0) (I : Mem) : Runs Z yJxf58ca_isNaN_12338 cJxf58ca_isNaN_12338 1 (some .boolean) 1 [.float x] I (some (vi 0), I) := by
  refine Runs.ofF (rv := fun x => some (vi x)) (r := (0 : Int)) (f := some (0, I)) (by decide +kernel) (Nat.le_of_ble_eq_true rfl) rfl (fun gr => ?_)
  refine WQ.loc [0] (lv' := [(0, .float x)]) rfl ?_
  refine wq_fload_n dJxf58ca_isNaN_12338_0 0 rfl rfl ?_
  refine wq_fload_n dJxf58ca_isNaN_12338_1 0 rfl rfl ?_
  refine wq_fcmp dJxf58ca_isNaN_12338_2 ?_
  rw [hx]
  refine WQ.both (((0 : Int)) = 0) ?_
  refine wq_if_eq 10 dJxf58ca_isNaN_12338_3 (by decide) rfl (fun _ => ?_) (fun h => absurd rfl h)
  refine wq_iconst dJxf58ca_isNaN_12338_10 ?_
  exact wq_zret rfl (by decide) rfl dJxf58ca_isNaN_12338_11
theorem R_f2ib (Z : ZT) (x : UInt32) (hx : Op.cmpValue (FP.fcmp x x) .l = 0) (I : Mem) : Runs Z yJxf58ca_floatToIntBits_5c35a cJxf58ca_floatToIntBits_5c35a 1 (some .int) 2 [.float x] I (some (vi x.toInt32.toInt), I) := by
  refine Runs.ofF (rv := fun x => some (vi x)) (r := x.toInt32.toInt) (f := some (x.toInt32.toInt, I)) (by decide +kernel) (Nat.le_of_ble_eq_true rfl) rfl (fun gr => ?_)
  refine WQ.loc [0] (lv' := [(0, .float x)]) rfl ?_
  refine wq_fload_n dJxf58ca_floatToIntBits_5c35a_0 0 rfl rfl ?_
  refine wq_pSX M_isNaN (R_isNaN Z x hx I) rfl rfl (by decide) (by decide) (Nat.le_of_ble_eq_true rfl) (li_9 106 (by decide +kernel) (by decide +kernel)) dJxf58ca_floatToIntBits_5c35a_1 (fun gr1 => ?_)
  refine WQ.both (((0 : Int)) = 0) ?_
  refine wq_if_ne 12 dJxf58ca_floatToIntBits_5c35a_4 (by decide) rfl (fun _ => ?_) (fun h => absurd rfl h)
  refine wq_fload_n dJxf58ca_floatToIntBits_5c35a_7 0 rfl rfl ?_
  refine wq_rawbits (by decide) (Nat.le_of_ble_eq_true rfl) (li_9 109 (by decide +kernel) (by decide +kernel)) dJxf58ca_floatToIntBits_5c35a_8 ?_
  exact wq_iret rfl rfl dJxf58ca_floatToIntBits_5c35a_11
