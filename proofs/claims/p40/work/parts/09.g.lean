section
/-! ===== longs, floats, doubles ===== -/
def w64 (x : Int) : Int := x.bmod 18446744073709551616
abbrev vl (x : Int) : Value := .long (Int64.ofInt x)
theorem w_toInt64 (x : Int) : (Int64.ofInt x).toInt = w64 x := Int64.toInt_ofInt
theorem i2l_ok (x : Int) : (Int32.ofInt x).toInt64 = Int64.ofInt (w32 x) := by
  apply Int64.toInt_inj.mp
  have h1 := w_toInt x
  have h2 := Int32.toInt_lt (Int32.ofInt x)
  have h3 := Int32.le_toInt (Int32.ofInt x)
  rw [Int32.toInt_toInt64, w_toInt64, ← h1]
  unfold w64
  rw [Int.bmod_eq_of_le] <;> omega
def stl2 (i : Nat) (v : Value) (lv : List (Nat × Value)) : List (Nat × Value) := (i, v) :: lv.filter (fun q => !(q.1 == i) && (!(q.1 == i + 1) && !(q.1 + 1 == i && q.2.category == 2)))
section NUMW
variable {p : Program} {l : Launch} {e : Env} {R : Room} {s : State} {m : MethodId} {args : Array Value} {below : List Frame} {meth : Method} {c : Code} {H : Heap} {locs : List Loc} {cells slots : Nat} {Q : State → Prop}
theorem W_ldcwF {cc : ByteArray} {pc : Nat} {ls : Array Slot} {rest : List Value} (hexec : p.tables.exec = Jvm.exec) (hb : c.code = cc) {own : String} {index : Nat} {v : UInt32} (hown : s.vm.findClass own = some m.cls) (hconst : (Cond.constantFloat own index v).before args s = true) (hdg : decode cc pc = .ok (.ldc_w index, 3))
    (k : W p l e R s m args below meth c H locs cells slots Q (F0 m (pc + 3) ls (.float v :: rest))) : W p l e R s m args below meth c H locs cells slots Q (F0 m pc ls rest) := by
  intro T hT X
  obtain ⟨t, a, b⟩ := k T hT X
  refine ⟨t, ?_, b⟩
  obtain ⟨k1, cf, hk, hcf, hcp⟩ := Cond.constantFloat_spec hown hconst
  obtain ⟨k2, hk2, he⟩ := X.warmed.alike.2.2 _ _ hk
  jvm_step X.here [hexec, hb, hdg, ldc_w.wp_float (s := T) (f := F0 m pc ls rest) X.here.top hk2 (by rw [he]; exact hcf) hcp]
  exact a
end NUMW
section NUM
variable {Z : ZT} {Y : YT} {I0 : Mem} {gr : Nat → Nat} {pc : Nat} {lv : List (Nat × Value)} {st : List Value} {I : Mem} {α : Type} {e : Option (α × Mem)} {κ : α → Mem → Option OT}
theorem wq_lconst {n : Fin 2} {v : Int} (hv : Int64.ofNat (n : Nat) = Int64.ofInt v) (d : decode Y.2.1 pc = .ok (.lconst n, 1)) (k : WQ Z Y I0 gr (pc + 1) lv (vl v :: st) I e κ) : WQ Z Y I0 gr pc lv st I e κ :=
  WQ.go (fun _ B _ _ _ ls _ _ _ hl kk => lv_lconst B.1 B.2.1 d hv (kk ls hl)) k
theorem wq_ldc2 {index : Nat} {n : Int} (hw : Cond.constantLong Y.1.cls index (Int64.ofInt n) ∈ lw_good) (d : decode Y.2.1 pc = .ok (.ldc2_w index, 3)) (k : WQ Z Y I0 gr (pc + 3) lv (vl n :: st) I e κ) : WQ Z Y I0 gr pc lv st I e κ :=
  WQ.go (fun _ B _ _ _ ls _ _ _ hl kk => lv_ldc2 B.1 B.2.1 B.2.2.2.1 (B.2.2.2.2.1 _ hw) d (kk ls hl)) k
theorem wq_ldcwF {index : Nat} {n : UInt32} (hw : Cond.constantFloat Y.1.cls index n ∈ lw_good) (d : decode Y.2.1 pc = .ok (.ldc_w index, 3)) (k : WQ Z Y I0 gr (pc + 3) lv (.float n :: st) I e κ) : WQ Z Y I0 gr pc lv st I e κ :=
  WQ.go (fun _ B _ _ _ ls _ _ _ hl kk => W_ldcwF B.1 B.2.1 B.2.2.2.1 (B.2.2.2.2.1 _ hw) d (kk ls hl)) k
theorem wq_lload_n {j : Nat} {x : Int} {c : Fin 4} (d : decode Y.2.1 pc = .ok (.lload_n c, 1)) (j' : Nat) (hj : (c : Nat) = j) (hl : lv[j']? = some (j, vl x)) (k : WQ Z Y I0 gr (pc + 1) lv (vl x :: st) I e κ) : WQ Z Y I0 gr pc lv st I e κ :=
  WQ.go (fun _ B _ _ _ ls _ _ _ h kk => lv_lload_n B.1 B.2.1 d hj (lv_at h j' hl) (kk ls h)) k
theorem wq_lload {j : Nat} {x : Int} (d : decode Y.2.1 pc = .ok (.lload j, 2)) (j' : Nat) (hl : lv[j']? = some (j, vl x)) (k : WQ Z Y I0 gr (pc + 2) lv (vl x :: st) I e κ) : WQ Z Y I0 gr pc lv st I e κ :=
  WQ.go (fun _ B _ _ _ ls _ _ _ h kk => lv_lload B.1 B.2.1 d (lv_at h j' hl) (kk ls h)) k
theorem wq_lstore_n {j : Nat} {x : Int} {lv' : List (Nat × Value)} {c : Fin 4} (d : decode Y.2.1 pc = .ok (.lstore_n c, 1)) (hj : (c : Nat) = j) (hn : j + 1 < Y.2.2.1) (hl : stl2 j (vl x) lv = lv') (k : WQ Z Y I0 gr (pc + 1) lv' st I e κ) : WQ Z Y I0 gr pc lv (vl x :: st) I e κ :=
  WQ.go (fun _ B _ _ _ ls _ _ _ h kk => lv_lstore_n B.1 B.2.1 d hj h hn hl (fun ls' h' => kk ls' h')) k
theorem wq_lstore {j : Nat} {x : Int} {lv' : List (Nat × Value)} (d : decode Y.2.1 pc = .ok (.lstore j, 2)) (hn : j + 1 < Y.2.2.1) (hl : stl2 j (vl x) lv = lv') (k : WQ Z Y I0 gr (pc + 2) lv' st I e κ) : WQ Z Y I0 gr pc lv (vl x :: st) I e κ :=
  WQ.go (fun _ B _ _ _ ls _ _ _ h kk => lv_lstore B.1 B.2.1 d h hn hl (fun ls' h' => kk ls' h')) k
theorem wq_ladd {x y : Int} (d : decode Y.2.1 pc = .ok (.ladd, 1)) (k : WQ Z Y I0 gr (pc + 1) lv (vl (x + y) :: st) I e κ) : WQ Z Y I0 gr pc lv (vl y :: vl x :: st) I e κ :=
  WQ.go (fun _ B _ _ _ ls _ _ _ hl kk => lv_ladd B.1 B.2.1 d (by rw [← Int64.ofInt_add]; exact kk ls hl)) k
theorem wq_lmul {x y : Int} (d : decode Y.2.1 pc = .ok (.lmul, 1)) (k : WQ Z Y I0 gr (pc + 1) lv (vl (x * y) :: st) I e κ) : WQ Z Y I0 gr pc lv (vl y :: vl x :: st) I e κ :=
  WQ.go (fun _ B _ _ _ ls _ _ _ hl kk => lv_lmul B.1 B.2.1 d (by rw [← Int64.ofInt_mul]; exact kk ls hl)) k
theorem wq_i2l {x : Int} (d : decode Y.2.1 pc = .ok (.i2l, 1)) (k : WQ Z Y I0 gr (pc + 1) lv (vl (w32 x) :: st) I e κ) : WQ Z Y I0 gr pc lv (vi x :: st) I e κ :=
  WQ.go (fun _ B _ _ _ ls _ _ _ hl kk => lv_i2l B.1 B.2.1 d (i2l_ok x) (kk ls hl)) k
theorem wq_fconst1 (d : decode Y.2.1 pc = .ok (.fconst 1, 1)) (k : WQ Z Y I0 gr (pc + 1) lv (.float FP.fconst1 :: st) I e κ) : WQ Z Y I0 gr pc lv st I e κ :=
  WQ.go (fun _ B _ _ _ ls _ _ _ hl kk => lv_fconst1 B.1 B.2.1 d (kk ls hl)) k
theorem wq_fconst2 (d : decode Y.2.1 pc = .ok (.fconst 2, 1)) (k : WQ Z Y I0 gr (pc + 1) lv (.float FP.fconst2 :: st) I e κ) : WQ Z Y I0 gr pc lv st I e κ :=
  WQ.go (fun _ B _ _ _ ls _ _ _ hl kk => lv_fconst2 B.1 B.2.1 d (kk ls hl)) k
theorem wq_dconst0 (d : decode Y.2.1 pc = .ok (.dconst 0, 1)) (k : WQ Z Y I0 gr (pc + 1) lv (.double FP.dconst0 :: st) I e κ) : WQ Z Y I0 gr pc lv st I e κ :=
  WQ.go (fun _ B _ _ _ ls _ _ _ hl kk => lv_dconst0 B.1 B.2.1 d (kk ls hl)) k
theorem wq_fload_n {j : Nat} {x : UInt32} {c : Fin 4} (d : decode Y.2.1 pc = .ok (.fload_n c, 1)) (j' : Nat) (hj : (c : Nat) = j) (hl : lv[j']? = some (j, .float x)) (k : WQ Z Y I0 gr (pc + 1) lv (.float x :: st) I e κ) : WQ Z Y I0 gr pc lv st I e κ :=
  WQ.go (fun _ B _ _ _ ls _ _ _ h kk => lv_fload_n B.1 B.2.1 d hj (lv_at h j' hl) (kk ls h)) k
theorem wq_fstore_n {j : Nat} {x : UInt32} {lv' : List (Nat × Value)} {c : Fin 4} (d : decode Y.2.1 pc = .ok (.fstore_n c, 1)) (hj : (c : Nat) = j) (hn : j < Y.2.2.1) (hl : stl j (.float x) lv = lv') (k : WQ Z Y I0 gr (pc + 1) lv' st I e κ) : WQ Z Y I0 gr pc lv (.float x :: st) I e κ :=
  WQ.go (fun _ B _ _ _ ls _ _ _ h kk => lv_fstore_n B.1 B.2.1 d hj h hn hl (fun ls' h' => kk ls' h')) k
theorem wq_i2f {x : Int} (d : decode Y.2.1 pc = .ok (.i2f, 1)) (k : WQ Z Y I0 gr (pc + 1) lv (.float (FP.i2f (Int32.ofInt x)) :: st) I e κ) : WQ Z Y I0 gr pc lv (vi x :: st) I e κ :=
  WQ.go (fun _ B _ _ _ ls _ _ _ hl kk => lv_i2f B.1 B.2.1 d (kk ls hl)) k
theorem wq_i2d {x : Int} (d : decode Y.2.1 pc = .ok (.i2d, 1)) (k : WQ Z Y I0 gr (pc + 1) lv (.double (FP.i2d (Int32.ofInt x)) :: st) I e κ) : WQ Z Y I0 gr pc lv (vi x :: st) I e κ :=
  WQ.go (fun _ B _ _ _ ls _ _ _ hl kk => lv_i2d B.1 B.2.1 d (kk ls hl)) k
theorem wq_f2i {x : UInt32} (d : decode Y.2.1 pc = .ok (.f2i, 1)) (k : WQ Z Y I0 gr (pc + 1) lv (vi (FP.f2i x).toInt :: st) I e κ) : WQ Z Y I0 gr pc lv (.float x :: st) I e κ :=
  WQ.go (fun _ B _ _ _ ls _ _ _ hl kk => lv_f2i B.1 B.2.1 d (by have := kk ls hl; simp only [vi, Int32.ofInt_toInt] at this; exact this)) k
theorem wq_fcmp {x y : UInt32} {op : CmpOp} (d : decode Y.2.1 pc = .ok (.fcmp op, 1)) (k : WQ Z Y I0 gr (pc + 1) lv (vi (Op.cmpValue (FP.fcmp x y) op).toInt :: st) I e κ) : WQ Z Y I0 gr pc lv (.float y :: .float x :: st) I e κ :=
  WQ.go (fun _ B _ _ _ ls _ _ _ hl kk => lv_fcmp B.1 B.2.1 d (by have := kk ls hl; simp only [vi, Int32.ofInt_toInt] at this; exact this)) k
theorem wq_fsub {x y : UInt32} (h : vf_n32 (FP.fsub x y)) (d : decode Y.2.1 pc = .ok (.fsub, 1)) (k : WQ Z Y I0 gr (pc + 1) lv (.float (FP.fsub x y) :: st) I e κ) : WQ Z Y I0 gr pc lv (.float y :: .float x :: st) I e κ :=
  WQ.go (fun _ B _ _ _ ls _ _ _ hl kk => lv_fsub B.1 B.2.1 d h (kk ls hl)) k
theorem wq_fmul {x y : UInt32} (h : vf_n32 (FP.fmul x y)) (d : decode Y.2.1 pc = .ok (.fmul, 1)) (k : WQ Z Y I0 gr (pc + 1) lv (.float (FP.fmul x y) :: st) I e κ) : WQ Z Y I0 gr pc lv (.float y :: .float x :: st) I e κ :=
  WQ.go (fun _ B _ _ _ ls _ _ _ hl kk => lv_fmul B.1 B.2.1 d h (kk ls hl)) k
theorem wq_fdiv {x y : UInt32} (h : vf_n32 (FP.fdiv x y)) (d : decode Y.2.1 pc = .ok (.fdiv, 1)) (k : WQ Z Y I0 gr (pc + 1) lv (.float (FP.fdiv x y) :: st) I e κ) : WQ Z Y I0 gr pc lv (.float y :: .float x :: st) I e κ :=
  WQ.go (fun _ B _ _ _ ls _ _ _ hl kk => lv_fdiv B.1 B.2.1 d h (kk ls hl)) k
theorem wq_ddiv {x y : UInt64} (h : vf_n64 (FP.ddiv x y)) (d : decode Y.2.1 pc = .ok (.ddiv, 1)) (k : WQ Z Y I0 gr (pc + 1) lv (.double (FP.ddiv x y) :: st) I e κ) : WQ Z Y I0 gr pc lv (.double y :: .double x :: st) I e κ :=
  WQ.go (fun _ B _ _ _ ls _ _ _ hl kk => lv_ddiv B.1 B.2.1 d h (kk ls hl)) k
theorem wq_lret {x : Int} {b : α} (hr : Y.2.2.2.1 = some .long) (h : κ b I = some (.inl (some (vl x)), I)) (d : decode Y.2.1 pc = .ok (.lreturn, 1)) : WQ Z Y I0 gr pc lv [vl x] I (some (b, I)) κ := by
  intro o ho
  have ho : some o = some (.inl (some (vl x)), I) := ho.symm.trans h
  cases ho
  refine ⟨cle.refl I, fun X B hcl H locs ls hH hlo hl => ?_⟩
  exact W.lret (hlocks := B.2.2.2.2.2.2.2.1) B.1 B.2.1 (B.2.2.2.2.2.2.1.trans hr) (fun t ht _ => ⟨rfl, gr, by rw [ht]; exact hH⟩) hlo d
theorem wq_dret {x : UInt64} {b : α} (hr : Y.2.2.2.1 = some .double) (h : κ b I = some (.inl (some (.double x)), I)) (d : decode Y.2.1 pc = .ok (.dreturn, 1)) : WQ Z Y I0 gr pc lv [.double x] I (some (b, I)) κ := by
  intro o ho
  have ho : some o = some (.inl (some (.double x)), I) := ho.symm.trans h
  cases ho
  refine ⟨cle.refl I, fun X B hcl H locs ls hH hlo hl => ?_⟩
  exact W.dret (hlocks := B.2.2.2.2.2.2.2.1) B.1 B.2.1 (B.2.2.2.2.2.2.1.trans hr) (fun t ht _ => ⟨rfl, gr, by rw [ht]; exact hH⟩) hlo d
/-- a virtual call that answers with a long -/
theorem wq_cVl {f : Option (Int × Mem)} {K : Int → Mem → Option (α × Mem)} {y' : MethodName} {cc' : ByteArray} {maxL' h' index n a : Nat} {ret' : Option FieldType} {As rest : List Value} (hM : MwV y' cc' maxL' ret' n) (hr : ∀ (r : Int) (J : Mem), f = some (r, J) → Runs Z y' cc' maxL' ret' h' (.ref a :: As) I (some (vl r), J))
    (hO : Ob Z gr I a y'.cls) (hn : As.length = n) (hst : st = As.reverse ++ .ref a :: rest) (hh : h' < Y.2.2.2.2) (hm : maxL' ≤ 16) (hw : (rest.map fun v => v.category).sum ≤ 8)
    (hlink : Cond.methodLink Y.1.cls index y' ∈ lw_good) (d : decode Y.2.1 pc = .ok (.invokevirtual index, 3))
    (kk : ∀ (gr' : Nat → Nat) (r : Int) (J : Mem), WQ Z Y I0 gr' (pc + 3) lv (vl r :: rest) J (K r J) κ) : WQ Z Y I0 gr pc lv st I (bnd f K) κ := wq_cV (rv := fun r => some (vl r)) hM hr hO hn hst hh hm hw hlink d kk
theorem wq_rawbits {x : UInt32} {index : Nat} (hh : 1 ≤ Y.2.2.2.2) (hw : (st.map fun v => v.category).sum ≤ 8) (hln : Cond.methodLink Y.1.cls index ⟨"java/lang/Float", "floatToRawIntBits", "(F)I"⟩ ∈ lw_good) (d : decode Y.2.1 pc = .ok (.invokestatic index, 3))
    (k : WQ Z Y I0 gr (pc + 3) lv (vi x.toInt32.toInt :: st) I e κ) : WQ Z Y I0 gr pc lv (.float x :: st) I e κ := by
  refine WQ.go (fun X B o H locs ls cells slots hH hl kk => ?_) k
  have hgd := fun w (hw : w ∈ lw_good) => B.2.2.2.2.1 w hw
  refine vn_f2i B.1 B.2.1 (B.2.2.1.trans hl.1.symm) B.2.2.2.1 (hgd _ hln) (hgd _ (li_9 115 (by decide +kernel) (by decide +kernel))) (hgd _ (li_9 114 (by decide +kernel) (by decide +kernel))) (hgd _ (li_1 28 (by decide +kernel) (by decide +kernel))) hh ?_ d ?_
  · show _ + 15 ≤ 35 * Y.2.2.2.2
    omega
  · have := kk ls hl
    simp only [vi, Int32.ofInt_toInt] at this
    exact this
end NUM
theorem Met_ofF {l : Launch} {y : MethodName} {ws ws' : List Cond} {rm : Room} {Pc : Array Value → State → Prop} {Qc : Array Value → State → Outcome → State → Prop} {mc ms : Nat} {free : Addr → Prop} {cc : ByteArray} {maxL : Nat} {ret : Option FieldType}
    (hy : plainFor y = true) (hw : ws = Cond.code y cc maxL ret :: ws')
    (body : ∀ p e s m args below meth c s₁, BodyLoose p l y (headSpec ws rm) cc maxL ret e s m args below meth c s₁ → c.maxLocals = maxL → Pc args s →
      W p l e (headSpec ws rm).room s m args below meth c s.heap [] 0 0 (MQ below Qc args s mc ms free) (entryFrame m args maxL)) : Met l y ws rm Pc Qc mc ms free := by
  refine MetFree.of_bodySF (code := cc) (maxLocals := maxL) (ret := ret) hy ?_ ?_
  · intro args s m h hn
    obtain ⟨meth, c, h1, h2, h3, h4, h5, h6, -, -⟩ := Cond.code_spec hn (atoms_spec (ws := ws) h _ (by rw [hw]; exact List.mem_cons_self))
    exact ⟨meth, c, h1, h2, h3, h4, h5, h6⟩
  · intro p e s m args below meth c s₁ B hml hP _
    have hh0 : s₁.heap = s.heap := by rw [B.state]; rfl
    obtain ⟨t, a1, o, b1, b2, b3, b4⟩ := body p e s m args below meth c s₁ B hml hP s₁ hh0 (Stand.of_body B)
    exact ⟨t, o, a1, b1, b2, b3, b4⟩
theorem Runs.ofF {Z : ZT} {I : Mem} {β : Type} {rv : β → Option Value} {r : β} {J : Mem} {f : Option (β × Mem)} {y : MethodName} {cc : ByteArray} {maxL h : Nat} {ret : Option FieldType} {av : List Value} (hy : (plainFor y && (xtb y).isEmpty) = true) (hlen : (lg_sl av).length ≤ maxL) (hf : f = some (r, J))
    (k : ∀ gr : Nat → Nat, WQ Z (y, cc, maxL, ret, h) I gr 0 (lv_args 0 av) [] I f (fun b K => some (.inl (rv b), K))) : Runs Z y cc maxL ret h av I (rv r, J) := by
  have k := fun gr => k gr (.inl (rv r), J) (by rw [hf]; rfl)
  refine ⟨(k (fun _ => 0)).1, fun l hfl => ?_⟩
  rw [Bool.and_eq_true] at hy
  refine Met_ofF (cc := cc) (maxL := maxL) (ret := ret) hy.1 rfl ?_
  intro p e s m args below meth c s₁ B hml hv
  have htb := tab_nil (ws := wsAll y cc maxL ret) B List.mem_cons_self hy.2
  obtain ⟨rfl, ⟨gr, hH⟩, hKK⟩ := hv
  have hts : ∀ w ∈ lw_good, w.before av.toArray s = true := fun w hw => atoms_spec (ws := wsAll y cc maxL ret) B.pre w (List.mem_cons_of_mem _ hw)
  have hown := findClass_of_methodNamed B.named
  have hl := lv_entry av (n := maxL) hlen
  rw [lg_entry_eq]
  have hk := (k gr).2 (p, l, e, s, m, av.toArray, below, meth, c) ⟨B.exec, B.bytes, hml, hown, hts, hKK, B.returns, B.notSynchronized, hfl, htb, I, gr, hH⟩ (cle.refl I) s.heap [] _ hH (fun q hq => by cases hq) hl
  have e1 : dC I I = 0 := by unfold dC; omega
  have e2 : dS I I = 0 := by unfold dS; omega
  rw [e1, e2] at hk
  exact hk
theorem M_isNaN : MwS yJxf58ca_isNaN_12338 cJxf58ca_isNaN_12338 1 (some .boolean) 1 := ⟨li_9 112 (by decide +kernel) (by decide +kernel), li_9 111 (by decide +kernel) (by decide +kernel), li_1 28 (by decide +kernel) (by decide +kernel), by decide +kernel⟩
theorem M_f2ib : MwS yJxf58ca_floatToIntBits_5c35a cJxf58ca_floatToIntBits_5c35a 1 (some .int) 1 := ⟨li_9 109 (by decide +kernel) (by decide +kernel), li_9 108 (by decide +kernel) (by decide +kernel), li_1 28 (by decide +kernel) (by decide +kernel), by decide +kernel⟩
theorem R_isNaN (Z : ZT) (x : UInt32) (hx : Op.cmpValue (FP.fcmp x x) .l = 0) (I : Mem) : Runs Z yJxf58ca_isNaN_12338 cJxf58ca_isNaN_12338 1 (some .boolean) 1 [.float x] I (some (vi 0), I) := by
  refine Runs.ofF (rv := fun x => some (vi x)) (r := (0 : Int)) (f := some (0, I)) (by decide +kernel) (Nat.le_of_ble_eq_true rfl) rfl (fun gr => ?_)
  refine WQ.loc [0] (lv' := [(0, .float x)]) rfl ?_
  refine wq_fload_n dJxf58ca_isNaN_12338_0 0 rfl rfl ?_
  refine wq_fload_n dJxf58ca_isNaN_12338_1 0 rfl rfl ?_
  refine wq_fcmp dJxf58ca_isNaN_12338_2 ?_
  rw [hx]
  refine WQ.both (((0 : Int)) = 0) ?_
  refine wq_if_eq 10 dJxf58ca_isNaN_12338_3 (by decide) rfl (fun _ => ?_) (fun h => absurd rfl h)
  refine wq_iconst dJxf58ca_isNaN_12338_10 ?_
  exact wq_zret rfl (by decide) rfl dJxf58ca_isNaN_12338_11
theorem R_f2ib (Z : ZT) (x : UInt32) (hx : Op.cmpValue (FP.fcmp x x) .l = 0) (I : Mem) : Runs Z yJxf58ca_floatToIntBits_5c35a cJxf58ca_floatToIntBits_5c35a 1 (some .int) 2 [.float x] I (some (vi x.toInt32.toInt), I) := by
  refine Runs.ofF (rv := fun x => some (vi x)) (r := x.toInt32.toInt) (f := some (x.toInt32.toInt, I)) (by decide +kernel) (Nat.le_of_ble_eq_true rfl) rfl (fun gr => ?_)
  refine WQ.loc [0] (lv' := [(0, .float x)]) rfl ?_
  refine wq_fload_n dJxf58ca_floatToIntBits_5c35a_0 0 rfl rfl ?_
  refine wq_pSX M_isNaN (R_isNaN Z x hx I) rfl rfl (by decide) (by decide) (Nat.le_of_ble_eq_true rfl) (li_9 110 (by decide +kernel) (by decide +kernel)) dJxf58ca_floatToIntBits_5c35a_1 (fun gr1 => ?_)
  refine WQ.both (((0 : Int)) = 0) ?_
  refine wq_if_ne 12 dJxf58ca_floatToIntBits_5c35a_4 (by decide) rfl (fun _ => ?_) (fun h => absurd rfl h)
  refine wq_fload_n dJxf58ca_floatToIntBits_5c35a_7 0 rfl rfl ?_
  refine wq_rawbits (by decide) (Nat.le_of_ble_eq_true rfl) (li_9 113 (by decide +kernel) (by decide +kernel)) dJxf58ca_floatToIntBits_5c35a_8 ?_
  exact wq_iret rfl rfl dJxf58ca_floatToIntBits_5c35a_11
end
section
theorem ln_RX12_329 : Cond.constantFloat RX12 329 (1258291200 : UInt32) ∈ lw_good := li_5 53 (by decide +kernel) (by decide +kernel)
theorem ln_RX12_330 : Cond.constant RX12 330 (Int32.ofInt 8388607) ∈ lw_good := li_5 54 (by decide +kernel) (by decide +kernel)
noncomputable def f_PR_bitsOf_w7  (s : UInt32 × Int × Int) (I : Mem) : Option (((UInt32 × Int × Int) ⊕ (UInt32 × Int)) × Mem) :=
if (w32 s.2.2) < 127 then
if (w32 ((Op.cmpValue (FP.fcmp s.1 FP.fconst2) .l).toInt)) < 0 then
some (.inr (s.1, s.2.1), I)
else
if (FP.fdiv s.1 FP.fconst2) &&& (0x7fffffff : UInt32) ≤ 0x7f800000 then
some (.inl ((FP.fdiv s.1 FP.fconst2), (s.2.1 + 1), (s.2.2 + 1)), I)
else none
else
some (.inr (s.1, s.2.1), I)

noncomputable def f_PR_bitsOf (a0 : UInt32) (I : Mem) : Option ((Int) × Mem) :=
bnd (whl (f_PR_bitsOf_w7) (a0, 127, 0) I) fun r14 J15 =>
if (FP.fsub r14.1 FP.fconst1) &&& (0x7fffffff : UInt32) ≤ 0x7f800000 then
if (FP.fmul (FP.fsub r14.1 FP.fconst1) (1258291200 : UInt32)) &&& (0x7fffffff : UInt32) ≤ 0x7f800000 then
some ((ior (ish r14.2 23) (ian ((FP.f2i (FP.fmul (FP.fsub r14.1 FP.fconst1) (1258291200 : UInt32))).toInt) 8388607)), J15)
else none
else none
set_option maxRecDepth 20000 in
theorem R_PR_bitsOf (Z : ZT) (a0 : UInt32) (I : Mem) (r : Int) (J : Mem) (hf : f_PR_bitsOf a0 I = some (r, J)) : Runs Z yX12_bitsOf cX12_bitsOf 4 (some .int) 1 [.float a0] I (some (vi r), J) := by
  refine Runs.of (rv := fun x => some (vi x)) (by decide +kernel) (Nat.le_of_ble_eq_true rfl) hf (fun gr => ?_)
  unfold f_PR_bitsOf
  refine WQ.loc [0] (lv' := [(0, .float a0)]) rfl ?_
  refine wq_fload_n dX12_bitsOf_0 0 rfl rfl ?_
  refine wq_fstore_n (lv' := [(1, .float a0), (0, .float a0)]) dX12_bitsOf_1 rfl (by decide) rfl ?_
  refine wq_bipush dX12_bitsOf_2 (by decide) ?_
  refine wq_istore_n (lv' := [(2, vi 127), (1, .float a0), (0, .float a0)]) dX12_bitsOf_4 rfl (by decide) rfl ?_
  refine wq_iconst dX12_bitsOf_5 ?_
  refine wq_istore_n (lv' := [(3, vi 0), (2, vi 127), (1, .float a0), (0, .float a0)]) dX12_bitsOf_6 rfl (by decide) rfl ?_
  refine WQ.loc [2, 1, 0] (lv' := [(1, .float a0), (2, vi 127), (3, vi 0)]) rfl ?_
  refine wq_loopS (fun s10 => [(1, .float s10.1), (2, vi s10.2.1), (3, vi s10.2.2)]) 32 (fun r14 => [(1, .float r14.1), (2, vi r14.2)]) (fun κ4 bk5 ex6 gr9 s10 J8 => ?_) (fun gr16 r14 J15 => ?_) gr _ rfl
  · unfold f_PR_bitsOf_w7
    refine wq_iload_n dX12_bitsOf_7 2 rfl rfl ?_
    refine wq_bipush dX12_bitsOf_8 (by decide) ?_
    refine wq_icmp_ge 32 dX12_bitsOf_10 (by decide) rfl rfl (fun c13 => ?_) (fun c13 => ?_)
    · refine wq_fload_n dX12_bitsOf_13 0 rfl rfl ?_
      refine wq_fconst2 dX12_bitsOf_14 ?_
      refine wq_fcmp dX12_bitsOf_15 ?_
      refine wq_if_lt 32 dX12_bitsOf_16 (by decide) rfl (fun c12 => ?_) (fun c12 => ?_)
      · exact WQ.loc [0, 1] rfl (ex6 _ _ _)
      · refine wq_fload_n dX12_bitsOf_19 0 rfl rfl ?_
        refine wq_fconst2 dX12_bitsOf_20 ?_
        refine wq_grd (fun g11 => ?_)
        refine wq_fdiv g11 dX12_bitsOf_21 ?_
        refine wq_fstore_n (lv' := [(1, .float (FP.fdiv s10.1 FP.fconst2)), (2, vi s10.2.1), (3, vi s10.2.2)]) dX12_bitsOf_22 rfl (by decide) rfl ?_
        refine wq_iinc (lv' := [(2, vi (s10.2.1 + 1)), (1, .float (FP.fdiv s10.1 FP.fconst2)), (3, vi s10.2.2)]) dX12_bitsOf_23 1 rfl (by decide) rfl ?_
        refine wq_iinc (lv' := [(3, vi (s10.2.2 + 1)), (2, vi (s10.2.1 + 1)), (1, .float (FP.fdiv s10.1 FP.fconst2))]) dX12_bitsOf_26 2 rfl (by decide) rfl ?_
        refine wq_goto 7 dX12_bitsOf_29 (by decide) ?_
        exact WQ.loc [2, 1, 0] rfl (bk5 _ _ _)
    · exact WQ.loc [0, 1] rfl (ex6 _ _ _)
  · refine wq_fload_n dX12_bitsOf_32 0 rfl rfl ?_
    refine wq_fconst1 dX12_bitsOf_33 ?_
    refine wq_grd (fun g17 => ?_)
    refine wq_fsub g17 dX12_bitsOf_34 ?_
    refine wq_ldcwF ln_RX12_329 dX12_bitsOf_35 ?_
    refine wq_grd (fun g18 => ?_)
    refine wq_fmul g18 dX12_bitsOf_38 ?_
    refine wq_f2i dX12_bitsOf_39 ?_
    refine wq_istore_n (lv' := [(3, vi ((FP.f2i (FP.fmul (FP.fsub r14.1 FP.fconst1) (1258291200 : UInt32))).toInt)), (1, .float r14.1), (2, vi r14.2)]) dX12_bitsOf_40 rfl (by decide) rfl ?_
    refine wq_iload_n dX12_bitsOf_41 2 rfl rfl ?_
    refine wq_bipush dX12_bitsOf_42 (by decide) ?_
    refine wq_ishl dX12_bitsOf_44 ?_
    refine wq_iload_n dX12_bitsOf_45 0 rfl rfl ?_
    refine wq_ldc_w ln_RX12_330 dX12_bitsOf_46 ?_
    refine wq_iand dX12_bitsOf_49 ?_
    refine wq_ior dX12_bitsOf_50 ?_
    exact wq_iret rfl rfl dX12_bitsOf_51

noncomputable def f_M_ratio  (I : Mem) : Option ((UInt64) × Mem) :=
ltI (sI I 26 0 7 0) fun J1 =>
bnd (f_M_sizeNow J1) fun x4 J3 =>
bnd (f_M_textLong J3) fun x7 J6 =>
if (FP.ddiv (FP.i2d (Int32.ofInt x4)) (FP.i2d (Int32.ofInt x7))) &&& (0x7fffffffffffffff : UInt64) ≤ 0x7ff0000000000000 then
some ((FP.ddiv (FP.i2d (Int32.ofInt x4)) (FP.i2d (Int32.ofInt x7))), J6)
else none
set_option maxRecDepth 20000 in
theorem R_M_ratio (Z : ZT)  (I : Mem) (r : UInt64) (J : Mem) (hf : f_M_ratio I = some (r, J)) : Runs Z yX13_ratio cX13_ratio 1 (some .double) 5 [vr Z 26 0] I (some (.double r), J) := by
  refine Runs.of (rv := fun x => some (.double x)) (by decide +kernel) (Nat.le_of_ble_eq_true rfl) hf (fun gr => ?_)
  unfold f_M_ratio
  refine WQ.loc [0] (lv' := [(0, vr Z 26 0)]) rfl ?_
  refine wq_aload_n dX13_ratio_0 0 rfl rfl ?_
  refine wq_iconst dX13_ratio_1 ?_
  refine p_26_7 ln_RX13_100 dX13_ratio_2 (fun J1 => ?_)
  refine wq_aload_n dX13_ratio_5 0 rfl rfl ?_
  refine wq_cVi M_M_sizeNow (R_M_sizeNow Z _) ob_26 rfl rfl (by decide) (by decide) (Nat.le_of_ble_eq_true rfl) ln_RX13_431 dX13_ratio_6 (fun gr2 x4 J3 => ?_)
  refine wq_i2d dX13_ratio_9 ?_
  refine wq_aload_n dX13_ratio_10 0 rfl rfl ?_
  refine wq_cVi M_M_textLong (R_M_textLong Z _) ob_26 rfl rfl (by decide) (by decide) (Nat.le_of_ble_eq_true rfl) ln_RX13_422 dX13_ratio_11 (fun gr5 x7 J6 => ?_)
  refine wq_i2d dX13_ratio_14 ?_
  refine wq_grd (fun g8 => ?_)
  refine wq_ddiv g8 dX13_ratio_15 ?_
  exact wq_dret rfl rfl dX13_ratio_16

theorem ln_RX13_467 : Cond.methodLink RX13 467 yJxf58ca_floatToIntBits_5c35a ∈ lw_good := li_9 107 (by decide +kernel) (by decide +kernel)
noncomputable def f_M_meanBits  (I : Mem) : Option ((Int) × Mem) :=
ltI (sI I 26 0 7 0) fun J1 =>
bnd (f_M_textLong J1) fun x4 J3 =>
bnd (f_M_many 0 J3) fun x7 J6 =>
if (FP.fdiv (FP.i2f (Int32.ofInt x4)) (FP.i2f (Int32.ofInt x7))) &&& (0x7fffffff : UInt32) ≤ 0x7f800000 then
if Op.cmpValue (FP.fcmp (FP.fdiv (FP.i2f (Int32.ofInt x4)) (FP.i2f (Int32.ofInt x7))) (FP.fdiv (FP.i2f (Int32.ofInt x4)) (FP.i2f (Int32.ofInt x7)))) .l = 0 then
some (((FP.fdiv (FP.i2f (Int32.ofInt x4)) (FP.i2f (Int32.ofInt x7))).toInt32).toInt, J6)
else none
else none
set_option maxRecDepth 20000 in
theorem R_M_meanBits (Z : ZT)  (I : Mem) (r : Int) (J : Mem) (hf : f_M_meanBits I = some (r, J)) : Runs Z yX13_meanBits cX13_meanBits 1 (some .int) 5 [vr Z 26 0] I (some (vi r), J) := by
  refine Runs.of (rv := fun x => some (vi x)) (by decide +kernel) (Nat.le_of_ble_eq_true rfl) hf (fun gr => ?_)
  unfold f_M_meanBits
  refine WQ.loc [0] (lv' := [(0, vr Z 26 0)]) rfl ?_
  refine wq_aload_n dX13_meanBits_0 0 rfl rfl ?_
  refine wq_iconst dX13_meanBits_1 ?_
  refine p_26_7 ln_RX13_100 dX13_meanBits_2 (fun J1 => ?_)
  refine wq_aload_n dX13_meanBits_5 0 rfl rfl ?_
  refine wq_cVi M_M_textLong (R_M_textLong Z _) ob_26 rfl rfl (by decide) (by decide) (Nat.le_of_ble_eq_true rfl) ln_RX13_422 dX13_meanBits_6 (fun gr2 x4 J3 => ?_)
  refine wq_i2f dX13_meanBits_9 ?_
  refine wq_aload_n dX13_meanBits_10 0 rfl rfl ?_
  refine wq_iconst dX13_meanBits_11 ?_
  refine wq_cVi M_M_many (R_M_many Z 0 _) ob_26 rfl rfl (by decide) (by decide) (Nat.le_of_ble_eq_true rfl) ln_RX13_103 dX13_meanBits_12 (fun gr5 x7 J6 => ?_)
  refine wq_i2f dX13_meanBits_15 ?_
  refine wq_grd (fun g8 => ?_)
  refine wq_fdiv g8 dX13_meanBits_16 ?_
  refine wq_grd (fun g9 => ?_)
  refine wq_pSX M_f2ib (R_f2ib Z _ g9 _) rfl rfl (by decide) (by decide) (Nat.le_of_ble_eq_true rfl) ln_RX13_467 dX13_meanBits_17 (fun gr10 => ?_)
  exact wq_iret rfl rfl dX13_meanBits_20

theorem ln_RX13_473 : Cond.constantLong RX13 473 (Int64.ofInt 31) ∈ lw_good := li_9 121 (by decide +kernel) (by decide +kernel)
noncomputable def f_M_digest_w15 (v3 : Int) (s : Int × Int) (I : Mem) : Option (((Int × Int) ⊕ (Int)) × Mem) :=
if (w32 s.2) < (w32 v3) then
if 0 ≤ (w32 s.2) ∧ (w32 s.2) < 401 then
some (.inl ((((s.1 * 31) + (w32 (I 27 7 (w32 s.2).toNat))) + 1), (s.2 + 1)), I)
else none
else
some (.inr s.1, I)

noncomputable def f_M_digest  (I : Mem) : Option ((Int) × Mem) :=
ltI (sI I 26 0 7 0) fun J1 =>
bnd (f_M_unfolds J1) fun x4 J3 =>
bnd (whl (f_M_digest_w15 x4) (1, 0) J3) fun r16 J17 =>
some (r16, J17)
set_option maxRecDepth 20000 in
theorem R_M_digest (Z : ZT)  (I : Mem) (r : Int) (J : Mem) (hf : f_M_digest I = some (r, J)) : Runs Z yX13_digest cX13_digest 5 (some .long) 3 [vr Z 26 0] I (some (vl r), J) := by
  refine Runs.of (rv := fun x => some (vl x)) (by decide +kernel) (Nat.le_of_ble_eq_true rfl) hf (fun gr => ?_)
  unfold f_M_digest
  refine WQ.loc [0] (lv' := [(0, vr Z 26 0)]) rfl ?_
  refine wq_aload_n dX13_digest_0 0 rfl rfl ?_
  refine wq_iconst dX13_digest_1 ?_
  refine p_26_7 ln_RX13_100 dX13_digest_2 (fun J1 => ?_)
  refine wq_lconst (v := 1) rfl dX13_digest_5 ?_
  refine wq_lstore_n (lv' := [(1, vl 1), (0, vr Z 26 0)]) dX13_digest_6 rfl (by decide) rfl ?_
  refine wq_aload_n dX13_digest_7 1 rfl rfl ?_
  refine wq_cVi M_M_unfolds (R_M_unfolds Z _) ob_26 rfl rfl (by decide) (by decide) (Nat.le_of_ble_eq_true rfl) ln_RX13_140 dX13_digest_8 (fun gr2 x4 J3 => ?_)
  refine wq_istore_n (lv' := [(3, vi x4), (1, vl 1), (0, vr Z 26 0)]) dX13_digest_11 rfl (by decide) rfl ?_
  refine wq_iconst dX13_digest_12 ?_
  refine wq_istore (lv' := [(4, vi 0), (3, vi x4), (1, vl 1), (0, vr Z 26 0)]) dX13_digest_13 (by decide) rfl ?_
  refine WQ.loc [3, 2, 1, 0] (lv' := [(0, vr Z 26 0), (1, vl 1), (3, vi x4), (4, vi 0)]) rfl ?_
  refine wq_loopS (fun s13 => [(0, vr Z 26 0), (1, vl s13.1), (3, vi x4), (4, vi s13.2)]) 44 (fun r16 => [(1, vl r16)]) (fun κ7 bk8 ex9 gr12 s13 J11 => ?_) (fun gr18 r16 J17 => ?_) gr2 _ rfl
  · unfold f_M_digest_w15
    refine wq_iload dX13_digest_15 3 rfl ?_
    refine wq_iload_n dX13_digest_17 2 rfl rfl ?_
    refine wq_icmp_ge 44 dX13_digest_18 (by decide) rfl rfl (fun c15 => ?_) (fun c15 => ?_)
    · refine wq_lload_n dX13_digest_21 1 rfl rfl ?_
      refine wq_ldc2 ln_RX13_473 dX13_digest_22 ?_
      refine wq_lmul dX13_digest_25 ?_
      refine wq_aload_n dX13_digest_26 0 rfl rfl ?_
      refine g_26_11 ln_RX13_37 dX13_digest_27 ?_
      refine wq_iload dX13_digest_30 3 rfl ?_
      refine wq_grd (fun g14 => ?_)
      refine wq_iald (k := 27) (i := 7) rfl (by decide) rfl rfl (m := 401) g14 (Nat.le_of_ble_eq_true rfl) dX13_digest_32 ?_
      refine wq_i2l dX13_digest_33 ?_
      refine wq_ladd dX13_digest_34 ?_
      refine wq_lconst (v := 1) rfl dX13_digest_35 ?_
      refine wq_ladd dX13_digest_36 ?_
      refine wq_lstore_n (lv' := [(1, vl (((s13.1 * 31) + (w32 (J11 27 7 (w32 s13.2).toNat))) + 1)), (0, vr Z 26 0), (3, vi x4), (4, vi s13.2)]) dX13_digest_37 rfl (by decide) rfl ?_
      refine wq_iinc (lv' := [(4, vi (s13.2 + 1)), (1, vl (((s13.1 * 31) + (w32 (J11 27 7 (w32 s13.2).toNat))) + 1)), (0, vr Z 26 0), (3, vi x4)]) dX13_digest_38 3 rfl (by decide) rfl ?_
      refine wq_goto 15 dX13_digest_41 (by decide) ?_
      exact WQ.loc [2, 1, 3, 0] rfl (bk8 _ _ _)
    · exact WQ.loc [1] rfl (ex9 _ _ _)
  · refine wq_lload_n dX13_digest_44 0 rfl rfl ?_
    exact wq_lret rfl rfl dX13_digest_45

theorem ln_RX10_102 : Cond.constantLong RX10 102 (Int64.ofInt 31) ∈ lw_good := li_5 63 (by decide +kernel) (by decide +kernel)
noncomputable def f_Sv_numberOfText_w4  (s : Int × Int) (I : Mem) : Option (((Int × Int) ⊕ (Int)) × Mem) :=
if (w32 s.2) < (w32 (I 5 0 7)) then
if 0 ≤ (w32 s.2) ∧ (w32 s.2) < 400 then
some (.inl ((((s.1 * 31) + (w32 (I 18 3 (w32 s.2).toNat))) + 1), (s.2 + 1)), I)
else none
else
some (.inr s.1, I)

noncomputable def f_Sv_numberOfText  (I : Mem) : Option ((Int) × Mem) :=
bnd (whl (f_Sv_numberOfText_w4) (1, 0) I) fun r12 J13 =>
some (r12, J13)
set_option maxRecDepth 20000 in
theorem R_Sv_numberOfText (Z : ZT)  (I : Mem) (r : Int) (J : Mem) (hf : f_Sv_numberOfText I = some (r, J)) : Runs Z yX10_numberOfText cX10_numberOfText 4 (some .long) 1 [vr Z 5 0] I (some (vl r), J) := by
  refine Runs.of (rv := fun x => some (vl x)) (by decide +kernel) (Nat.le_of_ble_eq_true rfl) hf (fun gr => ?_)
  unfold f_Sv_numberOfText
  refine WQ.loc [0] (lv' := [(0, vr Z 5 0)]) rfl ?_
  refine wq_lconst (v := 1) rfl dX10_numberOfText_0 ?_
  refine wq_lstore_n (lv' := [(1, vl 1), (0, vr Z 5 0)]) dX10_numberOfText_1 rfl (by decide) rfl ?_
  refine wq_iconst dX10_numberOfText_2 ?_
  refine wq_istore_n (lv' := [(3, vi 0), (1, vl 1), (0, vr Z 5 0)]) dX10_numberOfText_3 rfl (by decide) rfl ?_
  refine WQ.loc [2, 1, 0] (lv' := [(0, vr Z 5 0), (1, vl 1), (3, vi 0)]) rfl ?_
  refine wq_loopS (fun s9 => [(0, vr Z 5 0), (1, vl s9.1), (3, vi s9.2)]) 34 (fun r12 => [(1, vl r12)]) (fun κ3 bk4 ex5 gr8 s9 J7 => ?_) (fun gr14 r12 J13 => ?_) gr _ rfl
  · unfold f_Sv_numberOfText_w4
    refine wq_iload_n dX10_numberOfText_4 2 rfl rfl ?_
    refine wq_aload_n dX10_numberOfText_5 0 rfl rfl ?_
    refine g_5_7 ln_RX10_82 dX10_numberOfText_6 ?_
    refine wq_icmp_ge 34 dX10_numberOfText_9 (by decide) rfl rfl (fun c11 => ?_) (fun c11 => ?_)
    · refine wq_lload_n dX10_numberOfText_12 1 rfl rfl ?_
      refine wq_ldc2 ln_RX10_102 dX10_numberOfText_13 ?_
      refine wq_lmul dX10_numberOfText_16 ?_
      refine wq_aload_n dX10_numberOfText_17 0 rfl rfl ?_
      refine g_5_3 ln_RX10_21 dX10_numberOfText_18 ?_
      refine wq_iload_n dX10_numberOfText_21 2 rfl rfl ?_
      refine wq_grd (fun g10 => ?_)
      refine wq_iald (k := 18) (i := 3) rfl (by decide) rfl rfl (m := 400) g10 (by decide) dX10_numberOfText_22 ?_
      refine wq_i2l dX10_numberOfText_23 ?_
      refine wq_ladd dX10_numberOfText_24 ?_
      refine wq_lconst (v := 1) rfl dX10_numberOfText_25 ?_
      refine wq_ladd dX10_numberOfText_26 ?_
      refine wq_lstore_n (lv' := [(1, vl (((s9.1 * 31) + (w32 (J7 18 3 (w32 s9.2).toNat))) + 1)), (0, vr Z 5 0), (3, vi s9.2)]) dX10_numberOfText_27 rfl (by decide) rfl ?_
      refine wq_iinc (lv' := [(3, vi (s9.2 + 1)), (1, vl (((s9.1 * 31) + (w32 (J7 18 3 (w32 s9.2).toNat))) + 1)), (0, vr Z 5 0)]) dX10_numberOfText_28 2 rfl (by decide) rfl ?_
      refine wq_goto 4 dX10_numberOfText_31 (by decide) ?_
      exact WQ.loc [2, 1, 0] rfl (bk4 _ _ _)
    · exact WQ.loc [1] rfl (ex5 _ _ _)
  · refine wq_lload_n dX10_numberOfText_34 0 rfl rfl ?_
    exact wq_lret rfl rfl dX10_numberOfText_35

noncomputable def f_PR_ratio  (I : Mem) : Option ((UInt64) × Mem) :=
bnd (f_G_textLength 0 I) fun x3 J2 =>
if (w32 x3) < 1 then
some (FP.dconst0, J2)
else
bnd (f_G_totalSize 0 J2) fun x6 J5 =>
if (FP.ddiv (FP.i2d (Int32.ofInt x6)) (FP.i2d (Int32.ofInt x3))) &&& (0x7fffffffffffffff : UInt64) ≤ 0x7ff0000000000000 then
some ((FP.ddiv (FP.i2d (Int32.ofInt x6)) (FP.i2d (Int32.ofInt x3))), J5)
else none
set_option maxRecDepth 20000 in
theorem R_PR_ratio (Z : ZT)  (I : Mem) (r : UInt64) (J : Mem) (hf : f_PR_ratio I = some (r, J)) : Runs Z yX12_ratio cX12_ratio 2 (some .double) 3 [vr Z 0 0] I (some (.double r), J) := by
  refine Runs.of (rv := fun x => some (.double x)) (by decide +kernel) (Nat.le_of_ble_eq_true rfl) hf (fun gr => ?_)
  unfold f_PR_ratio
  refine WQ.loc [0] (lv' := [(0, vr Z 0 0)]) rfl ?_
  refine wq_aload_n dX12_ratio_0 0 rfl rfl ?_
  refine g_0_0 ln_RX12_12 dX12_ratio_1 ?_
  refine wq_cVi M_G_textLength (R_G_textLength Z 0 _) (ob_1 (by decide)) rfl rfl (by decide) (by decide) (Nat.le_of_ble_eq_true rfl) ln_RX12_122 dX12_ratio_4 (fun gr1 x3 J2 => ?_)
  refine wq_istore_n (lv' := [(1, vi x3), (0, vr Z 0 0)]) dX12_ratio_7 rfl (by decide) rfl ?_
  refine wq_iload_n dX12_ratio_8 0 rfl rfl ?_
  refine wq_iconst dX12_ratio_9 ?_
  refine wq_icmp_ge 17 dX12_ratio_10 (by decide) rfl rfl (fun c8 => ?_) (fun c8 => ?_)
  · refine wq_dconst0 dX12_ratio_13 ?_
    refine wq_goto 28 dX12_ratio_14 (by decide) ?_
    exact wq_dret rfl rfl dX12_ratio_28
  · refine wq_aload_n dX12_ratio_17 1 rfl rfl ?_
    refine g_0_0 ln_RX12_12 dX12_ratio_18 ?_
    refine wq_cVi M_G_totalSize (R_G_totalSize Z 0 _) (ob_1 (by decide)) rfl rfl (by decide) (by decide) (Nat.le_of_ble_eq_true rfl) ln_RX12_148 dX12_ratio_21 (fun gr4 x6 J5 => ?_)
    refine wq_i2d dX12_ratio_24 ?_
    refine wq_iload_n dX12_ratio_25 0 rfl rfl ?_
    refine wq_i2d dX12_ratio_26 ?_
    refine wq_grd (fun g7 => ?_)
    refine wq_ddiv g7 dX12_ratio_27 ?_
    exact wq_dret rfl rfl dX12_ratio_28

theorem M_PR_bitsOf : MwS yX12_bitsOf cX12_bitsOf 4 (some .int) 1 := ⟨li_5 52 (by decide +kernel) (by decide +kernel), li_5 51 (by decide +kernel) (by decide +kernel), li_1 1 (by decide +kernel) (by decide +kernel), by decide +kernel⟩
theorem ln_RX12_235 : Cond.methodLink RX12 235 yX12_bitsOf ∈ lw_good := li_5 50 (by decide +kernel) (by decide +kernel)
noncomputable def f_PR_meanBits  (I : Mem) : Option ((Int) × Mem) :=
if (w32 (I 2 (43 * 0) 1)) < 1 then
some (0, I)
else
bnd (f_G_textLength 0 I) fun x5 J4 =>
if (FP.fdiv (FP.i2f (Int32.ofInt x5)) (FP.i2f (Int32.ofInt (I 2 (43 * 0) 1)))) &&& (0x7fffffff : UInt32) ≤ 0x7f800000 then
bnd (f_PR_bitsOf (FP.fdiv (FP.i2f (Int32.ofInt x5)) (FP.i2f (Int32.ofInt (I 2 (43 * 0) 1)))) J4) fun x9 J8 =>
some (x9, J8)
else none
set_option maxRecDepth 20000 in
theorem R_PR_meanBits (Z : ZT)  (I : Mem) (r : Int) (J : Mem) (hf : f_PR_meanBits I = some (r, J)) : Runs Z yX12_meanBits cX12_meanBits 2 (some .int) 3 [vr Z 0 0] I (some (vi r), J) := by
  refine Runs.of (rv := fun x => some (vi x)) (by decide +kernel) (Nat.le_of_ble_eq_true rfl) hf (fun gr => ?_)
  unfold f_PR_meanBits
  refine WQ.loc [0] (lv' := [(0, vr Z 0 0)]) rfl ?_
  refine wq_aload_n dX12_meanBits_0 0 rfl rfl ?_
  refine g_0_0 ln_RX12_12 dX12_meanBits_1 ?_
  refine wq_pV (v := vr Z 2 (43 * 0)) M_G_startRow (R_G_startRow Z 0 _ _ _ (if_pos (by decide))) (ob_1 (by decide)) rfl rfl (by decide) (by decide) (Nat.le_of_ble_eq_true rfl) ln_RX12_138 dX12_meanBits_4 (fun gr1 => ?_)
  refine wq_pV (v := vi (I 2 (43 * 0) 1)) M_Row_many (R_Row_many Z (43 * 0) _ _ _ (if_pos (by omega))) (ob_2 (by omega)) rfl rfl (by decide) (by decide) (Nat.le_of_ble_eq_true rfl) ln_RX12_142 dX12_meanBits_7 (fun gr2 => ?_)
  refine wq_istore_n (lv' := [(1, vi (I 2 (43 * 0) 1)), (0, vr Z 0 0)]) dX12_meanBits_10 rfl (by decide) rfl ?_
  refine wq_iload_n dX12_meanBits_11 0 rfl rfl ?_
  refine wq_iconst dX12_meanBits_12 ?_
  refine wq_icmp_ge 20 dX12_meanBits_13 (by decide) rfl rfl (fun c10 => ?_) (fun c10 => ?_)
  · refine wq_iconst dX12_meanBits_16 ?_
    refine wq_goto 34 dX12_meanBits_17 (by decide) ?_
    exact wq_iret rfl rfl dX12_meanBits_34
  · refine wq_aload_n dX12_meanBits_20 1 rfl rfl ?_
    refine g_0_0 ln_RX12_12 dX12_meanBits_21 ?_
    refine wq_cVi M_G_textLength (R_G_textLength Z 0 _) (ob_1 (by decide)) rfl rfl (by decide) (by decide) (Nat.le_of_ble_eq_true rfl) ln_RX12_122 dX12_meanBits_24 (fun gr3 x5 J4 => ?_)
    refine wq_i2f dX12_meanBits_27 ?_
    refine wq_iload_n dX12_meanBits_28 0 rfl rfl ?_
    refine wq_i2f dX12_meanBits_29 ?_
    refine wq_grd (fun g6 => ?_)
    refine wq_fdiv g6 dX12_meanBits_30 ?_
    refine wq_cSi M_PR_bitsOf (R_PR_bitsOf Z (FP.fdiv (FP.i2f (Int32.ofInt x5)) (FP.i2f (Int32.ofInt (I 2 (43 * 0) 1)))) _) rfl rfl rfl (by decide) (by decide) (Nat.le_of_ble_eq_true rfl) ln_RX12_235 dX12_meanBits_31 (fun gr7 x9 J8 => ?_)
    exact wq_iret rfl rfl dX12_meanBits_34

theorem M_Sv_numberOfText : MwV yX10_numberOfText cX10_numberOfText 4 (some .long) 0 := ⟨li_5 62 (by decide +kernel) (by decide +kernel), li_5 60 (by decide +kernel) (by decide +kernel), li_5 61 (by decide +kernel) (by decide +kernel), li_1 6 (by decide +kernel) (by decide +kernel), by decide +kernel⟩
theorem ln_RX12_239 : Cond.methodLink RX12 239 yX10_numberOfText ∈ lw_good := li_5 59 (by decide +kernel) (by decide +kernel)
noncomputable def f_PR_digest  (I : Mem) : Option ((Int) × Mem) :=
bnd (f_Sv_unfold 0 I) fun _ J2 =>
bnd (f_Sv_numberOfText J2) fun x6 J5 =>
some (x6, J5)
set_option maxRecDepth 20000 in
theorem R_PR_digest (Z : ZT)  (I : Mem) (r : Int) (J : Mem) (hf : f_PR_digest I = some (r, J)) : Runs Z yX12_digest cX12_digest 1 (some .long) 3 [vr Z 0 0] I (some (vl r), J) := by
  refine Runs.of (rv := fun x => some (vl x)) (by decide +kernel) (Nat.le_of_ble_eq_true rfl) hf (fun gr => ?_)
  unfold f_PR_digest
  refine WQ.loc [0] (lv' := [(0, vr Z 0 0)]) rfl ?_
  refine wq_aload_n dX12_digest_0 0 rfl rfl ?_
  refine g_0_3 ln_RX12_29 dX12_digest_1 ?_
  refine wq_aload_n dX12_digest_4 0 rfl rfl ?_
  refine g_0_0 ln_RX12_12 dX12_digest_5 ?_
  refine wq_cVv M_Sv_unfold (R_Sv_unfold Z 0 _) ob_5 rfl rfl (by decide) (by decide) (Nat.le_of_ble_eq_true rfl) ln_RX12_105 dX12_digest_8 (fun gr1 _ J2 => ?_)
  refine wq_aload_n dX12_digest_11 0 rfl rfl ?_
  refine g_0_3 ln_RX12_29 dX12_digest_12 ?_
  refine wq_cVl M_Sv_numberOfText (R_Sv_numberOfText Z _) ob_5 rfl rfl (by decide) (by decide) (Nat.le_of_ble_eq_true rfl) ln_RX12_239 dX12_digest_15 (fun gr4 x6 J5 => ?_)
  exact wq_lret rfl rfl dX12_digest_18
end
section
theorem dL_size_0 : decode cL_size 0 = .ok (.aload_n 2, 1) := op_44 (by decide +kernel)
theorem dL_size_1 : decode cL_size 1 = .ok (.iconst 0, 1) := op_3 (by decide +kernel)
theorem dL_size_2 : decode cL_size 2 = .ok (.aload_n 0, 1) := op_42 (by decide +kernel)
theorem dL_size_3 : decode cL_size 3 = .ok (.iload_n 1, 1) := op_27 (by decide +kernel)
theorem dL_size_4 : decode cL_size 4 = .ok (.invokevirtual 7, 3) := op_182 (x := 7) (by decide +kernel)
theorem dL_size_7 : decode cL_size 7 = .ok (.i2l, 1) := op_133 (by decide +kernel)
theorem dL_size_8 : decode cL_size 8 = .ok (.lastore, 1) := op_80 (by decide +kernel)
theorem dL_size_9 : decode cL_size 9 = .ok (.goto 6, 3) := op_167p (x := 6) (by decide +kernel)
theorem dL_size_12 : decode cL_size 12 = .ok (.astore_n 3, 1) := op_78 (by decide +kernel)
theorem dL_size_13 : decode cL_size 13 = .ok (.iconst 1, 1) := op_4 (by decide +kernel)
theorem dL_size_14 : decode cL_size 14 = .ok (.ireturn, 1) := op_172 (by decide +kernel)
theorem dL_size_15 : decode cL_size 15 = .ok (.iconst 0, 1) := op_3 (by decide +kernel)
theorem dL_size_16 : decode cL_size 16 = .ok (.ireturn, 1) := op_172 (by decide +kernel)
theorem dL_isRule_0 : decode cL_isRule 0 = .ok (.aload_n 2, 1) := op_44 (by decide +kernel)
theorem dL_isRule_1 : decode cL_isRule 1 = .ok (.iconst 0, 1) := op_3 (by decide +kernel)
theorem dL_isRule_2 : decode cL_isRule 2 = .ok (.aload_n 0, 1) := op_42 (by decide +kernel)
theorem dL_isRule_3 : decode cL_isRule 3 = .ok (.iload_n 1, 1) := op_27 (by decide +kernel)
theorem dL_isRule_4 : decode cL_isRule 4 = .ok (.invokevirtual 15, 3) := op_182 (x := 15) (by decide +kernel)
theorem dL_isRule_7 : decode cL_isRule 7 = .ok (.ifCond .eq 7, 3) := op_153p (x := 7) (by decide +kernel)
theorem dL_isRule_10 : decode cL_isRule 10 = .ok (.lconst 1, 1) := op_10 (by decide +kernel)
theorem dL_isRule_11 : decode cL_isRule 11 = .ok (.goto 4, 3) := op_167p (x := 4) (by decide +kernel)
theorem dL_isRule_14 : decode cL_isRule 14 = .ok (.lconst 0, 1) := op_9 (by decide +kernel)
theorem dL_isRule_15 : decode cL_isRule 15 = .ok (.lastore, 1) := op_80 (by decide +kernel)
theorem dL_isRule_16 : decode cL_isRule 16 = .ok (.goto 6, 3) := op_167p (x := 6) (by decide +kernel)
theorem dL_isRule_19 : decode cL_isRule 19 = .ok (.astore_n 3, 1) := op_78 (by decide +kernel)
theorem dL_isRule_20 : decode cL_isRule 20 = .ok (.iconst 1, 1) := op_4 (by decide +kernel)
theorem dL_isRule_21 : decode cL_isRule 21 = .ok (.ireturn, 1) := op_172 (by decide +kernel)
theorem dL_isRule_22 : decode cL_isRule 22 = .ok (.iconst 0, 1) := op_3 (by decide +kernel)
theorem dL_isRule_23 : decode cL_isRule 23 = .ok (.ireturn, 1) := op_172 (by decide +kernel)
theorem dL_rule_0 : decode cL_rule 0 = .ok (.aload_n 3, 1) := op_45 (by decide +kernel)
theorem dL_rule_1 : decode cL_rule 1 = .ok (.iconst 0, 1) := op_3 (by decide +kernel)
theorem dL_rule_2 : decode cL_rule 2 = .ok (.aload_n 0, 1) := op_42 (by decide +kernel)
theorem dL_rule_3 : decode cL_rule 3 = .ok (.iload_n 1, 1) := op_27 (by decide +kernel)
theorem dL_rule_4 : decode cL_rule 4 = .ok (.iload_n 2, 1) := op_28 (by decide +kernel)
theorem dL_rule_5 : decode cL_rule 5 = .ok (.invokevirtual 21, 3) := op_182 (x := 21) (by decide +kernel)
theorem dL_rule_8 : decode cL_rule 8 = .ok (.i2l, 1) := op_133 (by decide +kernel)
theorem dL_rule_9 : decode cL_rule 9 = .ok (.lastore, 1) := op_80 (by decide +kernel)
theorem dL_rule_10 : decode cL_rule 10 = .ok (.goto 11, 3) := op_167p (x := 11) (by decide +kernel)
theorem dL_rule_13 : decode cL_rule 13 = .ok (.astore 4, 2) := op_58 (x := 4) (by decide +kernel)
theorem dL_rule_15 : decode cL_rule 15 = .ok (.iconst 1, 1) := op_4 (by decide +kernel)
theorem dL_rule_16 : decode cL_rule 16 = .ok (.ireturn, 1) := op_172 (by decide +kernel)
theorem dL_rule_17 : decode cL_rule 17 = .ok (.astore 4, 2) := op_58 (x := 4) (by decide +kernel)
theorem dL_rule_19 : decode cL_rule 19 = .ok (.iconst 2, 1) := op_5 (by decide +kernel)
theorem dL_rule_20 : decode cL_rule 20 = .ok (.ireturn, 1) := op_172 (by decide +kernel)
theorem dL_rule_21 : decode cL_rule 21 = .ok (.iconst 0, 1) := op_3 (by decide +kernel)
theorem dL_rule_22 : decode cL_rule 22 = .ok (.ireturn, 1) := op_172 (by decide +kernel)
theorem dL_bodyAt_0 : decode cL_bodyAt 0 = .ok (.aload_n 3, 1) := op_45 (by decide +kernel)
theorem dL_bodyAt_1 : decode cL_bodyAt 1 = .ok (.iconst 0, 1) := op_3 (by decide +kernel)
theorem dL_bodyAt_2 : decode cL_bodyAt 2 = .ok (.aload_n 0, 1) := op_42 (by decide +kernel)
theorem dL_bodyAt_3 : decode cL_bodyAt 3 = .ok (.iload_n 1, 1) := op_27 (by decide +kernel)
theorem dL_bodyAt_4 : decode cL_bodyAt 4 = .ok (.iload_n 2, 1) := op_28 (by decide +kernel)
theorem dL_bodyAt_5 : decode cL_bodyAt 5 = .ok (.invokevirtual 25, 3) := op_182 (x := 25) (by decide +kernel)
theorem dL_bodyAt_8 : decode cL_bodyAt 8 = .ok (.i2l, 1) := op_133 (by decide +kernel)
theorem dL_bodyAt_9 : decode cL_bodyAt 9 = .ok (.lastore, 1) := op_80 (by decide +kernel)
theorem dL_bodyAt_10 : decode cL_bodyAt 10 = .ok (.goto 7, 3) := op_167p (x := 7) (by decide +kernel)
theorem dL_bodyAt_13 : decode cL_bodyAt 13 = .ok (.astore 4, 2) := op_58 (x := 4) (by decide +kernel)
theorem dL_bodyAt_15 : decode cL_bodyAt 15 = .ok (.iconst 1, 1) := op_4 (by decide +kernel)
theorem dL_bodyAt_16 : decode cL_bodyAt 16 = .ok (.ireturn, 1) := op_172 (by decide +kernel)
theorem dL_bodyAt_17 : decode cL_bodyAt 17 = .ok (.iconst 0, 1) := op_3 (by decide +kernel)
theorem dL_bodyAt_18 : decode cL_bodyAt 18 = .ok (.ireturn, 1) := op_172 (by decide +kernel)
theorem dL_startAt_0 : decode cL_startAt 0 = .ok (.aload_n 2, 1) := op_44 (by decide +kernel)
theorem dL_startAt_1 : decode cL_startAt 1 = .ok (.iconst 0, 1) := op_3 (by decide +kernel)
theorem dL_startAt_2 : decode cL_startAt 2 = .ok (.aload_n 0, 1) := op_42 (by decide +kernel)
theorem dL_startAt_3 : decode cL_startAt 3 = .ok (.iload_n 1, 1) := op_27 (by decide +kernel)
theorem dL_startAt_4 : decode cL_startAt 4 = .ok (.invokevirtual 28, 3) := op_182 (x := 28) (by decide +kernel)
theorem dL_startAt_7 : decode cL_startAt 7 = .ok (.i2l, 1) := op_133 (by decide +kernel)
theorem dL_startAt_8 : decode cL_startAt 8 = .ok (.lastore, 1) := op_80 (by decide +kernel)
theorem dL_startAt_9 : decode cL_startAt 9 = .ok (.goto 6, 3) := op_167p (x := 6) (by decide +kernel)
theorem dL_startAt_12 : decode cL_startAt 12 = .ok (.astore_n 3, 1) := op_78 (by decide +kernel)
theorem dL_startAt_13 : decode cL_startAt 13 = .ok (.iconst 1, 1) := op_4 (by decide +kernel)
theorem dL_startAt_14 : decode cL_startAt 14 = .ok (.ireturn, 1) := op_172 (by decide +kernel)
theorem dL_startAt_15 : decode cL_startAt 15 = .ok (.iconst 0, 1) := op_3 (by decide +kernel)
theorem dL_startAt_16 : decode cL_startAt 16 = .ok (.ireturn, 1) := op_172 (by decide +kernel)
theorem dL_letterAt_0 : decode cL_letterAt 0 = .ok (.aload_n 2, 1) := op_44 (by decide +kernel)
theorem dL_letterAt_1 : decode cL_letterAt 1 = .ok (.iconst 0, 1) := op_3 (by decide +kernel)
theorem dL_letterAt_2 : decode cL_letterAt 2 = .ok (.aload_n 0, 1) := op_42 (by decide +kernel)
theorem dL_letterAt_3 : decode cL_letterAt 3 = .ok (.iload_n 1, 1) := op_27 (by decide +kernel)
theorem dL_letterAt_4 : decode cL_letterAt 4 = .ok (.invokevirtual 31, 3) := op_182 (x := 31) (by decide +kernel)
theorem dL_letterAt_7 : decode cL_letterAt 7 = .ok (.i2l, 1) := op_133 (by decide +kernel)
theorem dL_letterAt_8 : decode cL_letterAt 8 = .ok (.lastore, 1) := op_80 (by decide +kernel)
theorem dL_letterAt_9 : decode cL_letterAt 9 = .ok (.goto 6, 3) := op_167p (x := 6) (by decide +kernel)
theorem dL_letterAt_12 : decode cL_letterAt 12 = .ok (.astore_n 3, 1) := op_78 (by decide +kernel)
theorem dL_letterAt_13 : decode cL_letterAt 13 = .ok (.iconst 1, 1) := op_4 (by decide +kernel)
theorem dL_letterAt_14 : decode cL_letterAt 14 = .ok (.ireturn, 1) := op_172 (by decide +kernel)
theorem dL_letterAt_15 : decode cL_letterAt 15 = .ok (.iconst 0, 1) := op_3 (by decide +kernel)
theorem dL_letterAt_16 : decode cL_letterAt 16 = .ok (.ireturn, 1) := op_172 (by decide +kernel)
theorem dL_symbolOf_0 : decode cL_symbolOf 0 = .ok (.aload_n 2, 1) := op_44 (by decide +kernel)
theorem dL_symbolOf_1 : decode cL_symbolOf 1 = .ok (.iconst 0, 1) := op_3 (by decide +kernel)
theorem dL_symbolOf_2 : decode cL_symbolOf 2 = .ok (.aload_n 0, 1) := op_42 (by decide +kernel)
theorem dL_symbolOf_3 : decode cL_symbolOf 3 = .ok (.iload_n 1, 1) := op_27 (by decide +kernel)
theorem dL_symbolOf_4 : decode cL_symbolOf 4 = .ok (.invokevirtual 34, 3) := op_182 (x := 34) (by decide +kernel)
theorem dL_symbolOf_7 : decode cL_symbolOf 7 = .ok (.i2l, 1) := op_133 (by decide +kernel)
theorem dL_symbolOf_8 : decode cL_symbolOf 8 = .ok (.lastore, 1) := op_80 (by decide +kernel)
theorem dL_symbolOf_9 : decode cL_symbolOf 9 = .ok (.goto 6, 3) := op_167p (x := 6) (by decide +kernel)
theorem dL_symbolOf_12 : decode cL_symbolOf 12 = .ok (.astore_n 3, 1) := op_78 (by decide +kernel)
theorem dL_symbolOf_13 : decode cL_symbolOf 13 = .ok (.iconst 1, 1) := op_4 (by decide +kernel)
theorem dL_symbolOf_14 : decode cL_symbolOf 14 = .ok (.ireturn, 1) := op_172 (by decide +kernel)
theorem dL_symbolOf_15 : decode cL_symbolOf 15 = .ok (.iconst 0, 1) := op_3 (by decide +kernel)
theorem dL_symbolOf_16 : decode cL_symbolOf 16 = .ok (.ireturn, 1) := op_172 (by decide +kernel)
theorem dL_letters_0 : decode cL_letters 0 = .ok (.aload_n 2, 1) := op_44 (by decide +kernel)
theorem dL_letters_1 : decode cL_letters 1 = .ok (.iconst 0, 1) := op_3 (by decide +kernel)
theorem dL_letters_2 : decode cL_letters 2 = .ok (.aload_n 0, 1) := op_42 (by decide +kernel)
theorem dL_letters_3 : decode cL_letters 3 = .ok (.iload_n 1, 1) := op_27 (by decide +kernel)
theorem dL_letters_4 : decode cL_letters 4 = .ok (.invokevirtual 37, 3) := op_182 (x := 37) (by decide +kernel)
theorem dL_letters_7 : decode cL_letters 7 = .ok (.i2l, 1) := op_133 (by decide +kernel)
theorem dL_letters_8 : decode cL_letters 8 = .ok (.lastore, 1) := op_80 (by decide +kernel)
theorem dL_letters_9 : decode cL_letters 9 = .ok (.goto 6, 3) := op_167p (x := 6) (by decide +kernel)
theorem dL_letters_12 : decode cL_letters 12 = .ok (.astore_n 3, 1) := op_78 (by decide +kernel)
theorem dL_letters_13 : decode cL_letters 13 = .ok (.iconst 1, 1) := op_4 (by decide +kernel)
theorem dL_letters_14 : decode cL_letters 14 = .ok (.ireturn, 1) := op_172 (by decide +kernel)
theorem dL_letters_15 : decode cL_letters 15 = .ok (.iconst 0, 1) := op_3 (by decide +kernel)
theorem dL_letters_16 : decode cL_letters 16 = .ok (.ireturn, 1) := op_172 (by decide +kernel)
theorem dL_account_0 : decode cL_account 0 = .ok (.aload_n 2, 1) := op_44 (by decide +kernel)
theorem dL_account_1 : decode cL_account 1 = .ok (.iconst 0, 1) := op_3 (by decide +kernel)
theorem dL_account_2 : decode cL_account 2 = .ok (.aload_n 0, 1) := op_42 (by decide +kernel)
theorem dL_account_3 : decode cL_account 3 = .ok (.iload_n 1, 1) := op_27 (by decide +kernel)
theorem dL_account_4 : decode cL_account 4 = .ok (.invokevirtual 40, 3) := op_182 (x := 40) (by decide +kernel)
theorem dL_account_7 : decode cL_account 7 = .ok (.i2l, 1) := op_133 (by decide +kernel)
theorem dL_account_8 : decode cL_account 8 = .ok (.lastore, 1) := op_80 (by decide +kernel)
theorem dL_account_9 : decode cL_account 9 = .ok (.goto 6, 3) := op_167p (x := 6) (by decide +kernel)
theorem dL_account_12 : decode cL_account 12 = .ok (.astore_n 3, 1) := op_78 (by decide +kernel)
theorem dL_account_13 : decode cL_account 13 = .ok (.iconst 1, 1) := op_4 (by decide +kernel)
theorem dL_account_14 : decode cL_account 14 = .ok (.ireturn, 1) := op_172 (by decide +kernel)
theorem dL_account_15 : decode cL_account 15 = .ok (.iconst 0, 1) := op_3 (by decide +kernel)
theorem dL_account_16 : decode cL_account 16 = .ok (.ireturn, 1) := op_172 (by decide +kernel)
theorem dL_count_0 : decode cL_count 0 = .ok (.aload_n 3, 1) := op_45 (by decide +kernel)
theorem dL_count_1 : decode cL_count 1 = .ok (.iconst 0, 1) := op_3 (by decide +kernel)
theorem dL_count_2 : decode cL_count 2 = .ok (.aload_n 0, 1) := op_42 (by decide +kernel)
theorem dL_count_3 : decode cL_count 3 = .ok (.iload_n 1, 1) := op_27 (by decide +kernel)
theorem dL_count_4 : decode cL_count 4 = .ok (.iload_n 2, 1) := op_28 (by decide +kernel)
theorem dL_count_5 : decode cL_count 5 = .ok (.invokevirtual 43, 3) := op_182 (x := 43) (by decide +kernel)
theorem dL_count_8 : decode cL_count 8 = .ok (.i2l, 1) := op_133 (by decide +kernel)
theorem dL_count_9 : decode cL_count 9 = .ok (.lastore, 1) := op_80 (by decide +kernel)
theorem dL_count_10 : decode cL_count 10 = .ok (.goto 7, 3) := op_167p (x := 7) (by decide +kernel)
theorem dL_count_13 : decode cL_count 13 = .ok (.astore 4, 2) := op_58 (x := 4) (by decide +kernel)
theorem dL_count_15 : decode cL_count 15 = .ok (.iconst 1, 1) := op_4 (by decide +kernel)
theorem dL_count_16 : decode cL_count 16 = .ok (.ireturn, 1) := op_172 (by decide +kernel)
theorem dL_count_17 : decode cL_count 17 = .ok (.iconst 0, 1) := op_3 (by decide +kernel)
theorem dL_count_18 : decode cL_count 18 = .ok (.ireturn, 1) := op_172 (by decide +kernel)
theorem dL_best_0 : decode cL_best 0 = .ok (.aload_n 2, 1) := op_44 (by decide +kernel)
theorem dL_best_1 : decode cL_best 1 = .ok (.iconst 0, 1) := op_3 (by decide +kernel)
theorem dL_best_2 : decode cL_best 2 = .ok (.aload_n 0, 1) := op_42 (by decide +kernel)
theorem dL_best_3 : decode cL_best 3 = .ok (.iload_n 1, 1) := op_27 (by decide +kernel)
theorem dL_best_4 : decode cL_best 4 = .ok (.invokevirtual 46, 3) := op_182 (x := 46) (by decide +kernel)
theorem dL_best_7 : decode cL_best 7 = .ok (.i2l, 1) := op_133 (by decide +kernel)
theorem dL_best_8 : decode cL_best 8 = .ok (.lastore, 1) := op_80 (by decide +kernel)
theorem dL_best_9 : decode cL_best 9 = .ok (.goto 6, 3) := op_167p (x := 6) (by decide +kernel)
theorem dL_best_12 : decode cL_best 12 = .ok (.astore_n 3, 1) := op_78 (by decide +kernel)
theorem dL_best_13 : decode cL_best 13 = .ok (.iconst 1, 1) := op_4 (by decide +kernel)
theorem dL_best_14 : decode cL_best 14 = .ok (.ireturn, 1) := op_172 (by decide +kernel)
theorem dL_best_15 : decode cL_best 15 = .ok (.iconst 0, 1) := op_3 (by decide +kernel)
theorem dL_best_16 : decode cL_best 16 = .ok (.ireturn, 1) := op_172 (by decide +kernel)
theorem dL_why_0 : decode cL_why 0 = .ok (.aload_n 3, 1) := op_45 (by decide +kernel)
theorem dL_why_1 : decode cL_why 1 = .ok (.iconst 0, 1) := op_3 (by decide +kernel)
theorem dL_why_2 : decode cL_why 2 = .ok (.aload_n 0, 1) := op_42 (by decide +kernel)
theorem dL_why_3 : decode cL_why 3 = .ok (.iload_n 1, 1) := op_27 (by decide +kernel)
theorem dL_why_4 : decode cL_why 4 = .ok (.iload_n 2, 1) := op_28 (by decide +kernel)
theorem dL_why_5 : decode cL_why 5 = .ok (.invokevirtual 49, 3) := op_182 (x := 49) (by decide +kernel)
theorem dL_why_8 : decode cL_why 8 = .ok (.i2l, 1) := op_133 (by decide +kernel)
theorem dL_why_9 : decode cL_why 9 = .ok (.lastore, 1) := op_80 (by decide +kernel)
theorem dL_why_10 : decode cL_why 10 = .ok (.goto 7, 3) := op_167p (x := 7) (by decide +kernel)
theorem dL_why_13 : decode cL_why 13 = .ok (.astore 4, 2) := op_58 (x := 4) (by decide +kernel)
theorem dL_why_15 : decode cL_why 15 = .ok (.iconst 1, 1) := op_4 (by decide +kernel)
theorem dL_why_16 : decode cL_why 16 = .ok (.ireturn, 1) := op_172 (by decide +kernel)
theorem dL_why_17 : decode cL_why 17 = .ok (.iconst 0, 1) := op_3 (by decide +kernel)
theorem dL_why_18 : decode cL_why 18 = .ok (.ireturn, 1) := op_172 (by decide +kernel)
theorem dL_gain_0 : decode cL_gain 0 = .ok (.aload_n 3, 1) := op_45 (by decide +kernel)
theorem dL_gain_1 : decode cL_gain 1 = .ok (.iconst 0, 1) := op_3 (by decide +kernel)
theorem dL_gain_2 : decode cL_gain 2 = .ok (.aload_n 0, 1) := op_42 (by decide +kernel)
theorem dL_gain_3 : decode cL_gain 3 = .ok (.iload_n 1, 1) := op_27 (by decide +kernel)
theorem dL_gain_4 : decode cL_gain 4 = .ok (.iload_n 2, 1) := op_28 (by decide +kernel)
theorem dL_gain_5 : decode cL_gain 5 = .ok (.invokevirtual 52, 3) := op_182 (x := 52) (by decide +kernel)
theorem dL_gain_8 : decode cL_gain 8 = .ok (.i2l, 1) := op_133 (by decide +kernel)
theorem dL_gain_9 : decode cL_gain 9 = .ok (.lastore, 1) := op_80 (by decide +kernel)
theorem dL_gain_10 : decode cL_gain 10 = .ok (.goto 7, 3) := op_167p (x := 7) (by decide +kernel)
theorem dL_gain_13 : decode cL_gain 13 = .ok (.astore 4, 2) := op_58 (x := 4) (by decide +kernel)
theorem dL_gain_15 : decode cL_gain 15 = .ok (.iconst 1, 1) := op_4 (by decide +kernel)
theorem dL_gain_16 : decode cL_gain 16 = .ok (.ireturn, 1) := op_172 (by decide +kernel)
theorem dL_gain_17 : decode cL_gain 17 = .ok (.iconst 0, 1) := op_3 (by decide +kernel)
theorem dL_gain_18 : decode cL_gain 18 = .ok (.ireturn, 1) := op_172 (by decide +kernel)
theorem dL_sizeIn_0 : decode cL_sizeIn 0 = .ok (.aload_n 2, 1) := op_44 (by decide +kernel)
theorem dL_sizeIn_1 : decode cL_sizeIn 1 = .ok (.iconst 0, 1) := op_3 (by decide +kernel)
theorem dL_sizeIn_2 : decode cL_sizeIn 2 = .ok (.aload_n 0, 1) := op_42 (by decide +kernel)
theorem dL_sizeIn_3 : decode cL_sizeIn 3 = .ok (.iload_n 1, 1) := op_27 (by decide +kernel)
theorem dL_sizeIn_4 : decode cL_sizeIn 4 = .ok (.invokevirtual 55, 3) := op_182 (x := 55) (by decide +kernel)
theorem dL_sizeIn_7 : decode cL_sizeIn 7 = .ok (.i2l, 1) := op_133 (by decide +kernel)
theorem dL_sizeIn_8 : decode cL_sizeIn 8 = .ok (.lastore, 1) := op_80 (by decide +kernel)
theorem dL_sizeIn_9 : decode cL_sizeIn 9 = .ok (.goto 6, 3) := op_167p (x := 6) (by decide +kernel)
theorem dL_sizeIn_12 : decode cL_sizeIn 12 = .ok (.astore_n 3, 1) := op_78 (by decide +kernel)
theorem dL_sizeIn_13 : decode cL_sizeIn 13 = .ok (.iconst 1, 1) := op_4 (by decide +kernel)
theorem dL_sizeIn_14 : decode cL_sizeIn 14 = .ok (.ireturn, 1) := op_172 (by decide +kernel)
theorem dL_sizeIn_15 : decode cL_sizeIn 15 = .ok (.iconst 0, 1) := op_3 (by decide +kernel)
theorem dL_sizeIn_16 : decode cL_sizeIn 16 = .ok (.ireturn, 1) := op_172 (by decide +kernel)
theorem dL_step_0 : decode cL_step 0 = .ok (.aload_n 2, 1) := op_44 (by decide +kernel)
theorem dL_step_1 : decode cL_step 1 = .ok (.iconst 0, 1) := op_3 (by decide +kernel)
theorem dL_step_2 : decode cL_step 2 = .ok (.aload_n 0, 1) := op_42 (by decide +kernel)
theorem dL_step_3 : decode cL_step 3 = .ok (.iload_n 1, 1) := op_27 (by decide +kernel)
theorem dL_step_4 : decode cL_step 4 = .ok (.invokevirtual 58, 3) := op_182 (x := 58) (by decide +kernel)
theorem dL_step_7 : decode cL_step 7 = .ok (.i2l, 1) := op_133 (by decide +kernel)
theorem dL_step_8 : decode cL_step 8 = .ok (.lastore, 1) := op_80 (by decide +kernel)
theorem dL_step_9 : decode cL_step 9 = .ok (.goto 6, 3) := op_167p (x := 6) (by decide +kernel)
theorem dL_step_12 : decode cL_step 12 = .ok (.astore_n 3, 1) := op_78 (by decide +kernel)
theorem dL_step_13 : decode cL_step 13 = .ok (.iconst 1, 1) := op_4 (by decide +kernel)
theorem dL_step_14 : decode cL_step 14 = .ok (.ireturn, 1) := op_172 (by decide +kernel)
theorem dL_step_15 : decode cL_step 15 = .ok (.iconst 0, 1) := op_3 (by decide +kernel)
theorem dL_step_16 : decode cL_step 16 = .ok (.ireturn, 1) := op_172 (by decide +kernel)
theorem dL_make_0 : decode cL_make 0 = .ok (.aload_n 3, 1) := op_45 (by decide +kernel)
theorem dL_make_1 : decode cL_make 1 = .ok (.iconst 0, 1) := op_3 (by decide +kernel)
theorem dL_make_2 : decode cL_make 2 = .ok (.aload_n 0, 1) := op_42 (by decide +kernel)
theorem dL_make_3 : decode cL_make 3 = .ok (.iload_n 1, 1) := op_27 (by decide +kernel)
theorem dL_make_4 : decode cL_make 4 = .ok (.iload_n 2, 1) := op_28 (by decide +kernel)
theorem dL_make_5 : decode cL_make 5 = .ok (.invokevirtual 61, 3) := op_182 (x := 61) (by decide +kernel)
theorem dL_make_8 : decode cL_make 8 = .ok (.i2l, 1) := op_133 (by decide +kernel)
theorem dL_make_9 : decode cL_make 9 = .ok (.lastore, 1) := op_80 (by decide +kernel)
theorem dL_make_10 : decode cL_make 10 = .ok (.goto 7, 3) := op_167p (x := 7) (by decide +kernel)
theorem dL_make_13 : decode cL_make 13 = .ok (.astore 4, 2) := op_58 (x := 4) (by decide +kernel)
theorem dL_make_15 : decode cL_make 15 = .ok (.iconst 1, 1) := op_4 (by decide +kernel)
theorem dL_make_16 : decode cL_make 16 = .ok (.ireturn, 1) := op_172 (by decide +kernel)
theorem dL_make_17 : decode cL_make 17 = .ok (.iconst 0, 1) := op_3 (by decide +kernel)
theorem dL_make_18 : decode cL_make 18 = .ok (.ireturn, 1) := op_172 (by decide +kernel)
theorem dL_expand_0 : decode cL_expand 0 = .ok (.aload_n 2, 1) := op_44 (by decide +kernel)
theorem dL_expand_1 : decode cL_expand 1 = .ok (.iconst 0, 1) := op_3 (by decide +kernel)
theorem dL_expand_2 : decode cL_expand 2 = .ok (.aload_n 0, 1) := op_42 (by decide +kernel)
theorem dL_expand_3 : decode cL_expand 3 = .ok (.iload_n 1, 1) := op_27 (by decide +kernel)
theorem dL_expand_4 : decode cL_expand 4 = .ok (.invokevirtual 64, 3) := op_182 (x := 64) (by decide +kernel)
theorem dL_expand_7 : decode cL_expand 7 = .ok (.i2l, 1) := op_133 (by decide +kernel)
theorem dL_expand_8 : decode cL_expand 8 = .ok (.lastore, 1) := op_80 (by decide +kernel)
theorem dL_expand_9 : decode cL_expand 9 = .ok (.goto 6, 3) := op_167p (x := 6) (by decide +kernel)
theorem dL_expand_12 : decode cL_expand 12 = .ok (.astore_n 3, 1) := op_78 (by decide +kernel)
theorem dL_expand_13 : decode cL_expand 13 = .ok (.iconst 1, 1) := op_4 (by decide +kernel)
theorem dL_expand_14 : decode cL_expand 14 = .ok (.ireturn, 1) := op_172 (by decide +kernel)
theorem dL_expand_15 : decode cL_expand 15 = .ok (.iconst 0, 1) := op_3 (by decide +kernel)
theorem dL_expand_16 : decode cL_expand 16 = .ok (.ireturn, 1) := op_172 (by decide +kernel)
theorem dL_append_0 : decode cL_append 0 = .ok (.aload_n 2, 1) := op_44 (by decide +kernel)
theorem dL_append_1 : decode cL_append 1 = .ok (.iconst 0, 1) := op_3 (by decide +kernel)
theorem dL_append_2 : decode cL_append 2 = .ok (.aload_n 0, 1) := op_42 (by decide +kernel)
theorem dL_append_3 : decode cL_append 3 = .ok (.iload_n 1, 1) := op_27 (by decide +kernel)
theorem dL_append_4 : decode cL_append 4 = .ok (.invokevirtual 67, 3) := op_182 (x := 67) (by decide +kernel)
theorem dL_append_7 : decode cL_append 7 = .ok (.i2l, 1) := op_133 (by decide +kernel)
theorem dL_append_8 : decode cL_append 8 = .ok (.lastore, 1) := op_80 (by decide +kernel)
theorem dL_append_9 : decode cL_append 9 = .ok (.goto 6, 3) := op_167p (x := 6) (by decide +kernel)
theorem dL_append_12 : decode cL_append 12 = .ok (.astore_n 3, 1) := op_78 (by decide +kernel)
theorem dL_append_13 : decode cL_append 13 = .ok (.iconst 1, 1) := op_4 (by decide +kernel)
theorem dL_append_14 : decode cL_append 14 = .ok (.ireturn, 1) := op_172 (by decide +kernel)
theorem dL_append_15 : decode cL_append 15 = .ok (.iconst 0, 1) := op_3 (by decide +kernel)
theorem dL_append_16 : decode cL_append 16 = .ok (.ireturn, 1) := op_172 (by decide +kernel)
theorem dL_cut_0 : decode cL_cut 0 = .ok (.aload_n 2, 1) := op_44 (by decide +kernel)
theorem dL_cut_1 : decode cL_cut 1 = .ok (.iconst 0, 1) := op_3 (by decide +kernel)
theorem dL_cut_2 : decode cL_cut 2 = .ok (.aload_n 0, 1) := op_42 (by decide +kernel)
theorem dL_cut_3 : decode cL_cut 3 = .ok (.iload_n 1, 1) := op_27 (by decide +kernel)
theorem dL_cut_4 : decode cL_cut 4 = .ok (.invokevirtual 70, 3) := op_182 (x := 70) (by decide +kernel)
theorem dL_cut_7 : decode cL_cut 7 = .ok (.i2l, 1) := op_133 (by decide +kernel)
theorem dL_cut_8 : decode cL_cut 8 = .ok (.lastore, 1) := op_80 (by decide +kernel)
theorem dL_cut_9 : decode cL_cut 9 = .ok (.goto 6, 3) := op_167p (x := 6) (by decide +kernel)
theorem dL_cut_12 : decode cL_cut 12 = .ok (.astore_n 3, 1) := op_78 (by decide +kernel)
theorem dL_cut_13 : decode cL_cut 13 = .ok (.iconst 1, 1) := op_4 (by decide +kernel)
theorem dL_cut_14 : decode cL_cut 14 = .ok (.ireturn, 1) := op_172 (by decide +kernel)
theorem dL_cut_15 : decode cL_cut 15 = .ok (.iconst 0, 1) := op_3 (by decide +kernel)
theorem dL_cut_16 : decode cL_cut 16 = .ok (.ireturn, 1) := op_172 (by decide +kernel)
theorem dL_set_0 : decode cL_set 0 = .ok (.aload_n 3, 1) := op_45 (by decide +kernel)
theorem dL_set_1 : decode cL_set 1 = .ok (.iconst 0, 1) := op_3 (by decide +kernel)
theorem dL_set_2 : decode cL_set 2 = .ok (.aload_n 0, 1) := op_42 (by decide +kernel)
theorem dL_set_3 : decode cL_set 3 = .ok (.iload_n 1, 1) := op_27 (by decide +kernel)
theorem dL_set_4 : decode cL_set 4 = .ok (.iload_n 2, 1) := op_28 (by decide +kernel)
theorem dL_set_5 : decode cL_set 5 = .ok (.invokevirtual 73, 3) := op_182 (x := 73) (by decide +kernel)
theorem dL_set_8 : decode cL_set 8 = .ok (.i2l, 1) := op_133 (by decide +kernel)
theorem dL_set_9 : decode cL_set 9 = .ok (.lastore, 1) := op_80 (by decide +kernel)
theorem dL_set_10 : decode cL_set 10 = .ok (.goto 7, 3) := op_167p (x := 7) (by decide +kernel)
theorem dL_set_13 : decode cL_set 13 = .ok (.astore 4, 2) := op_58 (x := 4) (by decide +kernel)
theorem dL_set_15 : decode cL_set 15 = .ok (.iconst 1, 1) := op_4 (by decide +kernel)
theorem dL_set_16 : decode cL_set 16 = .ok (.ireturn, 1) := op_172 (by decide +kernel)
theorem dL_set_17 : decode cL_set 17 = .ok (.iconst 0, 1) := op_3 (by decide +kernel)
theorem dL_set_18 : decode cL_set 18 = .ok (.ireturn, 1) := op_172 (by decide +kernel)
theorem dL_undo_0 : decode cL_undo 0 = .ok (.aload_n 1, 1) := op_43 (by decide +kernel)
theorem dL_undo_1 : decode cL_undo 1 = .ok (.iconst 0, 1) := op_3 (by decide +kernel)
theorem dL_undo_2 : decode cL_undo 2 = .ok (.aload_n 0, 1) := op_42 (by decide +kernel)
theorem dL_undo_3 : decode cL_undo 3 = .ok (.invokevirtual 76, 3) := op_182 (x := 76) (by decide +kernel)
theorem dL_undo_6 : decode cL_undo 6 = .ok (.i2l, 1) := op_133 (by decide +kernel)
theorem dL_undo_7 : decode cL_undo 7 = .ok (.lastore, 1) := op_80 (by decide +kernel)
theorem dL_undo_8 : decode cL_undo 8 = .ok (.goto 6, 3) := op_167p (x := 6) (by decide +kernel)
theorem dL_undo_11 : decode cL_undo 11 = .ok (.astore_n 2, 1) := op_77 (by decide +kernel)
theorem dL_undo_12 : decode cL_undo 12 = .ok (.iconst 1, 1) := op_4 (by decide +kernel)
theorem dL_undo_13 : decode cL_undo 13 = .ok (.ireturn, 1) := op_172 (by decide +kernel)
theorem dL_undo_14 : decode cL_undo 14 = .ok (.iconst 0, 1) := op_3 (by decide +kernel)
theorem dL_undo_15 : decode cL_undo 15 = .ok (.ireturn, 1) := op_172 (by decide +kernel)
theorem dL_save_0 : decode cL_save 0 = .ok (.aload_n 2, 1) := op_44 (by decide +kernel)
theorem dL_save_1 : decode cL_save 1 = .ok (.iconst 0, 1) := op_3 (by decide +kernel)
theorem dL_save_2 : decode cL_save 2 = .ok (.aload_n 0, 1) := op_42 (by decide +kernel)
theorem dL_save_3 : decode cL_save 3 = .ok (.iload_n 1, 1) := op_27 (by decide +kernel)
theorem dL_save_4 : decode cL_save 4 = .ok (.invokevirtual 82, 3) := op_182 (x := 82) (by decide +kernel)
theorem dL_save_7 : decode cL_save 7 = .ok (.i2l, 1) := op_133 (by decide +kernel)
theorem dL_save_8 : decode cL_save 8 = .ok (.lastore, 1) := op_80 (by decide +kernel)
theorem dL_save_9 : decode cL_save 9 = .ok (.goto 6, 3) := op_167p (x := 6) (by decide +kernel)
theorem dL_save_12 : decode cL_save 12 = .ok (.astore_n 3, 1) := op_78 (by decide +kernel)
theorem dL_save_13 : decode cL_save 13 = .ok (.iconst 1, 1) := op_4 (by decide +kernel)
theorem dL_save_14 : decode cL_save 14 = .ok (.ireturn, 1) := op_172 (by decide +kernel)
theorem dL_save_15 : decode cL_save 15 = .ok (.iconst 0, 1) := op_3 (by decide +kernel)
theorem dL_save_16 : decode cL_save 16 = .ok (.ireturn, 1) := op_172 (by decide +kernel)
theorem dL_restore_0 : decode cL_restore 0 = .ok (.aload_n 2, 1) := op_44 (by decide +kernel)
theorem dL_restore_1 : decode cL_restore 1 = .ok (.iconst 0, 1) := op_3 (by decide +kernel)
theorem dL_restore_2 : decode cL_restore 2 = .ok (.aload_n 0, 1) := op_42 (by decide +kernel)
theorem dL_restore_3 : decode cL_restore 3 = .ok (.iload_n 1, 1) := op_27 (by decide +kernel)
theorem dL_restore_4 : decode cL_restore 4 = .ok (.invokevirtual 85, 3) := op_182 (x := 85) (by decide +kernel)
theorem dL_restore_7 : decode cL_restore 7 = .ok (.i2l, 1) := op_133 (by decide +kernel)
theorem dL_restore_8 : decode cL_restore 8 = .ok (.lastore, 1) := op_80 (by decide +kernel)
theorem dL_restore_9 : decode cL_restore 9 = .ok (.goto 9, 3) := op_167p (x := 9) (by decide +kernel)
theorem dL_restore_12 : decode cL_restore 12 = .ok (.astore_n 3, 1) := op_78 (by decide +kernel)
theorem dL_restore_13 : decode cL_restore 13 = .ok (.iconst 1, 1) := op_4 (by decide +kernel)
theorem dL_restore_14 : decode cL_restore 14 = .ok (.ireturn, 1) := op_172 (by decide +kernel)
theorem dL_restore_15 : decode cL_restore 15 = .ok (.astore_n 3, 1) := op_78 (by decide +kernel)
theorem dL_restore_16 : decode cL_restore 16 = .ok (.iconst 2, 1) := op_5 (by decide +kernel)
theorem dL_restore_17 : decode cL_restore 17 = .ok (.ireturn, 1) := op_172 (by decide +kernel)
theorem dL_restore_18 : decode cL_restore 18 = .ok (.iconst 0, 1) := op_3 (by decide +kernel)
theorem dL_restore_19 : decode cL_restore 19 = .ok (.ireturn, 1) := op_172 (by decide +kernel)
end
section
def ql_0 : List UInt8 := [187, 0, 8, 89, 183, 0, 88, 76, 187, 0, 89, 89, 183, 0, 91, 77, 4, 188, 11, 78, 3, 54, 4, 21, 4, 42, 190, 16, 6, 100, 163, 4, 190, 42, 21, 4, 46, 16, 63, 126, 170, 0, 0, 0, 0, 0, 4, 174, 0, 0, 0, 0, 0, 0, 0, 38, 0, 0, 0, 172, 0, 0, 0, 245, 0, 0, 1, 2, 0, 0, 1, 15, 0, 0, 1, 28, 0, 0, 1, 56, 0, 0, 1, 84, 0, 0, 1, 124, 0, 0, 1, 164, 0, 0, 1, 192, 0, 0, 1, 220, 0, 0, 1, 248, 0, 0, 2, 20, 0, 0, 2, 48, 0, 0, 2, 61, 0, 0, 2, 74, 0, 0, 2, 89, 0, 0, 2, 102, 0, 0, 2, 115, 0, 0, 2, 155, 0, 0, 2, 183, 0, 0, 2, 223, 0, 0, 3, 7, 0, 0, 3, 20, 0, 0, 3, 48, 0, 0, 3, 61, 0, 0, 3, 74, 0, 0, 3, 87, 0, 0, 3, 115, 0, 0, 3, 128, 0, 0, 3, 168, 0, 0, 3, 196, 0, 0, 3, 224, 0, 0, 3, 252, 0, 0, 4, 36, 0, 0, 4, 49, 0, 0, 4, 74, 0, 0, 4, 90, 0, 0, 4, 118]
def ql_1 : List UInt8 := [43, 42, 21, 4, 4, 96, 46, 42, 21, 4, 5, 96, 46, 42, 21, 4, 6, 96, 46, 42, 21, 4, 7, 96, 46, 42, 21, 4, 8, 96, 46, 182, 0, 92, 87, 44, 42, 21, 4, 4, 96, 46, 42, 21, 4, 5, 96, 46, 42, 21, 4, 6, 96, 46, 42, 21, 4, 7, 96, 46, 42, 21, 4, 8]
def ql_2 : List UInt8 := [96, 46, 182, 0, 96, 87, 167, 3, 188, 43, 182, 0, 97, 87, 44, 182, 0, 100, 87, 167, 3, 175, 43, 182, 0, 101, 87, 44, 182, 0, 104, 87, 167, 3, 162, 43, 182, 0, 105, 87, 44, 182, 0, 108, 87, 167, 3, 149, 43, 42, 21, 4, 4, 96, 46, 45, 184, 0, 109, 54, 5, 44, 42, 21, 4]
def ql_3 : List UInt8 := [4, 96, 46, 182, 0, 114, 54, 6, 167, 3, 121, 43, 42, 21, 4, 4, 96, 46, 45, 184, 0, 115, 54, 5, 44, 42, 21, 4, 4, 96, 46, 182, 0, 117, 54, 6, 167, 3, 93, 43, 42, 21, 4, 4, 96, 46, 42, 21, 4, 5, 96, 46, 45, 184, 0, 118, 54, 5, 44, 42, 21, 4, 4, 96]
def ql_4 : List UInt8 := [46, 42, 21, 4, 5, 96, 46, 182, 0, 121, 54, 6, 167, 3, 53, 43, 42, 21, 4, 4, 96, 46, 42, 21, 4, 5, 96, 46, 45, 184, 0, 122, 54, 5, 44, 42, 21, 4, 4, 96, 46, 42, 21, 4, 5, 96, 46, 182, 0, 124, 54, 6, 167, 3, 13, 43, 42, 21, 4, 4, 96, 46, 45, 184, 0, 125]
def ql_5 : List UInt8 := [54, 5, 44, 42, 21, 4, 4, 96, 46, 182, 0, 127, 54, 6, 167, 2, 241, 43, 42, 21, 4, 4, 96, 46, 45, 184, 0, 128, 54, 5, 44, 42, 21, 4, 4, 96, 46, 182, 0, 130, 54, 6, 167, 2, 213, 43, 42, 21, 4, 4, 96, 46, 45, 184, 0, 131, 54, 5, 44, 42, 21, 4, 4, 96]
def ql_6 : List UInt8 := [46, 182, 0, 133, 54, 6, 167, 2, 185, 43, 42, 21, 4, 4, 96, 46, 45, 184, 0, 134, 54, 5, 44, 42, 21, 4, 4, 96, 46, 182, 0, 136, 54, 6, 167, 2, 157, 43, 42, 21, 4, 4, 96, 46, 45, 184, 0, 137, 54, 5, 44, 42, 21, 4, 4, 96, 46, 182, 0, 139, 54, 6, 167, 2, 129]
def ql_7 : List UInt8 := [43, 182, 0, 140, 87, 44, 182, 0, 143, 87, 167, 2, 116, 43, 182, 0, 144, 87, 44, 182, 0, 147, 87, 167, 2, 103, 43, 182, 0, 148, 57, 5, 44, 182, 0, 152, 57, 7, 167, 2, 88, 43, 182, 0, 153, 87, 44, 182, 0, 156, 87, 167, 2, 75, 43, 182, 0, 157, 88, 44, 182, 0, 161, 88]
def ql_8 : List UInt8 := [167, 2, 62, 43, 42, 21, 4, 4, 96, 46, 42, 21, 4, 5, 96, 46, 45, 184, 0, 162, 54, 5, 44, 42, 21, 4, 4, 96, 46, 42, 21, 4, 5, 96, 46, 182, 0, 164, 54, 6, 167, 2, 22, 43, 42, 21, 4, 4, 96, 46, 45, 184, 0, 165, 54, 5, 44, 42, 21, 4, 4, 96, 46, 182, 0, 167]
def ql_9 : List UInt8 := [54, 6, 167, 1, 250, 43, 42, 21, 4, 4, 96, 46, 42, 21, 4, 5, 96, 46, 45, 184, 0, 168, 54, 5, 44, 42, 21, 4, 4, 96, 46, 42, 21, 4, 5, 96, 46, 182, 0, 170, 54, 6, 167, 1, 210, 43, 42, 21, 4, 4, 96, 46, 42, 21, 4, 5, 96, 46, 45, 184, 0, 171, 54, 5]
def ql_10 : List UInt8 := [44, 42, 21, 4, 4, 96, 46, 42, 21, 4, 5, 96, 46, 182, 0, 173, 54, 6, 167, 1, 170, 43, 182, 0, 174, 87, 44, 182, 0, 177, 87, 167, 1, 157, 43, 42, 21, 4, 4, 96, 46, 45, 184, 0, 178, 54, 5, 44, 42, 21, 4, 4, 96, 46, 182, 0, 180, 54, 6, 167, 1, 129, 43, 182, 0, 181]
def ql_11 : List UInt8 := [87, 44, 182, 0, 184, 87, 167, 1, 116, 43, 182, 0, 185, 87, 44, 182, 0, 188, 87, 167, 1, 103, 43, 182, 0, 189, 87, 44, 182, 0, 192, 87, 167, 1, 90, 43, 42, 21, 4, 4, 96, 46, 45, 184, 0, 193, 54, 5, 44, 42, 21, 4, 4, 96, 46, 182, 0, 195, 54, 6, 167, 1, 62, 43]
def ql_12 : List UInt8 := [182, 0, 196, 87, 44, 182, 0, 199, 87, 167, 1, 49, 43, 42, 21, 4, 4, 96, 46, 42, 21, 4, 5, 96, 46, 45, 184, 0, 200, 54, 5, 44, 42, 21, 4, 4, 96, 46, 42, 21, 4, 5, 96, 46, 182, 0, 202, 54, 6, 167, 1, 9, 43, 42, 21, 4, 4, 96, 46, 45, 184, 0, 203, 54, 5]
def ql_13 : List UInt8 := [44, 42, 21, 4, 4, 96, 46, 182, 0, 205, 54, 6, 167, 0, 237, 43, 42, 21, 4, 4, 96, 46, 45, 184, 0, 206, 54, 5, 44, 42, 21, 4, 4, 96, 46, 182, 0, 208, 54, 6, 167, 0, 209, 43, 42, 21, 4, 4, 96, 46, 45, 184, 0, 209, 54, 5, 44, 42, 21, 4, 4, 96, 46, 182, 0, 211]
def ql_14 : List UInt8 := [54, 6, 167, 0, 181, 43, 42, 21, 4, 4, 96, 46, 42, 21, 4, 5, 96, 46, 45, 184, 0, 212, 54, 5, 44, 42, 21, 4, 4, 96, 46, 42, 21, 4, 5, 96, 46, 182, 0, 214, 54, 6, 167, 0, 141, 43, 182, 0, 215, 87, 44, 182, 0, 218, 87, 167, 0, 128, 43, 42, 21, 4, 4, 96]
def ql_15 : List UInt8 := [46, 182, 0, 219, 87, 44, 42, 21, 4, 4, 96, 46, 182, 0, 222, 87, 167, 0, 103, 43, 45, 184, 0, 223, 54, 5, 44, 182, 0, 226, 54, 6, 167, 0, 87, 43, 42, 21, 4, 4, 96, 46, 45, 184, 0, 227, 54, 5, 44, 42, 21, 4, 4, 96, 46, 182, 0, 229, 54, 6, 167, 0, 59, 43]
def ql_16 : List UInt8 := [42, 21, 4, 4, 96, 46, 45, 184, 0, 230, 54, 5, 44, 42, 21, 4, 4, 96, 46, 182, 0, 232, 54, 6, 44, 182, 0, 233, 21, 5, 159, 0, 5, 3, 172, 21, 5, 154, 0, 15, 45, 3, 47, 21, 6, 133, 148, 153, 0, 5, 3, 172, 167, 0, 3, 132, 4, 6, 167, 251, 62, 4, 172]
def qs_17 : List UInt8 := []
def qs_16 : List UInt8 := ql_16 ++ qs_17
def qs_15 : List UInt8 := ql_15 ++ qs_16
def qs_14 : List UInt8 := ql_14 ++ qs_15
def qs_13 : List UInt8 := ql_13 ++ qs_14
def qs_12 : List UInt8 := ql_12 ++ qs_13
def qs_11 : List UInt8 := ql_11 ++ qs_12
def qs_10 : List UInt8 := ql_10 ++ qs_11
def qs_9 : List UInt8 := ql_9 ++ qs_10
def qs_8 : List UInt8 := ql_8 ++ qs_9
def qs_7 : List UInt8 := ql_7 ++ qs_8
def qs_6 : List UInt8 := ql_6 ++ qs_7
def qs_5 : List UInt8 := ql_5 ++ qs_6
def qs_4 : List UInt8 := ql_4 ++ qs_5
def qs_3 : List UInt8 := ql_3 ++ qs_4
def qs_2 : List UInt8 := ql_2 ++ qs_3
def qs_1 : List UInt8 := ql_1 ++ qs_2
def qs_0 : List UInt8 := ql_0 ++ qs_1
def qp_0 : List UInt8 := []
def qp_1 : List UInt8 := qp_0 ++ ql_0
def qp_2 : List UInt8 := qp_1 ++ ql_1
def qp_3 : List UInt8 := qp_2 ++ ql_2
def qp_4 : List UInt8 := qp_3 ++ ql_3
def qp_5 : List UInt8 := qp_4 ++ ql_4
def qp_6 : List UInt8 := qp_5 ++ ql_5
def qp_7 : List UInt8 := qp_6 ++ ql_6
def qp_8 : List UInt8 := qp_7 ++ ql_7
def qp_9 : List UInt8 := qp_8 ++ ql_8
def qp_10 : List UInt8 := qp_9 ++ ql_9
def qp_11 : List UInt8 := qp_10 ++ ql_10
def qp_12 : List UInt8 := qp_11 ++ ql_11
def qp_13 : List UInt8 := qp_12 ++ ql_12
def qp_14 : List UInt8 := qp_13 ++ ql_13
def qp_15 : List UInt8 := qp_14 ++ ql_14
def qp_16 : List UInt8 := qp_15 ++ ql_15
set_option maxRecDepth 20000 in
theorem qe_0 : cL_law.data.toList = qp_0 ++ (ql_0 ++ qs_1) := by decide +kernel
theorem qe_1 : cL_law.data.toList = qp_1 ++ (ql_1 ++ qs_2) := qe_0.trans (List.append_assoc qp_0 ql_0 qs_1).symm
theorem qe_2 : cL_law.data.toList = qp_2 ++ (ql_2 ++ qs_3) := qe_1.trans (List.append_assoc qp_1 ql_1 qs_2).symm
theorem qe_3 : cL_law.data.toList = qp_3 ++ (ql_3 ++ qs_4) := qe_2.trans (List.append_assoc qp_2 ql_2 qs_3).symm
theorem qe_4 : cL_law.data.toList = qp_4 ++ (ql_4 ++ qs_5) := qe_3.trans (List.append_assoc qp_3 ql_3 qs_4).symm
theorem qe_5 : cL_law.data.toList = qp_5 ++ (ql_5 ++ qs_6) := qe_4.trans (List.append_assoc qp_4 ql_4 qs_5).symm
theorem qe_6 : cL_law.data.toList = qp_6 ++ (ql_6 ++ qs_7) := qe_5.trans (List.append_assoc qp_5 ql_5 qs_6).symm
theorem qe_7 : cL_law.data.toList = qp_7 ++ (ql_7 ++ qs_8) := qe_6.trans (List.append_assoc qp_6 ql_6 qs_7).symm
theorem qe_8 : cL_law.data.toList = qp_8 ++ (ql_8 ++ qs_9) := qe_7.trans (List.append_assoc qp_7 ql_7 qs_8).symm
theorem qe_9 : cL_law.data.toList = qp_9 ++ (ql_9 ++ qs_10) := qe_8.trans (List.append_assoc qp_8 ql_8 qs_9).symm
theorem qe_10 : cL_law.data.toList = qp_10 ++ (ql_10 ++ qs_11) := qe_9.trans (List.append_assoc qp_9 ql_9 qs_10).symm
theorem qe_11 : cL_law.data.toList = qp_11 ++ (ql_11 ++ qs_12) := qe_10.trans (List.append_assoc qp_10 ql_10 qs_11).symm
theorem qe_12 : cL_law.data.toList = qp_12 ++ (ql_12 ++ qs_13) := qe_11.trans (List.append_assoc qp_11 ql_11 qs_12).symm
theorem qe_13 : cL_law.data.toList = qp_13 ++ (ql_13 ++ qs_14) := qe_12.trans (List.append_assoc qp_12 ql_12 qs_13).symm
theorem qe_14 : cL_law.data.toList = qp_14 ++ (ql_14 ++ qs_15) := qe_13.trans (List.append_assoc qp_13 ql_13 qs_14).symm
theorem qe_15 : cL_law.data.toList = qp_15 ++ (ql_15 ++ qs_16) := qe_14.trans (List.append_assoc qp_14 ql_14 qs_15).symm
theorem qe_16 : cL_law.data.toList = qp_16 ++ (ql_16 ++ qs_17) := qe_15.trans (List.append_assoc qp_15 ql_15 qs_16).symm
theorem qa_0 : AgB 0 cL_law ⟨⟨ql_0⟩⟩ := agb_of (A := qp_0) (D := qs_1) qe_0 (by decide +kernel)
theorem qa_1 : AgB 212 cL_law ⟨⟨ql_1⟩⟩ := agb_of (A := qp_1) (D := qs_2) qe_1 (by decide +kernel)
theorem qa_2 : AgB 276 cL_law ⟨⟨ql_2⟩⟩ := agb_of (A := qp_2) (D := qs_3) qe_2 (by decide +kernel)
theorem qa_3 : AgB 341 cL_law ⟨⟨ql_3⟩⟩ := agb_of (A := qp_3) (D := qs_4) qe_3 (by decide +kernel)
theorem qa_4 : AgB 405 cL_law ⟨⟨ql_4⟩⟩ := agb_of (A := qp_4) (D := qs_5) qe_4 (by decide +kernel)
theorem qa_5 : AgB 471 cL_law ⟨⟨ql_5⟩⟩ := agb_of (A := qp_5) (D := qs_6) qe_5 (by decide +kernel)
theorem qa_6 : AgB 535 cL_law ⟨⟨ql_6⟩⟩ := agb_of (A := qp_6) (D := qs_7) qe_6 (by decide +kernel)
theorem qa_7 : AgB 600 cL_law ⟨⟨ql_7⟩⟩ := agb_of (A := qp_7) (D := qs_8) qe_7 (by decide +kernel)
theorem qa_8 : AgB 664 cL_law ⟨⟨ql_8⟩⟩ := agb_of (A := qp_8) (D := qs_9) qe_8 (by decide +kernel)
theorem qa_9 : AgB 730 cL_law ⟨⟨ql_9⟩⟩ := agb_of (A := qp_9) (D := qs_10) qe_9 (by decide +kernel)
theorem qa_10 : AgB 794 cL_law ⟨⟨ql_10⟩⟩ := agb_of (A := qp_10) (D := qs_11) qe_10 (by decide +kernel)
theorem qa_11 : AgB 860 cL_law ⟨⟨ql_11⟩⟩ := agb_of (A := qp_11) (D := qs_12) qe_11 (by decide +kernel)
theorem qa_12 : AgB 924 cL_law ⟨⟨ql_12⟩⟩ := agb_of (A := qp_12) (D := qs_13) qe_12 (by decide +kernel)
theorem qa_13 : AgB 989 cL_law ⟨⟨ql_13⟩⟩ := agb_of (A := qp_13) (D := qs_14) qe_13 (by decide +kernel)
theorem qa_14 : AgB 1055 cL_law ⟨⟨ql_14⟩⟩ := agb_of (A := qp_14) (D := qs_15) qe_14 (by decide +kernel)
theorem qa_15 : AgB 1119 cL_law ⟨⟨ql_15⟩⟩ := agb_of (A := qp_15) (D := qs_16) qe_15 (by decide +kernel)
theorem qa_16 : AgB 1183 cL_law ⟨⟨ql_16⟩⟩ := agb_of (A := qp_16) (D := qs_17) qe_16 (by decide +kernel)
theorem dL_law_0 : decode cL_law 0 = .ok (.new 8, 3) := dec_sh (p := 0) qa_0 (by decide +kernel) (by decide +kernel)
theorem dL_law_3 : decode cL_law 3 = .ok (.dup, 1) := dec_sh (p := 3) qa_0 (by decide +kernel) (by decide +kernel)
theorem dL_law_4 : decode cL_law 4 = .ok (.invokespecial 88, 3) := dec_sh (p := 4) qa_0 (by decide +kernel) (by decide +kernel)
theorem dL_law_7 : decode cL_law 7 = .ok (.astore_n 1, 1) := dec_sh (p := 7) qa_0 (by decide +kernel) (by decide +kernel)
theorem dL_law_8 : decode cL_law 8 = .ok (.new 89, 3) := dec_sh (p := 8) qa_0 (by decide +kernel) (by decide +kernel)
theorem dL_law_11 : decode cL_law 11 = .ok (.dup, 1) := dec_sh (p := 11) qa_0 (by decide +kernel) (by decide +kernel)
theorem dL_law_12 : decode cL_law 12 = .ok (.invokespecial 91, 3) := dec_sh (p := 12) qa_0 (by decide +kernel) (by decide +kernel)
theorem dL_law_15 : decode cL_law 15 = .ok (.astore_n 2, 1) := dec_sh (p := 15) qa_0 (by decide +kernel) (by decide +kernel)
theorem dL_law_16 : decode cL_law 16 = .ok (.iconst 1, 1) := dec_sh (p := 16) qa_0 (by decide +kernel) (by decide +kernel)
theorem dL_law_17 : decode cL_law 17 = .ok (.newarray .long, 2) := by decide +kernel
theorem dL_law_19 : decode cL_law 19 = .ok (.astore_n 3, 1) := dec_sh (p := 19) qa_0 (by decide +kernel) (by decide +kernel)
theorem dL_law_20 : decode cL_law 20 = .ok (.iconst 0, 1) := dec_sh (p := 20) qa_0 (by decide +kernel) (by decide +kernel)
theorem dL_law_21 : decode cL_law 21 = .ok (.istore 4, 2) := dec_sh (p := 21) qa_0 (by decide +kernel) (by decide +kernel)
theorem dL_law_23 : decode cL_law 23 = .ok (.iload 4, 2) := dec_sh (p := 23) qa_0 (by decide +kernel) (by decide +kernel)
theorem dL_law_25 : decode cL_law 25 = .ok (.aload_n 0, 1) := dec_sh (p := 25) qa_0 (by decide +kernel) (by decide +kernel)
theorem dL_law_26 : decode cL_law 26 = .ok (.arraylength, 1) := dec_sh (p := 26) qa_0 (by decide +kernel) (by decide +kernel)
theorem dL_law_27 : decode cL_law 27 = .ok (.bipush 6, 2) := dec_sh (p := 27) qa_0 (by decide +kernel) (by decide +kernel)
theorem dL_law_29 : decode cL_law 29 = .ok (.isub, 1) := dec_sh (p := 29) qa_0 (by decide +kernel) (by decide +kernel)
theorem dL_law_30 : decode cL_law 30 = .ok (.if_icmp .gt 1214, 3) := dec_sh (p := 30) qa_0 (by decide +kernel) (by decide +kernel)
theorem dL_law_33 : decode cL_law 33 = .ok (.aload_n 0, 1) := dec_sh (p := 33) qa_0 (by decide +kernel) (by decide +kernel)
theorem dL_law_34 : decode cL_law 34 = .ok (.iload 4, 2) := dec_sh (p := 34) qa_0 (by decide +kernel) (by decide +kernel)
theorem dL_law_36 : decode cL_law 36 = .ok (.iaload, 1) := dec_sh (p := 36) qa_0 (by decide +kernel) (by decide +kernel)
theorem dL_law_37 : decode cL_law 37 = .ok (.bipush 63, 2) := dec_sh (p := 37) qa_0 (by decide +kernel) (by decide +kernel)
theorem dL_law_39 : decode cL_law 39 = .ok (.iand, 1) := dec_sh (p := 39) qa_0 (by decide +kernel) (by decide +kernel)
theorem dL_law_40 : decode cL_law 40 = .ok (.tableswitch 1198 0 38 #[172, 245, 258, 271, 284, 312, 340, 380, 420, 448, 476, 504, 532, 560, 573, 586, 601, 614, 627, 667, 695, 735, 775, 788, 816, 829, 842, 855, 883, 896, 936, 964, 992, 1020, 1060, 1073, 1098, 1114, 1142], 172) := by decide +kernel
theorem dL_law_212 : decode cL_law 212 = .ok (.aload_n 1, 1) := dec_sh (p := 0) qa_1 (by decide +kernel) (by decide +kernel)
theorem dL_law_213 : decode cL_law 213 = .ok (.aload_n 0, 1) := dec_sh (p := 1) qa_1 (by decide +kernel) (by decide +kernel)
theorem dL_law_214 : decode cL_law 214 = .ok (.iload 4, 2) := dec_sh (p := 2) qa_1 (by decide +kernel) (by decide +kernel)
theorem dL_law_216 : decode cL_law 216 = .ok (.iconst 1, 1) := dec_sh (p := 4) qa_1 (by decide +kernel) (by decide +kernel)
theorem dL_law_217 : decode cL_law 217 = .ok (.iadd, 1) := dec_sh (p := 5) qa_1 (by decide +kernel) (by decide +kernel)
theorem dL_law_218 : decode cL_law 218 = .ok (.iaload, 1) := dec_sh (p := 6) qa_1 (by decide +kernel) (by decide +kernel)
theorem dL_law_219 : decode cL_law 219 = .ok (.aload_n 0, 1) := dec_sh (p := 7) qa_1 (by decide +kernel) (by decide +kernel)
theorem dL_law_220 : decode cL_law 220 = .ok (.iload 4, 2) := dec_sh (p := 8) qa_1 (by decide +kernel) (by decide +kernel)
theorem dL_law_222 : decode cL_law 222 = .ok (.iconst 2, 1) := dec_sh (p := 10) qa_1 (by decide +kernel) (by decide +kernel)
theorem dL_law_223 : decode cL_law 223 = .ok (.iadd, 1) := dec_sh (p := 11) qa_1 (by decide +kernel) (by decide +kernel)
theorem dL_law_224 : decode cL_law 224 = .ok (.iaload, 1) := dec_sh (p := 12) qa_1 (by decide +kernel) (by decide +kernel)
theorem dL_law_225 : decode cL_law 225 = .ok (.aload_n 0, 1) := dec_sh (p := 13) qa_1 (by decide +kernel) (by decide +kernel)
theorem dL_law_226 : decode cL_law 226 = .ok (.iload 4, 2) := dec_sh (p := 14) qa_1 (by decide +kernel) (by decide +kernel)
theorem dL_law_228 : decode cL_law 228 = .ok (.iconst 3, 1) := dec_sh (p := 16) qa_1 (by decide +kernel) (by decide +kernel)
theorem dL_law_229 : decode cL_law 229 = .ok (.iadd, 1) := dec_sh (p := 17) qa_1 (by decide +kernel) (by decide +kernel)
theorem dL_law_230 : decode cL_law 230 = .ok (.iaload, 1) := dec_sh (p := 18) qa_1 (by decide +kernel) (by decide +kernel)
theorem dL_law_231 : decode cL_law 231 = .ok (.aload_n 0, 1) := dec_sh (p := 19) qa_1 (by decide +kernel) (by decide +kernel)
theorem dL_law_232 : decode cL_law 232 = .ok (.iload 4, 2) := dec_sh (p := 20) qa_1 (by decide +kernel) (by decide +kernel)
theorem dL_law_234 : decode cL_law 234 = .ok (.iconst 4, 1) := dec_sh (p := 22) qa_1 (by decide +kernel) (by decide +kernel)
theorem dL_law_235 : decode cL_law 235 = .ok (.iadd, 1) := dec_sh (p := 23) qa_1 (by decide +kernel) (by decide +kernel)
theorem dL_law_236 : decode cL_law 236 = .ok (.iaload, 1) := dec_sh (p := 24) qa_1 (by decide +kernel) (by decide +kernel)
theorem dL_law_237 : decode cL_law 237 = .ok (.aload_n 0, 1) := dec_sh (p := 25) qa_1 (by decide +kernel) (by decide +kernel)
theorem dL_law_238 : decode cL_law 238 = .ok (.iload 4, 2) := dec_sh (p := 26) qa_1 (by decide +kernel) (by decide +kernel)
theorem dL_law_240 : decode cL_law 240 = .ok (.iconst 5, 1) := dec_sh (p := 28) qa_1 (by decide +kernel) (by decide +kernel)
theorem dL_law_241 : decode cL_law 241 = .ok (.iadd, 1) := dec_sh (p := 29) qa_1 (by decide +kernel) (by decide +kernel)
theorem dL_law_242 : decode cL_law 242 = .ok (.iaload, 1) := dec_sh (p := 30) qa_1 (by decide +kernel) (by decide +kernel)
theorem dL_law_243 : decode cL_law 243 = .ok (.invokevirtual 92, 3) := dec_sh (p := 31) qa_1 (by decide +kernel) (by decide +kernel)
theorem dL_law_246 : decode cL_law 246 = .ok (.pop, 1) := dec_sh (p := 34) qa_1 (by decide +kernel) (by decide +kernel)
theorem dL_law_247 : decode cL_law 247 = .ok (.aload_n 2, 1) := dec_sh (p := 35) qa_1 (by decide +kernel) (by decide +kernel)
theorem dL_law_248 : decode cL_law 248 = .ok (.aload_n 0, 1) := dec_sh (p := 36) qa_1 (by decide +kernel) (by decide +kernel)
theorem dL_law_249 : decode cL_law 249 = .ok (.iload 4, 2) := dec_sh (p := 37) qa_1 (by decide +kernel) (by decide +kernel)
theorem dL_law_251 : decode cL_law 251 = .ok (.iconst 1, 1) := dec_sh (p := 39) qa_1 (by decide +kernel) (by decide +kernel)
theorem dL_law_252 : decode cL_law 252 = .ok (.iadd, 1) := dec_sh (p := 40) qa_1 (by decide +kernel) (by decide +kernel)
theorem dL_law_253 : decode cL_law 253 = .ok (.iaload, 1) := dec_sh (p := 41) qa_1 (by decide +kernel) (by decide +kernel)
theorem dL_law_254 : decode cL_law 254 = .ok (.aload_n 0, 1) := dec_sh (p := 42) qa_1 (by decide +kernel) (by decide +kernel)
theorem dL_law_255 : decode cL_law 255 = .ok (.iload 4, 2) := dec_sh (p := 43) qa_1 (by decide +kernel) (by decide +kernel)
theorem dL_law_257 : decode cL_law 257 = .ok (.iconst 2, 1) := dec_sh (p := 45) qa_1 (by decide +kernel) (by decide +kernel)
theorem dL_law_258 : decode cL_law 258 = .ok (.iadd, 1) := dec_sh (p := 46) qa_1 (by decide +kernel) (by decide +kernel)
theorem dL_law_259 : decode cL_law 259 = .ok (.iaload, 1) := dec_sh (p := 47) qa_1 (by decide +kernel) (by decide +kernel)
theorem dL_law_260 : decode cL_law 260 = .ok (.aload_n 0, 1) := dec_sh (p := 48) qa_1 (by decide +kernel) (by decide +kernel)
theorem dL_law_261 : decode cL_law 261 = .ok (.iload 4, 2) := dec_sh (p := 49) qa_1 (by decide +kernel) (by decide +kernel)
theorem dL_law_263 : decode cL_law 263 = .ok (.iconst 3, 1) := dec_sh (p := 51) qa_1 (by decide +kernel) (by decide +kernel)
theorem dL_law_264 : decode cL_law 264 = .ok (.iadd, 1) := dec_sh (p := 52) qa_1 (by decide +kernel) (by decide +kernel)
theorem dL_law_265 : decode cL_law 265 = .ok (.iaload, 1) := dec_sh (p := 53) qa_1 (by decide +kernel) (by decide +kernel)
theorem dL_law_266 : decode cL_law 266 = .ok (.aload_n 0, 1) := dec_sh (p := 54) qa_1 (by decide +kernel) (by decide +kernel)
theorem dL_law_267 : decode cL_law 267 = .ok (.iload 4, 2) := dec_sh (p := 55) qa_1 (by decide +kernel) (by decide +kernel)
theorem dL_law_269 : decode cL_law 269 = .ok (.iconst 4, 1) := dec_sh (p := 57) qa_1 (by decide +kernel) (by decide +kernel)
theorem dL_law_270 : decode cL_law 270 = .ok (.iadd, 1) := dec_sh (p := 58) qa_1 (by decide +kernel) (by decide +kernel)
theorem dL_law_271 : decode cL_law 271 = .ok (.iaload, 1) := dec_sh (p := 59) qa_1 (by decide +kernel) (by decide +kernel)
theorem dL_law_272 : decode cL_law 272 = .ok (.aload_n 0, 1) := dec_sh (p := 60) qa_1 (by decide +kernel) (by decide +kernel)
theorem dL_law_273 : decode cL_law 273 = .ok (.iload 4, 2) := dec_sh (p := 61) qa_1 (by decide +kernel) (by decide +kernel)
theorem dL_law_275 : decode cL_law 275 = .ok (.iconst 5, 1) := dec_sh (p := 63) qa_1 (by decide +kernel) (by decide +kernel)
theorem dL_law_276 : decode cL_law 276 = .ok (.iadd, 1) := dec_sh (p := 0) qa_2 (by decide +kernel) (by decide +kernel)
theorem dL_law_277 : decode cL_law 277 = .ok (.iaload, 1) := dec_sh (p := 1) qa_2 (by decide +kernel) (by decide +kernel)
theorem dL_law_278 : decode cL_law 278 = .ok (.invokevirtual 96, 3) := dec_sh (p := 2) qa_2 (by decide +kernel) (by decide +kernel)
theorem dL_law_281 : decode cL_law 281 = .ok (.pop, 1) := dec_sh (p := 5) qa_2 (by decide +kernel) (by decide +kernel)
theorem dL_law_282 : decode cL_law 282 = .ok (.goto 956, 3) := dec_sh (p := 6) qa_2 (by decide +kernel) (by decide +kernel)
theorem dL_law_285 : decode cL_law 285 = .ok (.aload_n 1, 1) := dec_sh (p := 9) qa_2 (by decide +kernel) (by decide +kernel)
theorem dL_law_286 : decode cL_law 286 = .ok (.invokevirtual 97, 3) := dec_sh (p := 10) qa_2 (by decide +kernel) (by decide +kernel)
theorem dL_law_289 : decode cL_law 289 = .ok (.pop, 1) := dec_sh (p := 13) qa_2 (by decide +kernel) (by decide +kernel)
theorem dL_law_290 : decode cL_law 290 = .ok (.aload_n 2, 1) := dec_sh (p := 14) qa_2 (by decide +kernel) (by decide +kernel)
theorem dL_law_291 : decode cL_law 291 = .ok (.invokevirtual 100, 3) := dec_sh (p := 15) qa_2 (by decide +kernel) (by decide +kernel)
theorem dL_law_294 : decode cL_law 294 = .ok (.pop, 1) := dec_sh (p := 18) qa_2 (by decide +kernel) (by decide +kernel)
theorem dL_law_295 : decode cL_law 295 = .ok (.goto 943, 3) := dec_sh (p := 19) qa_2 (by decide +kernel) (by decide +kernel)
theorem dL_law_298 : decode cL_law 298 = .ok (.aload_n 1, 1) := dec_sh (p := 22) qa_2 (by decide +kernel) (by decide +kernel)
theorem dL_law_299 : decode cL_law 299 = .ok (.invokevirtual 101, 3) := dec_sh (p := 23) qa_2 (by decide +kernel) (by decide +kernel)
theorem dL_law_302 : decode cL_law 302 = .ok (.pop, 1) := dec_sh (p := 26) qa_2 (by decide +kernel) (by decide +kernel)
theorem dL_law_303 : decode cL_law 303 = .ok (.aload_n 2, 1) := dec_sh (p := 27) qa_2 (by decide +kernel) (by decide +kernel)
theorem dL_law_304 : decode cL_law 304 = .ok (.invokevirtual 104, 3) := dec_sh (p := 28) qa_2 (by decide +kernel) (by decide +kernel)
theorem dL_law_307 : decode cL_law 307 = .ok (.pop, 1) := dec_sh (p := 31) qa_2 (by decide +kernel) (by decide +kernel)
theorem dL_law_308 : decode cL_law 308 = .ok (.goto 930, 3) := dec_sh (p := 32) qa_2 (by decide +kernel) (by decide +kernel)
theorem dL_law_311 : decode cL_law 311 = .ok (.aload_n 1, 1) := dec_sh (p := 35) qa_2 (by decide +kernel) (by decide +kernel)
theorem dL_law_312 : decode cL_law 312 = .ok (.invokevirtual 105, 3) := dec_sh (p := 36) qa_2 (by decide +kernel) (by decide +kernel)
theorem dL_law_315 : decode cL_law 315 = .ok (.pop, 1) := dec_sh (p := 39) qa_2 (by decide +kernel) (by decide +kernel)
theorem dL_law_316 : decode cL_law 316 = .ok (.aload_n 2, 1) := dec_sh (p := 40) qa_2 (by decide +kernel) (by decide +kernel)
theorem dL_law_317 : decode cL_law 317 = .ok (.invokevirtual 108, 3) := dec_sh (p := 41) qa_2 (by decide +kernel) (by decide +kernel)
theorem dL_law_320 : decode cL_law 320 = .ok (.pop, 1) := dec_sh (p := 44) qa_2 (by decide +kernel) (by decide +kernel)
theorem dL_law_321 : decode cL_law 321 = .ok (.goto 917, 3) := dec_sh (p := 45) qa_2 (by decide +kernel) (by decide +kernel)
theorem dL_law_324 : decode cL_law 324 = .ok (.aload_n 1, 1) := dec_sh (p := 48) qa_2 (by decide +kernel) (by decide +kernel)
theorem dL_law_325 : decode cL_law 325 = .ok (.aload_n 0, 1) := dec_sh (p := 49) qa_2 (by decide +kernel) (by decide +kernel)
theorem dL_law_326 : decode cL_law 326 = .ok (.iload 4, 2) := dec_sh (p := 50) qa_2 (by decide +kernel) (by decide +kernel)
theorem dL_law_328 : decode cL_law 328 = .ok (.iconst 1, 1) := dec_sh (p := 52) qa_2 (by decide +kernel) (by decide +kernel)
theorem dL_law_329 : decode cL_law 329 = .ok (.iadd, 1) := dec_sh (p := 53) qa_2 (by decide +kernel) (by decide +kernel)
theorem dL_law_330 : decode cL_law 330 = .ok (.iaload, 1) := dec_sh (p := 54) qa_2 (by decide +kernel) (by decide +kernel)
theorem dL_law_331 : decode cL_law 331 = .ok (.aload_n 3, 1) := dec_sh (p := 55) qa_2 (by decide +kernel) (by decide +kernel)
theorem dL_law_332 : decode cL_law 332 = .ok (.invokestatic 109, 3) := dec_sh (p := 56) qa_2 (by decide +kernel) (by decide +kernel)
theorem dL_law_335 : decode cL_law 335 = .ok (.istore 5, 2) := dec_sh (p := 59) qa_2 (by decide +kernel) (by decide +kernel)
theorem dL_law_337 : decode cL_law 337 = .ok (.aload_n 2, 1) := dec_sh (p := 61) qa_2 (by decide +kernel) (by decide +kernel)
theorem dL_law_338 : decode cL_law 338 = .ok (.aload_n 0, 1) := dec_sh (p := 62) qa_2 (by decide +kernel) (by decide +kernel)
theorem dL_law_339 : decode cL_law 339 = .ok (.iload 4, 2) := dec_sh (p := 63) qa_2 (by decide +kernel) (by decide +kernel)
theorem dL_law_341 : decode cL_law 341 = .ok (.iconst 1, 1) := dec_sh (p := 0) qa_3 (by decide +kernel) (by decide +kernel)
theorem dL_law_342 : decode cL_law 342 = .ok (.iadd, 1) := dec_sh (p := 1) qa_3 (by decide +kernel) (by decide +kernel)
theorem dL_law_343 : decode cL_law 343 = .ok (.iaload, 1) := dec_sh (p := 2) qa_3 (by decide +kernel) (by decide +kernel)
theorem dL_law_344 : decode cL_law 344 = .ok (.invokevirtual 114, 3) := dec_sh (p := 3) qa_3 (by decide +kernel) (by decide +kernel)
theorem dL_law_347 : decode cL_law 347 = .ok (.istore 6, 2) := dec_sh (p := 6) qa_3 (by decide +kernel) (by decide +kernel)
theorem dL_law_349 : decode cL_law 349 = .ok (.goto 889, 3) := dec_sh (p := 8) qa_3 (by decide +kernel) (by decide +kernel)
theorem dL_law_352 : decode cL_law 352 = .ok (.aload_n 1, 1) := dec_sh (p := 11) qa_3 (by decide +kernel) (by decide +kernel)
theorem dL_law_353 : decode cL_law 353 = .ok (.aload_n 0, 1) := dec_sh (p := 12) qa_3 (by decide +kernel) (by decide +kernel)
theorem dL_law_354 : decode cL_law 354 = .ok (.iload 4, 2) := dec_sh (p := 13) qa_3 (by decide +kernel) (by decide +kernel)
theorem dL_law_356 : decode cL_law 356 = .ok (.iconst 1, 1) := dec_sh (p := 15) qa_3 (by decide +kernel) (by decide +kernel)
theorem dL_law_357 : decode cL_law 357 = .ok (.iadd, 1) := dec_sh (p := 16) qa_3 (by decide +kernel) (by decide +kernel)
theorem dL_law_358 : decode cL_law 358 = .ok (.iaload, 1) := dec_sh (p := 17) qa_3 (by decide +kernel) (by decide +kernel)
theorem dL_law_359 : decode cL_law 359 = .ok (.aload_n 3, 1) := dec_sh (p := 18) qa_3 (by decide +kernel) (by decide +kernel)
theorem dL_law_360 : decode cL_law 360 = .ok (.invokestatic 115, 3) := dec_sh (p := 19) qa_3 (by decide +kernel) (by decide +kernel)
theorem dL_law_363 : decode cL_law 363 = .ok (.istore 5, 2) := dec_sh (p := 22) qa_3 (by decide +kernel) (by decide +kernel)
theorem dL_law_365 : decode cL_law 365 = .ok (.aload_n 2, 1) := dec_sh (p := 24) qa_3 (by decide +kernel) (by decide +kernel)
theorem dL_law_366 : decode cL_law 366 = .ok (.aload_n 0, 1) := dec_sh (p := 25) qa_3 (by decide +kernel) (by decide +kernel)
theorem dL_law_367 : decode cL_law 367 = .ok (.iload 4, 2) := dec_sh (p := 26) qa_3 (by decide +kernel) (by decide +kernel)
theorem dL_law_369 : decode cL_law 369 = .ok (.iconst 1, 1) := dec_sh (p := 28) qa_3 (by decide +kernel) (by decide +kernel)
theorem dL_law_370 : decode cL_law 370 = .ok (.iadd, 1) := dec_sh (p := 29) qa_3 (by decide +kernel) (by decide +kernel)
theorem dL_law_371 : decode cL_law 371 = .ok (.iaload, 1) := dec_sh (p := 30) qa_3 (by decide +kernel) (by decide +kernel)
theorem dL_law_372 : decode cL_law 372 = .ok (.invokevirtual 117, 3) := dec_sh (p := 31) qa_3 (by decide +kernel) (by decide +kernel)
theorem dL_law_375 : decode cL_law 375 = .ok (.istore 6, 2) := dec_sh (p := 34) qa_3 (by decide +kernel) (by decide +kernel)
theorem dL_law_377 : decode cL_law 377 = .ok (.goto 861, 3) := dec_sh (p := 36) qa_3 (by decide +kernel) (by decide +kernel)
theorem dL_law_380 : decode cL_law 380 = .ok (.aload_n 1, 1) := dec_sh (p := 39) qa_3 (by decide +kernel) (by decide +kernel)
theorem dL_law_381 : decode cL_law 381 = .ok (.aload_n 0, 1) := dec_sh (p := 40) qa_3 (by decide +kernel) (by decide +kernel)
theorem dL_law_382 : decode cL_law 382 = .ok (.iload 4, 2) := dec_sh (p := 41) qa_3 (by decide +kernel) (by decide +kernel)
theorem dL_law_384 : decode cL_law 384 = .ok (.iconst 1, 1) := dec_sh (p := 43) qa_3 (by decide +kernel) (by decide +kernel)
theorem dL_law_385 : decode cL_law 385 = .ok (.iadd, 1) := dec_sh (p := 44) qa_3 (by decide +kernel) (by decide +kernel)
theorem dL_law_386 : decode cL_law 386 = .ok (.iaload, 1) := dec_sh (p := 45) qa_3 (by decide +kernel) (by decide +kernel)
theorem dL_law_387 : decode cL_law 387 = .ok (.aload_n 0, 1) := dec_sh (p := 46) qa_3 (by decide +kernel) (by decide +kernel)
theorem dL_law_388 : decode cL_law 388 = .ok (.iload 4, 2) := dec_sh (p := 47) qa_3 (by decide +kernel) (by decide +kernel)
theorem dL_law_390 : decode cL_law 390 = .ok (.iconst 2, 1) := dec_sh (p := 49) qa_3 (by decide +kernel) (by decide +kernel)
theorem dL_law_391 : decode cL_law 391 = .ok (.iadd, 1) := dec_sh (p := 50) qa_3 (by decide +kernel) (by decide +kernel)
theorem dL_law_392 : decode cL_law 392 = .ok (.iaload, 1) := dec_sh (p := 51) qa_3 (by decide +kernel) (by decide +kernel)
theorem dL_law_393 : decode cL_law 393 = .ok (.aload_n 3, 1) := dec_sh (p := 52) qa_3 (by decide +kernel) (by decide +kernel)
theorem dL_law_394 : decode cL_law 394 = .ok (.invokestatic 118, 3) := dec_sh (p := 53) qa_3 (by decide +kernel) (by decide +kernel)
theorem dL_law_397 : decode cL_law 397 = .ok (.istore 5, 2) := dec_sh (p := 56) qa_3 (by decide +kernel) (by decide +kernel)
theorem dL_law_399 : decode cL_law 399 = .ok (.aload_n 2, 1) := dec_sh (p := 58) qa_3 (by decide +kernel) (by decide +kernel)
theorem dL_law_400 : decode cL_law 400 = .ok (.aload_n 0, 1) := dec_sh (p := 59) qa_3 (by decide +kernel) (by decide +kernel)
theorem dL_law_401 : decode cL_law 401 = .ok (.iload 4, 2) := dec_sh (p := 60) qa_3 (by decide +kernel) (by decide +kernel)
theorem dL_law_403 : decode cL_law 403 = .ok (.iconst 1, 1) := dec_sh (p := 62) qa_3 (by decide +kernel) (by decide +kernel)
theorem dL_law_404 : decode cL_law 404 = .ok (.iadd, 1) := dec_sh (p := 63) qa_3 (by decide +kernel) (by decide +kernel)
theorem dL_law_405 : decode cL_law 405 = .ok (.iaload, 1) := dec_sh (p := 0) qa_4 (by decide +kernel) (by decide +kernel)
theorem dL_law_406 : decode cL_law 406 = .ok (.aload_n 0, 1) := dec_sh (p := 1) qa_4 (by decide +kernel) (by decide +kernel)
theorem dL_law_407 : decode cL_law 407 = .ok (.iload 4, 2) := dec_sh (p := 2) qa_4 (by decide +kernel) (by decide +kernel)
theorem dL_law_409 : decode cL_law 409 = .ok (.iconst 2, 1) := dec_sh (p := 4) qa_4 (by decide +kernel) (by decide +kernel)
theorem dL_law_410 : decode cL_law 410 = .ok (.iadd, 1) := dec_sh (p := 5) qa_4 (by decide +kernel) (by decide +kernel)
theorem dL_law_411 : decode cL_law 411 = .ok (.iaload, 1) := dec_sh (p := 6) qa_4 (by decide +kernel) (by decide +kernel)
theorem dL_law_412 : decode cL_law 412 = .ok (.invokevirtual 121, 3) := dec_sh (p := 7) qa_4 (by decide +kernel) (by decide +kernel)
theorem dL_law_415 : decode cL_law 415 = .ok (.istore 6, 2) := dec_sh (p := 10) qa_4 (by decide +kernel) (by decide +kernel)
theorem dL_law_417 : decode cL_law 417 = .ok (.goto 821, 3) := dec_sh (p := 12) qa_4 (by decide +kernel) (by decide +kernel)
theorem dL_law_420 : decode cL_law 420 = .ok (.aload_n 1, 1) := dec_sh (p := 15) qa_4 (by decide +kernel) (by decide +kernel)
theorem dL_law_421 : decode cL_law 421 = .ok (.aload_n 0, 1) := dec_sh (p := 16) qa_4 (by decide +kernel) (by decide +kernel)
theorem dL_law_422 : decode cL_law 422 = .ok (.iload 4, 2) := dec_sh (p := 17) qa_4 (by decide +kernel) (by decide +kernel)
theorem dL_law_424 : decode cL_law 424 = .ok (.iconst 1, 1) := dec_sh (p := 19) qa_4 (by decide +kernel) (by decide +kernel)
theorem dL_law_425 : decode cL_law 425 = .ok (.iadd, 1) := dec_sh (p := 20) qa_4 (by decide +kernel) (by decide +kernel)
theorem dL_law_426 : decode cL_law 426 = .ok (.iaload, 1) := dec_sh (p := 21) qa_4 (by decide +kernel) (by decide +kernel)
theorem dL_law_427 : decode cL_law 427 = .ok (.aload_n 0, 1) := dec_sh (p := 22) qa_4 (by decide +kernel) (by decide +kernel)
theorem dL_law_428 : decode cL_law 428 = .ok (.iload 4, 2) := dec_sh (p := 23) qa_4 (by decide +kernel) (by decide +kernel)
theorem dL_law_430 : decode cL_law 430 = .ok (.iconst 2, 1) := dec_sh (p := 25) qa_4 (by decide +kernel) (by decide +kernel)
theorem dL_law_431 : decode cL_law 431 = .ok (.iadd, 1) := dec_sh (p := 26) qa_4 (by decide +kernel) (by decide +kernel)
theorem dL_law_432 : decode cL_law 432 = .ok (.iaload, 1) := dec_sh (p := 27) qa_4 (by decide +kernel) (by decide +kernel)
theorem dL_law_433 : decode cL_law 433 = .ok (.aload_n 3, 1) := dec_sh (p := 28) qa_4 (by decide +kernel) (by decide +kernel)
theorem dL_law_434 : decode cL_law 434 = .ok (.invokestatic 122, 3) := dec_sh (p := 29) qa_4 (by decide +kernel) (by decide +kernel)
theorem dL_law_437 : decode cL_law 437 = .ok (.istore 5, 2) := dec_sh (p := 32) qa_4 (by decide +kernel) (by decide +kernel)
theorem dL_law_439 : decode cL_law 439 = .ok (.aload_n 2, 1) := dec_sh (p := 34) qa_4 (by decide +kernel) (by decide +kernel)
theorem dL_law_440 : decode cL_law 440 = .ok (.aload_n 0, 1) := dec_sh (p := 35) qa_4 (by decide +kernel) (by decide +kernel)
theorem dL_law_441 : decode cL_law 441 = .ok (.iload 4, 2) := dec_sh (p := 36) qa_4 (by decide +kernel) (by decide +kernel)
theorem dL_law_443 : decode cL_law 443 = .ok (.iconst 1, 1) := dec_sh (p := 38) qa_4 (by decide +kernel) (by decide +kernel)
theorem dL_law_444 : decode cL_law 444 = .ok (.iadd, 1) := dec_sh (p := 39) qa_4 (by decide +kernel) (by decide +kernel)
theorem dL_law_445 : decode cL_law 445 = .ok (.iaload, 1) := dec_sh (p := 40) qa_4 (by decide +kernel) (by decide +kernel)
theorem dL_law_446 : decode cL_law 446 = .ok (.aload_n 0, 1) := dec_sh (p := 41) qa_4 (by decide +kernel) (by decide +kernel)
theorem dL_law_447 : decode cL_law 447 = .ok (.iload 4, 2) := dec_sh (p := 42) qa_4 (by decide +kernel) (by decide +kernel)
theorem dL_law_449 : decode cL_law 449 = .ok (.iconst 2, 1) := dec_sh (p := 44) qa_4 (by decide +kernel) (by decide +kernel)
theorem dL_law_450 : decode cL_law 450 = .ok (.iadd, 1) := dec_sh (p := 45) qa_4 (by decide +kernel) (by decide +kernel)
theorem dL_law_451 : decode cL_law 451 = .ok (.iaload, 1) := dec_sh (p := 46) qa_4 (by decide +kernel) (by decide +kernel)
theorem dL_law_452 : decode cL_law 452 = .ok (.invokevirtual 124, 3) := dec_sh (p := 47) qa_4 (by decide +kernel) (by decide +kernel)
theorem dL_law_455 : decode cL_law 455 = .ok (.istore 6, 2) := dec_sh (p := 50) qa_4 (by decide +kernel) (by decide +kernel)
theorem dL_law_457 : decode cL_law 457 = .ok (.goto 781, 3) := dec_sh (p := 52) qa_4 (by decide +kernel) (by decide +kernel)
theorem dL_law_460 : decode cL_law 460 = .ok (.aload_n 1, 1) := dec_sh (p := 55) qa_4 (by decide +kernel) (by decide +kernel)
theorem dL_law_461 : decode cL_law 461 = .ok (.aload_n 0, 1) := dec_sh (p := 56) qa_4 (by decide +kernel) (by decide +kernel)
theorem dL_law_462 : decode cL_law 462 = .ok (.iload 4, 2) := dec_sh (p := 57) qa_4 (by decide +kernel) (by decide +kernel)
theorem dL_law_464 : decode cL_law 464 = .ok (.iconst 1, 1) := dec_sh (p := 59) qa_4 (by decide +kernel) (by decide +kernel)
theorem dL_law_465 : decode cL_law 465 = .ok (.iadd, 1) := dec_sh (p := 60) qa_4 (by decide +kernel) (by decide +kernel)
theorem dL_law_466 : decode cL_law 466 = .ok (.iaload, 1) := dec_sh (p := 61) qa_4 (by decide +kernel) (by decide +kernel)
theorem dL_law_467 : decode cL_law 467 = .ok (.aload_n 3, 1) := dec_sh (p := 62) qa_4 (by decide +kernel) (by decide +kernel)
theorem dL_law_468 : decode cL_law 468 = .ok (.invokestatic 125, 3) := dec_sh (p := 63) qa_4 (by decide +kernel) (by decide +kernel)
theorem dL_law_471 : decode cL_law 471 = .ok (.istore 5, 2) := dec_sh (p := 0) qa_5 (by decide +kernel) (by decide +kernel)
theorem dL_law_473 : decode cL_law 473 = .ok (.aload_n 2, 1) := dec_sh (p := 2) qa_5 (by decide +kernel) (by decide +kernel)
theorem dL_law_474 : decode cL_law 474 = .ok (.aload_n 0, 1) := dec_sh (p := 3) qa_5 (by decide +kernel) (by decide +kernel)
theorem dL_law_475 : decode cL_law 475 = .ok (.iload 4, 2) := dec_sh (p := 4) qa_5 (by decide +kernel) (by decide +kernel)
theorem dL_law_477 : decode cL_law 477 = .ok (.iconst 1, 1) := dec_sh (p := 6) qa_5 (by decide +kernel) (by decide +kernel)
theorem dL_law_478 : decode cL_law 478 = .ok (.iadd, 1) := dec_sh (p := 7) qa_5 (by decide +kernel) (by decide +kernel)
theorem dL_law_479 : decode cL_law 479 = .ok (.iaload, 1) := dec_sh (p := 8) qa_5 (by decide +kernel) (by decide +kernel)
theorem dL_law_480 : decode cL_law 480 = .ok (.invokevirtual 127, 3) := dec_sh (p := 9) qa_5 (by decide +kernel) (by decide +kernel)
theorem dL_law_483 : decode cL_law 483 = .ok (.istore 6, 2) := dec_sh (p := 12) qa_5 (by decide +kernel) (by decide +kernel)
theorem dL_law_485 : decode cL_law 485 = .ok (.goto 753, 3) := dec_sh (p := 14) qa_5 (by decide +kernel) (by decide +kernel)
theorem dL_law_488 : decode cL_law 488 = .ok (.aload_n 1, 1) := dec_sh (p := 17) qa_5 (by decide +kernel) (by decide +kernel)
theorem dL_law_489 : decode cL_law 489 = .ok (.aload_n 0, 1) := dec_sh (p := 18) qa_5 (by decide +kernel) (by decide +kernel)
theorem dL_law_490 : decode cL_law 490 = .ok (.iload 4, 2) := dec_sh (p := 19) qa_5 (by decide +kernel) (by decide +kernel)
theorem dL_law_492 : decode cL_law 492 = .ok (.iconst 1, 1) := dec_sh (p := 21) qa_5 (by decide +kernel) (by decide +kernel)
theorem dL_law_493 : decode cL_law 493 = .ok (.iadd, 1) := dec_sh (p := 22) qa_5 (by decide +kernel) (by decide +kernel)
theorem dL_law_494 : decode cL_law 494 = .ok (.iaload, 1) := dec_sh (p := 23) qa_5 (by decide +kernel) (by decide +kernel)
theorem dL_law_495 : decode cL_law 495 = .ok (.aload_n 3, 1) := dec_sh (p := 24) qa_5 (by decide +kernel) (by decide +kernel)
theorem dL_law_496 : decode cL_law 496 = .ok (.invokestatic 128, 3) := dec_sh (p := 25) qa_5 (by decide +kernel) (by decide +kernel)
theorem dL_law_499 : decode cL_law 499 = .ok (.istore 5, 2) := dec_sh (p := 28) qa_5 (by decide +kernel) (by decide +kernel)
theorem dL_law_501 : decode cL_law 501 = .ok (.aload_n 2, 1) := dec_sh (p := 30) qa_5 (by decide +kernel) (by decide +kernel)
theorem dL_law_502 : decode cL_law 502 = .ok (.aload_n 0, 1) := dec_sh (p := 31) qa_5 (by decide +kernel) (by decide +kernel)
theorem dL_law_503 : decode cL_law 503 = .ok (.iload 4, 2) := dec_sh (p := 32) qa_5 (by decide +kernel) (by decide +kernel)
theorem dL_law_505 : decode cL_law 505 = .ok (.iconst 1, 1) := dec_sh (p := 34) qa_5 (by decide +kernel) (by decide +kernel)
theorem dL_law_506 : decode cL_law 506 = .ok (.iadd, 1) := dec_sh (p := 35) qa_5 (by decide +kernel) (by decide +kernel)
theorem dL_law_507 : decode cL_law 507 = .ok (.iaload, 1) := dec_sh (p := 36) qa_5 (by decide +kernel) (by decide +kernel)
theorem dL_law_508 : decode cL_law 508 = .ok (.invokevirtual 130, 3) := dec_sh (p := 37) qa_5 (by decide +kernel) (by decide +kernel)
theorem dL_law_511 : decode cL_law 511 = .ok (.istore 6, 2) := dec_sh (p := 40) qa_5 (by decide +kernel) (by decide +kernel)
theorem dL_law_513 : decode cL_law 513 = .ok (.goto 725, 3) := dec_sh (p := 42) qa_5 (by decide +kernel) (by decide +kernel)
theorem dL_law_516 : decode cL_law 516 = .ok (.aload_n 1, 1) := dec_sh (p := 45) qa_5 (by decide +kernel) (by decide +kernel)
theorem dL_law_517 : decode cL_law 517 = .ok (.aload_n 0, 1) := dec_sh (p := 46) qa_5 (by decide +kernel) (by decide +kernel)
theorem dL_law_518 : decode cL_law 518 = .ok (.iload 4, 2) := dec_sh (p := 47) qa_5 (by decide +kernel) (by decide +kernel)
theorem dL_law_520 : decode cL_law 520 = .ok (.iconst 1, 1) := dec_sh (p := 49) qa_5 (by decide +kernel) (by decide +kernel)
theorem dL_law_521 : decode cL_law 521 = .ok (.iadd, 1) := dec_sh (p := 50) qa_5 (by decide +kernel) (by decide +kernel)
theorem dL_law_522 : decode cL_law 522 = .ok (.iaload, 1) := dec_sh (p := 51) qa_5 (by decide +kernel) (by decide +kernel)
theorem dL_law_523 : decode cL_law 523 = .ok (.aload_n 3, 1) := dec_sh (p := 52) qa_5 (by decide +kernel) (by decide +kernel)
theorem dL_law_524 : decode cL_law 524 = .ok (.invokestatic 131, 3) := dec_sh (p := 53) qa_5 (by decide +kernel) (by decide +kernel)
theorem dL_law_527 : decode cL_law 527 = .ok (.istore 5, 2) := dec_sh (p := 56) qa_5 (by decide +kernel) (by decide +kernel)
theorem dL_law_529 : decode cL_law 529 = .ok (.aload_n 2, 1) := dec_sh (p := 58) qa_5 (by decide +kernel) (by decide +kernel)
theorem dL_law_530 : decode cL_law 530 = .ok (.aload_n 0, 1) := dec_sh (p := 59) qa_5 (by decide +kernel) (by decide +kernel)
theorem dL_law_531 : decode cL_law 531 = .ok (.iload 4, 2) := dec_sh (p := 60) qa_5 (by decide +kernel) (by decide +kernel)
theorem dL_law_533 : decode cL_law 533 = .ok (.iconst 1, 1) := dec_sh (p := 62) qa_5 (by decide +kernel) (by decide +kernel)
theorem dL_law_534 : decode cL_law 534 = .ok (.iadd, 1) := dec_sh (p := 63) qa_5 (by decide +kernel) (by decide +kernel)
theorem dL_law_535 : decode cL_law 535 = .ok (.iaload, 1) := dec_sh (p := 0) qa_6 (by decide +kernel) (by decide +kernel)
theorem dL_law_536 : decode cL_law 536 = .ok (.invokevirtual 133, 3) := dec_sh (p := 1) qa_6 (by decide +kernel) (by decide +kernel)
theorem dL_law_539 : decode cL_law 539 = .ok (.istore 6, 2) := dec_sh (p := 4) qa_6 (by decide +kernel) (by decide +kernel)
theorem dL_law_541 : decode cL_law 541 = .ok (.goto 697, 3) := dec_sh (p := 6) qa_6 (by decide +kernel) (by decide +kernel)
theorem dL_law_544 : decode cL_law 544 = .ok (.aload_n 1, 1) := dec_sh (p := 9) qa_6 (by decide +kernel) (by decide +kernel)
theorem dL_law_545 : decode cL_law 545 = .ok (.aload_n 0, 1) := dec_sh (p := 10) qa_6 (by decide +kernel) (by decide +kernel)
theorem dL_law_546 : decode cL_law 546 = .ok (.iload 4, 2) := dec_sh (p := 11) qa_6 (by decide +kernel) (by decide +kernel)
theorem dL_law_548 : decode cL_law 548 = .ok (.iconst 1, 1) := dec_sh (p := 13) qa_6 (by decide +kernel) (by decide +kernel)
theorem dL_law_549 : decode cL_law 549 = .ok (.iadd, 1) := dec_sh (p := 14) qa_6 (by decide +kernel) (by decide +kernel)
theorem dL_law_550 : decode cL_law 550 = .ok (.iaload, 1) := dec_sh (p := 15) qa_6 (by decide +kernel) (by decide +kernel)
theorem dL_law_551 : decode cL_law 551 = .ok (.aload_n 3, 1) := dec_sh (p := 16) qa_6 (by decide +kernel) (by decide +kernel)
theorem dL_law_552 : decode cL_law 552 = .ok (.invokestatic 134, 3) := dec_sh (p := 17) qa_6 (by decide +kernel) (by decide +kernel)
theorem dL_law_555 : decode cL_law 555 = .ok (.istore 5, 2) := dec_sh (p := 20) qa_6 (by decide +kernel) (by decide +kernel)
theorem dL_law_557 : decode cL_law 557 = .ok (.aload_n 2, 1) := dec_sh (p := 22) qa_6 (by decide +kernel) (by decide +kernel)
theorem dL_law_558 : decode cL_law 558 = .ok (.aload_n 0, 1) := dec_sh (p := 23) qa_6 (by decide +kernel) (by decide +kernel)
theorem dL_law_559 : decode cL_law 559 = .ok (.iload 4, 2) := dec_sh (p := 24) qa_6 (by decide +kernel) (by decide +kernel)
theorem dL_law_561 : decode cL_law 561 = .ok (.iconst 1, 1) := dec_sh (p := 26) qa_6 (by decide +kernel) (by decide +kernel)
theorem dL_law_562 : decode cL_law 562 = .ok (.iadd, 1) := dec_sh (p := 27) qa_6 (by decide +kernel) (by decide +kernel)
theorem dL_law_563 : decode cL_law 563 = .ok (.iaload, 1) := dec_sh (p := 28) qa_6 (by decide +kernel) (by decide +kernel)
theorem dL_law_564 : decode cL_law 564 = .ok (.invokevirtual 136, 3) := dec_sh (p := 29) qa_6 (by decide +kernel) (by decide +kernel)
theorem dL_law_567 : decode cL_law 567 = .ok (.istore 6, 2) := dec_sh (p := 32) qa_6 (by decide +kernel) (by decide +kernel)
theorem dL_law_569 : decode cL_law 569 = .ok (.goto 669, 3) := dec_sh (p := 34) qa_6 (by decide +kernel) (by decide +kernel)
theorem dL_law_572 : decode cL_law 572 = .ok (.aload_n 1, 1) := dec_sh (p := 37) qa_6 (by decide +kernel) (by decide +kernel)
theorem dL_law_573 : decode cL_law 573 = .ok (.aload_n 0, 1) := dec_sh (p := 38) qa_6 (by decide +kernel) (by decide +kernel)
theorem dL_law_574 : decode cL_law 574 = .ok (.iload 4, 2) := dec_sh (p := 39) qa_6 (by decide +kernel) (by decide +kernel)
theorem dL_law_576 : decode cL_law 576 = .ok (.iconst 1, 1) := dec_sh (p := 41) qa_6 (by decide +kernel) (by decide +kernel)
theorem dL_law_577 : decode cL_law 577 = .ok (.iadd, 1) := dec_sh (p := 42) qa_6 (by decide +kernel) (by decide +kernel)
theorem dL_law_578 : decode cL_law 578 = .ok (.iaload, 1) := dec_sh (p := 43) qa_6 (by decide +kernel) (by decide +kernel)
theorem dL_law_579 : decode cL_law 579 = .ok (.aload_n 3, 1) := dec_sh (p := 44) qa_6 (by decide +kernel) (by decide +kernel)
theorem dL_law_580 : decode cL_law 580 = .ok (.invokestatic 137, 3) := dec_sh (p := 45) qa_6 (by decide +kernel) (by decide +kernel)
theorem dL_law_583 : decode cL_law 583 = .ok (.istore 5, 2) := dec_sh (p := 48) qa_6 (by decide +kernel) (by decide +kernel)
theorem dL_law_585 : decode cL_law 585 = .ok (.aload_n 2, 1) := dec_sh (p := 50) qa_6 (by decide +kernel) (by decide +kernel)
theorem dL_law_586 : decode cL_law 586 = .ok (.aload_n 0, 1) := dec_sh (p := 51) qa_6 (by decide +kernel) (by decide +kernel)
theorem dL_law_587 : decode cL_law 587 = .ok (.iload 4, 2) := dec_sh (p := 52) qa_6 (by decide +kernel) (by decide +kernel)
theorem dL_law_589 : decode cL_law 589 = .ok (.iconst 1, 1) := dec_sh (p := 54) qa_6 (by decide +kernel) (by decide +kernel)
theorem dL_law_590 : decode cL_law 590 = .ok (.iadd, 1) := dec_sh (p := 55) qa_6 (by decide +kernel) (by decide +kernel)
theorem dL_law_591 : decode cL_law 591 = .ok (.iaload, 1) := dec_sh (p := 56) qa_6 (by decide +kernel) (by decide +kernel)
theorem dL_law_592 : decode cL_law 592 = .ok (.invokevirtual 139, 3) := dec_sh (p := 57) qa_6 (by decide +kernel) (by decide +kernel)
theorem dL_law_595 : decode cL_law 595 = .ok (.istore 6, 2) := dec_sh (p := 60) qa_6 (by decide +kernel) (by decide +kernel)
theorem dL_law_597 : decode cL_law 597 = .ok (.goto 641, 3) := dec_sh (p := 62) qa_6 (by decide +kernel) (by decide +kernel)
theorem dL_law_600 : decode cL_law 600 = .ok (.aload_n 1, 1) := dec_sh (p := 0) qa_7 (by decide +kernel) (by decide +kernel)
theorem dL_law_601 : decode cL_law 601 = .ok (.invokevirtual 140, 3) := dec_sh (p := 1) qa_7 (by decide +kernel) (by decide +kernel)
theorem dL_law_604 : decode cL_law 604 = .ok (.pop, 1) := dec_sh (p := 4) qa_7 (by decide +kernel) (by decide +kernel)
theorem dL_law_605 : decode cL_law 605 = .ok (.aload_n 2, 1) := dec_sh (p := 5) qa_7 (by decide +kernel) (by decide +kernel)
theorem dL_law_606 : decode cL_law 606 = .ok (.invokevirtual 143, 3) := dec_sh (p := 6) qa_7 (by decide +kernel) (by decide +kernel)
theorem dL_law_609 : decode cL_law 609 = .ok (.pop, 1) := dec_sh (p := 9) qa_7 (by decide +kernel) (by decide +kernel)
theorem dL_law_610 : decode cL_law 610 = .ok (.goto 628, 3) := dec_sh (p := 10) qa_7 (by decide +kernel) (by decide +kernel)
theorem dL_law_613 : decode cL_law 613 = .ok (.aload_n 1, 1) := dec_sh (p := 13) qa_7 (by decide +kernel) (by decide +kernel)
theorem dL_law_614 : decode cL_law 614 = .ok (.invokevirtual 144, 3) := dec_sh (p := 14) qa_7 (by decide +kernel) (by decide +kernel)
theorem dL_law_617 : decode cL_law 617 = .ok (.pop, 1) := dec_sh (p := 17) qa_7 (by decide +kernel) (by decide +kernel)
theorem dL_law_618 : decode cL_law 618 = .ok (.aload_n 2, 1) := dec_sh (p := 18) qa_7 (by decide +kernel) (by decide +kernel)
theorem dL_law_619 : decode cL_law 619 = .ok (.invokevirtual 147, 3) := dec_sh (p := 19) qa_7 (by decide +kernel) (by decide +kernel)
theorem dL_law_622 : decode cL_law 622 = .ok (.pop, 1) := dec_sh (p := 22) qa_7 (by decide +kernel) (by decide +kernel)
theorem dL_law_623 : decode cL_law 623 = .ok (.goto 615, 3) := dec_sh (p := 23) qa_7 (by decide +kernel) (by decide +kernel)
theorem dL_law_626 : decode cL_law 626 = .ok (.aload_n 1, 1) := dec_sh (p := 26) qa_7 (by decide +kernel) (by decide +kernel)
theorem dL_law_627 : decode cL_law 627 = .ok (.invokevirtual 148, 3) := dec_sh (p := 27) qa_7 (by decide +kernel) (by decide +kernel)
theorem dL_law_630 : decode cL_law 630 = .ok (.dstore 5, 2) := dec_sh (p := 30) qa_7 (by decide +kernel) (by decide +kernel)
theorem dL_law_632 : decode cL_law 632 = .ok (.aload_n 2, 1) := dec_sh (p := 32) qa_7 (by decide +kernel) (by decide +kernel)
theorem dL_law_633 : decode cL_law 633 = .ok (.invokevirtual 152, 3) := dec_sh (p := 33) qa_7 (by decide +kernel) (by decide +kernel)
theorem dL_law_636 : decode cL_law 636 = .ok (.dstore 7, 2) := dec_sh (p := 36) qa_7 (by decide +kernel) (by decide +kernel)
theorem dL_law_638 : decode cL_law 638 = .ok (.goto 600, 3) := dec_sh (p := 38) qa_7 (by decide +kernel) (by decide +kernel)
theorem dL_law_641 : decode cL_law 641 = .ok (.aload_n 1, 1) := dec_sh (p := 41) qa_7 (by decide +kernel) (by decide +kernel)
theorem dL_law_642 : decode cL_law 642 = .ok (.invokevirtual 153, 3) := dec_sh (p := 42) qa_7 (by decide +kernel) (by decide +kernel)
theorem dL_law_645 : decode cL_law 645 = .ok (.pop, 1) := dec_sh (p := 45) qa_7 (by decide +kernel) (by decide +kernel)
theorem dL_law_646 : decode cL_law 646 = .ok (.aload_n 2, 1) := dec_sh (p := 46) qa_7 (by decide +kernel) (by decide +kernel)
theorem dL_law_647 : decode cL_law 647 = .ok (.invokevirtual 156, 3) := dec_sh (p := 47) qa_7 (by decide +kernel) (by decide +kernel)
theorem dL_law_650 : decode cL_law 650 = .ok (.pop, 1) := dec_sh (p := 50) qa_7 (by decide +kernel) (by decide +kernel)
theorem dL_law_651 : decode cL_law 651 = .ok (.goto 587, 3) := dec_sh (p := 51) qa_7 (by decide +kernel) (by decide +kernel)
theorem dL_law_654 : decode cL_law 654 = .ok (.aload_n 1, 1) := dec_sh (p := 54) qa_7 (by decide +kernel) (by decide +kernel)
theorem dL_law_655 : decode cL_law 655 = .ok (.invokevirtual 157, 3) := dec_sh (p := 55) qa_7 (by decide +kernel) (by decide +kernel)
theorem dL_law_658 : decode cL_law 658 = .ok (.pop2, 1) := dec_sh (p := 58) qa_7 (by decide +kernel) (by decide +kernel)
theorem dL_law_659 : decode cL_law 659 = .ok (.aload_n 2, 1) := dec_sh (p := 59) qa_7 (by decide +kernel) (by decide +kernel)
theorem dL_law_660 : decode cL_law 660 = .ok (.invokevirtual 161, 3) := dec_sh (p := 60) qa_7 (by decide +kernel) (by decide +kernel)
theorem dL_law_663 : decode cL_law 663 = .ok (.pop2, 1) := dec_sh (p := 63) qa_7 (by decide +kernel) (by decide +kernel)
theorem dL_law_664 : decode cL_law 664 = .ok (.goto 574, 3) := dec_sh (p := 0) qa_8 (by decide +kernel) (by decide +kernel)
theorem dL_law_667 : decode cL_law 667 = .ok (.aload_n 1, 1) := dec_sh (p := 3) qa_8 (by decide +kernel) (by decide +kernel)
theorem dL_law_668 : decode cL_law 668 = .ok (.aload_n 0, 1) := dec_sh (p := 4) qa_8 (by decide +kernel) (by decide +kernel)
theorem dL_law_669 : decode cL_law 669 = .ok (.iload 4, 2) := dec_sh (p := 5) qa_8 (by decide +kernel) (by decide +kernel)
theorem dL_law_671 : decode cL_law 671 = .ok (.iconst 1, 1) := dec_sh (p := 7) qa_8 (by decide +kernel) (by decide +kernel)
theorem dL_law_672 : decode cL_law 672 = .ok (.iadd, 1) := dec_sh (p := 8) qa_8 (by decide +kernel) (by decide +kernel)
theorem dL_law_673 : decode cL_law 673 = .ok (.iaload, 1) := dec_sh (p := 9) qa_8 (by decide +kernel) (by decide +kernel)
theorem dL_law_674 : decode cL_law 674 = .ok (.aload_n 0, 1) := dec_sh (p := 10) qa_8 (by decide +kernel) (by decide +kernel)
theorem dL_law_675 : decode cL_law 675 = .ok (.iload 4, 2) := dec_sh (p := 11) qa_8 (by decide +kernel) (by decide +kernel)
theorem dL_law_677 : decode cL_law 677 = .ok (.iconst 2, 1) := dec_sh (p := 13) qa_8 (by decide +kernel) (by decide +kernel)
theorem dL_law_678 : decode cL_law 678 = .ok (.iadd, 1) := dec_sh (p := 14) qa_8 (by decide +kernel) (by decide +kernel)
theorem dL_law_679 : decode cL_law 679 = .ok (.iaload, 1) := dec_sh (p := 15) qa_8 (by decide +kernel) (by decide +kernel)
theorem dL_law_680 : decode cL_law 680 = .ok (.aload_n 3, 1) := dec_sh (p := 16) qa_8 (by decide +kernel) (by decide +kernel)
theorem dL_law_681 : decode cL_law 681 = .ok (.invokestatic 162, 3) := dec_sh (p := 17) qa_8 (by decide +kernel) (by decide +kernel)
theorem dL_law_684 : decode cL_law 684 = .ok (.istore 5, 2) := dec_sh (p := 20) qa_8 (by decide +kernel) (by decide +kernel)
theorem dL_law_686 : decode cL_law 686 = .ok (.aload_n 2, 1) := dec_sh (p := 22) qa_8 (by decide +kernel) (by decide +kernel)
theorem dL_law_687 : decode cL_law 687 = .ok (.aload_n 0, 1) := dec_sh (p := 23) qa_8 (by decide +kernel) (by decide +kernel)
theorem dL_law_688 : decode cL_law 688 = .ok (.iload 4, 2) := dec_sh (p := 24) qa_8 (by decide +kernel) (by decide +kernel)
theorem dL_law_690 : decode cL_law 690 = .ok (.iconst 1, 1) := dec_sh (p := 26) qa_8 (by decide +kernel) (by decide +kernel)
theorem dL_law_691 : decode cL_law 691 = .ok (.iadd, 1) := dec_sh (p := 27) qa_8 (by decide +kernel) (by decide +kernel)
theorem dL_law_692 : decode cL_law 692 = .ok (.iaload, 1) := dec_sh (p := 28) qa_8 (by decide +kernel) (by decide +kernel)
theorem dL_law_693 : decode cL_law 693 = .ok (.aload_n 0, 1) := dec_sh (p := 29) qa_8 (by decide +kernel) (by decide +kernel)
theorem dL_law_694 : decode cL_law 694 = .ok (.iload 4, 2) := dec_sh (p := 30) qa_8 (by decide +kernel) (by decide +kernel)
theorem dL_law_696 : decode cL_law 696 = .ok (.iconst 2, 1) := dec_sh (p := 32) qa_8 (by decide +kernel) (by decide +kernel)
theorem dL_law_697 : decode cL_law 697 = .ok (.iadd, 1) := dec_sh (p := 33) qa_8 (by decide +kernel) (by decide +kernel)
theorem dL_law_698 : decode cL_law 698 = .ok (.iaload, 1) := dec_sh (p := 34) qa_8 (by decide +kernel) (by decide +kernel)
theorem dL_law_699 : decode cL_law 699 = .ok (.invokevirtual 164, 3) := dec_sh (p := 35) qa_8 (by decide +kernel) (by decide +kernel)
theorem dL_law_702 : decode cL_law 702 = .ok (.istore 6, 2) := dec_sh (p := 38) qa_8 (by decide +kernel) (by decide +kernel)
theorem dL_law_704 : decode cL_law 704 = .ok (.goto 534, 3) := dec_sh (p := 40) qa_8 (by decide +kernel) (by decide +kernel)
theorem dL_law_707 : decode cL_law 707 = .ok (.aload_n 1, 1) := dec_sh (p := 43) qa_8 (by decide +kernel) (by decide +kernel)
theorem dL_law_708 : decode cL_law 708 = .ok (.aload_n 0, 1) := dec_sh (p := 44) qa_8 (by decide +kernel) (by decide +kernel)
theorem dL_law_709 : decode cL_law 709 = .ok (.iload 4, 2) := dec_sh (p := 45) qa_8 (by decide +kernel) (by decide +kernel)
theorem dL_law_711 : decode cL_law 711 = .ok (.iconst 1, 1) := dec_sh (p := 47) qa_8 (by decide +kernel) (by decide +kernel)
theorem dL_law_712 : decode cL_law 712 = .ok (.iadd, 1) := dec_sh (p := 48) qa_8 (by decide +kernel) (by decide +kernel)
theorem dL_law_713 : decode cL_law 713 = .ok (.iaload, 1) := dec_sh (p := 49) qa_8 (by decide +kernel) (by decide +kernel)
theorem dL_law_714 : decode cL_law 714 = .ok (.aload_n 3, 1) := dec_sh (p := 50) qa_8 (by decide +kernel) (by decide +kernel)
theorem dL_law_715 : decode cL_law 715 = .ok (.invokestatic 165, 3) := dec_sh (p := 51) qa_8 (by decide +kernel) (by decide +kernel)
theorem dL_law_718 : decode cL_law 718 = .ok (.istore 5, 2) := dec_sh (p := 54) qa_8 (by decide +kernel) (by decide +kernel)
theorem dL_law_720 : decode cL_law 720 = .ok (.aload_n 2, 1) := dec_sh (p := 56) qa_8 (by decide +kernel) (by decide +kernel)
theorem dL_law_721 : decode cL_law 721 = .ok (.aload_n 0, 1) := dec_sh (p := 57) qa_8 (by decide +kernel) (by decide +kernel)
theorem dL_law_722 : decode cL_law 722 = .ok (.iload 4, 2) := dec_sh (p := 58) qa_8 (by decide +kernel) (by decide +kernel)
theorem dL_law_724 : decode cL_law 724 = .ok (.iconst 1, 1) := dec_sh (p := 60) qa_8 (by decide +kernel) (by decide +kernel)
theorem dL_law_725 : decode cL_law 725 = .ok (.iadd, 1) := dec_sh (p := 61) qa_8 (by decide +kernel) (by decide +kernel)
theorem dL_law_726 : decode cL_law 726 = .ok (.iaload, 1) := dec_sh (p := 62) qa_8 (by decide +kernel) (by decide +kernel)
theorem dL_law_727 : decode cL_law 727 = .ok (.invokevirtual 167, 3) := dec_sh (p := 63) qa_8 (by decide +kernel) (by decide +kernel)
theorem dL_law_730 : decode cL_law 730 = .ok (.istore 6, 2) := dec_sh (p := 0) qa_9 (by decide +kernel) (by decide +kernel)
theorem dL_law_732 : decode cL_law 732 = .ok (.goto 506, 3) := dec_sh (p := 2) qa_9 (by decide +kernel) (by decide +kernel)
theorem dL_law_735 : decode cL_law 735 = .ok (.aload_n 1, 1) := dec_sh (p := 5) qa_9 (by decide +kernel) (by decide +kernel)
theorem dL_law_736 : decode cL_law 736 = .ok (.aload_n 0, 1) := dec_sh (p := 6) qa_9 (by decide +kernel) (by decide +kernel)
theorem dL_law_737 : decode cL_law 737 = .ok (.iload 4, 2) := dec_sh (p := 7) qa_9 (by decide +kernel) (by decide +kernel)
theorem dL_law_739 : decode cL_law 739 = .ok (.iconst 1, 1) := dec_sh (p := 9) qa_9 (by decide +kernel) (by decide +kernel)
theorem dL_law_740 : decode cL_law 740 = .ok (.iadd, 1) := dec_sh (p := 10) qa_9 (by decide +kernel) (by decide +kernel)
theorem dL_law_741 : decode cL_law 741 = .ok (.iaload, 1) := dec_sh (p := 11) qa_9 (by decide +kernel) (by decide +kernel)
theorem dL_law_742 : decode cL_law 742 = .ok (.aload_n 0, 1) := dec_sh (p := 12) qa_9 (by decide +kernel) (by decide +kernel)
theorem dL_law_743 : decode cL_law 743 = .ok (.iload 4, 2) := dec_sh (p := 13) qa_9 (by decide +kernel) (by decide +kernel)
theorem dL_law_745 : decode cL_law 745 = .ok (.iconst 2, 1) := dec_sh (p := 15) qa_9 (by decide +kernel) (by decide +kernel)
theorem dL_law_746 : decode cL_law 746 = .ok (.iadd, 1) := dec_sh (p := 16) qa_9 (by decide +kernel) (by decide +kernel)
theorem dL_law_747 : decode cL_law 747 = .ok (.iaload, 1) := dec_sh (p := 17) qa_9 (by decide +kernel) (by decide +kernel)
theorem dL_law_748 : decode cL_law 748 = .ok (.aload_n 3, 1) := dec_sh (p := 18) qa_9 (by decide +kernel) (by decide +kernel)
theorem dL_law_749 : decode cL_law 749 = .ok (.invokestatic 168, 3) := dec_sh (p := 19) qa_9 (by decide +kernel) (by decide +kernel)
theorem dL_law_752 : decode cL_law 752 = .ok (.istore 5, 2) := dec_sh (p := 22) qa_9 (by decide +kernel) (by decide +kernel)
theorem dL_law_754 : decode cL_law 754 = .ok (.aload_n 2, 1) := dec_sh (p := 24) qa_9 (by decide +kernel) (by decide +kernel)
theorem dL_law_755 : decode cL_law 755 = .ok (.aload_n 0, 1) := dec_sh (p := 25) qa_9 (by decide +kernel) (by decide +kernel)
theorem dL_law_756 : decode cL_law 756 = .ok (.iload 4, 2) := dec_sh (p := 26) qa_9 (by decide +kernel) (by decide +kernel)
theorem dL_law_758 : decode cL_law 758 = .ok (.iconst 1, 1) := dec_sh (p := 28) qa_9 (by decide +kernel) (by decide +kernel)
theorem dL_law_759 : decode cL_law 759 = .ok (.iadd, 1) := dec_sh (p := 29) qa_9 (by decide +kernel) (by decide +kernel)
theorem dL_law_760 : decode cL_law 760 = .ok (.iaload, 1) := dec_sh (p := 30) qa_9 (by decide +kernel) (by decide +kernel)
theorem dL_law_761 : decode cL_law 761 = .ok (.aload_n 0, 1) := dec_sh (p := 31) qa_9 (by decide +kernel) (by decide +kernel)
theorem dL_law_762 : decode cL_law 762 = .ok (.iload 4, 2) := dec_sh (p := 32) qa_9 (by decide +kernel) (by decide +kernel)
theorem dL_law_764 : decode cL_law 764 = .ok (.iconst 2, 1) := dec_sh (p := 34) qa_9 (by decide +kernel) (by decide +kernel)
theorem dL_law_765 : decode cL_law 765 = .ok (.iadd, 1) := dec_sh (p := 35) qa_9 (by decide +kernel) (by decide +kernel)
theorem dL_law_766 : decode cL_law 766 = .ok (.iaload, 1) := dec_sh (p := 36) qa_9 (by decide +kernel) (by decide +kernel)
theorem dL_law_767 : decode cL_law 767 = .ok (.invokevirtual 170, 3) := dec_sh (p := 37) qa_9 (by decide +kernel) (by decide +kernel)
theorem dL_law_770 : decode cL_law 770 = .ok (.istore 6, 2) := dec_sh (p := 40) qa_9 (by decide +kernel) (by decide +kernel)
theorem dL_law_772 : decode cL_law 772 = .ok (.goto 466, 3) := dec_sh (p := 42) qa_9 (by decide +kernel) (by decide +kernel)
theorem dL_law_775 : decode cL_law 775 = .ok (.aload_n 1, 1) := dec_sh (p := 45) qa_9 (by decide +kernel) (by decide +kernel)
theorem dL_law_776 : decode cL_law 776 = .ok (.aload_n 0, 1) := dec_sh (p := 46) qa_9 (by decide +kernel) (by decide +kernel)
theorem dL_law_777 : decode cL_law 777 = .ok (.iload 4, 2) := dec_sh (p := 47) qa_9 (by decide +kernel) (by decide +kernel)
theorem dL_law_779 : decode cL_law 779 = .ok (.iconst 1, 1) := dec_sh (p := 49) qa_9 (by decide +kernel) (by decide +kernel)
theorem dL_law_780 : decode cL_law 780 = .ok (.iadd, 1) := dec_sh (p := 50) qa_9 (by decide +kernel) (by decide +kernel)
theorem dL_law_781 : decode cL_law 781 = .ok (.iaload, 1) := dec_sh (p := 51) qa_9 (by decide +kernel) (by decide +kernel)
theorem dL_law_782 : decode cL_law 782 = .ok (.aload_n 0, 1) := dec_sh (p := 52) qa_9 (by decide +kernel) (by decide +kernel)
theorem dL_law_783 : decode cL_law 783 = .ok (.iload 4, 2) := dec_sh (p := 53) qa_9 (by decide +kernel) (by decide +kernel)
theorem dL_law_785 : decode cL_law 785 = .ok (.iconst 2, 1) := dec_sh (p := 55) qa_9 (by decide +kernel) (by decide +kernel)
theorem dL_law_786 : decode cL_law 786 = .ok (.iadd, 1) := dec_sh (p := 56) qa_9 (by decide +kernel) (by decide +kernel)
theorem dL_law_787 : decode cL_law 787 = .ok (.iaload, 1) := dec_sh (p := 57) qa_9 (by decide +kernel) (by decide +kernel)
theorem dL_law_788 : decode cL_law 788 = .ok (.aload_n 3, 1) := dec_sh (p := 58) qa_9 (by decide +kernel) (by decide +kernel)
theorem dL_law_789 : decode cL_law 789 = .ok (.invokestatic 171, 3) := dec_sh (p := 59) qa_9 (by decide +kernel) (by decide +kernel)
theorem dL_law_792 : decode cL_law 792 = .ok (.istore 5, 2) := dec_sh (p := 62) qa_9 (by decide +kernel) (by decide +kernel)
theorem dL_law_794 : decode cL_law 794 = .ok (.aload_n 2, 1) := dec_sh (p := 0) qa_10 (by decide +kernel) (by decide +kernel)
theorem dL_law_795 : decode cL_law 795 = .ok (.aload_n 0, 1) := dec_sh (p := 1) qa_10 (by decide +kernel) (by decide +kernel)
theorem dL_law_796 : decode cL_law 796 = .ok (.iload 4, 2) := dec_sh (p := 2) qa_10 (by decide +kernel) (by decide +kernel)
theorem dL_law_798 : decode cL_law 798 = .ok (.iconst 1, 1) := dec_sh (p := 4) qa_10 (by decide +kernel) (by decide +kernel)
theorem dL_law_799 : decode cL_law 799 = .ok (.iadd, 1) := dec_sh (p := 5) qa_10 (by decide +kernel) (by decide +kernel)
theorem dL_law_800 : decode cL_law 800 = .ok (.iaload, 1) := dec_sh (p := 6) qa_10 (by decide +kernel) (by decide +kernel)
theorem dL_law_801 : decode cL_law 801 = .ok (.aload_n 0, 1) := dec_sh (p := 7) qa_10 (by decide +kernel) (by decide +kernel)
theorem dL_law_802 : decode cL_law 802 = .ok (.iload 4, 2) := dec_sh (p := 8) qa_10 (by decide +kernel) (by decide +kernel)
theorem dL_law_804 : decode cL_law 804 = .ok (.iconst 2, 1) := dec_sh (p := 10) qa_10 (by decide +kernel) (by decide +kernel)
theorem dL_law_805 : decode cL_law 805 = .ok (.iadd, 1) := dec_sh (p := 11) qa_10 (by decide +kernel) (by decide +kernel)
theorem dL_law_806 : decode cL_law 806 = .ok (.iaload, 1) := dec_sh (p := 12) qa_10 (by decide +kernel) (by decide +kernel)
theorem dL_law_807 : decode cL_law 807 = .ok (.invokevirtual 173, 3) := dec_sh (p := 13) qa_10 (by decide +kernel) (by decide +kernel)
theorem dL_law_810 : decode cL_law 810 = .ok (.istore 6, 2) := dec_sh (p := 16) qa_10 (by decide +kernel) (by decide +kernel)
theorem dL_law_812 : decode cL_law 812 = .ok (.goto 426, 3) := dec_sh (p := 18) qa_10 (by decide +kernel) (by decide +kernel)
theorem dL_law_815 : decode cL_law 815 = .ok (.aload_n 1, 1) := dec_sh (p := 21) qa_10 (by decide +kernel) (by decide +kernel)
theorem dL_law_816 : decode cL_law 816 = .ok (.invokevirtual 174, 3) := dec_sh (p := 22) qa_10 (by decide +kernel) (by decide +kernel)
theorem dL_law_819 : decode cL_law 819 = .ok (.pop, 1) := dec_sh (p := 25) qa_10 (by decide +kernel) (by decide +kernel)
theorem dL_law_820 : decode cL_law 820 = .ok (.aload_n 2, 1) := dec_sh (p := 26) qa_10 (by decide +kernel) (by decide +kernel)
theorem dL_law_821 : decode cL_law 821 = .ok (.invokevirtual 177, 3) := dec_sh (p := 27) qa_10 (by decide +kernel) (by decide +kernel)
theorem dL_law_824 : decode cL_law 824 = .ok (.pop, 1) := dec_sh (p := 30) qa_10 (by decide +kernel) (by decide +kernel)
theorem dL_law_825 : decode cL_law 825 = .ok (.goto 413, 3) := dec_sh (p := 31) qa_10 (by decide +kernel) (by decide +kernel)
theorem dL_law_828 : decode cL_law 828 = .ok (.aload_n 1, 1) := dec_sh (p := 34) qa_10 (by decide +kernel) (by decide +kernel)
theorem dL_law_829 : decode cL_law 829 = .ok (.aload_n 0, 1) := dec_sh (p := 35) qa_10 (by decide +kernel) (by decide +kernel)
theorem dL_law_830 : decode cL_law 830 = .ok (.iload 4, 2) := dec_sh (p := 36) qa_10 (by decide +kernel) (by decide +kernel)
theorem dL_law_832 : decode cL_law 832 = .ok (.iconst 1, 1) := dec_sh (p := 38) qa_10 (by decide +kernel) (by decide +kernel)
theorem dL_law_833 : decode cL_law 833 = .ok (.iadd, 1) := dec_sh (p := 39) qa_10 (by decide +kernel) (by decide +kernel)
theorem dL_law_834 : decode cL_law 834 = .ok (.iaload, 1) := dec_sh (p := 40) qa_10 (by decide +kernel) (by decide +kernel)
theorem dL_law_835 : decode cL_law 835 = .ok (.aload_n 3, 1) := dec_sh (p := 41) qa_10 (by decide +kernel) (by decide +kernel)
theorem dL_law_836 : decode cL_law 836 = .ok (.invokestatic 178, 3) := dec_sh (p := 42) qa_10 (by decide +kernel) (by decide +kernel)
theorem dL_law_839 : decode cL_law 839 = .ok (.istore 5, 2) := dec_sh (p := 45) qa_10 (by decide +kernel) (by decide +kernel)
theorem dL_law_841 : decode cL_law 841 = .ok (.aload_n 2, 1) := dec_sh (p := 47) qa_10 (by decide +kernel) (by decide +kernel)
theorem dL_law_842 : decode cL_law 842 = .ok (.aload_n 0, 1) := dec_sh (p := 48) qa_10 (by decide +kernel) (by decide +kernel)
theorem dL_law_843 : decode cL_law 843 = .ok (.iload 4, 2) := dec_sh (p := 49) qa_10 (by decide +kernel) (by decide +kernel)
theorem dL_law_845 : decode cL_law 845 = .ok (.iconst 1, 1) := dec_sh (p := 51) qa_10 (by decide +kernel) (by decide +kernel)
theorem dL_law_846 : decode cL_law 846 = .ok (.iadd, 1) := dec_sh (p := 52) qa_10 (by decide +kernel) (by decide +kernel)
theorem dL_law_847 : decode cL_law 847 = .ok (.iaload, 1) := dec_sh (p := 53) qa_10 (by decide +kernel) (by decide +kernel)
theorem dL_law_848 : decode cL_law 848 = .ok (.invokevirtual 180, 3) := dec_sh (p := 54) qa_10 (by decide +kernel) (by decide +kernel)
theorem dL_law_851 : decode cL_law 851 = .ok (.istore 6, 2) := dec_sh (p := 57) qa_10 (by decide +kernel) (by decide +kernel)
theorem dL_law_853 : decode cL_law 853 = .ok (.goto 385, 3) := dec_sh (p := 59) qa_10 (by decide +kernel) (by decide +kernel)
theorem dL_law_856 : decode cL_law 856 = .ok (.aload_n 1, 1) := dec_sh (p := 62) qa_10 (by decide +kernel) (by decide +kernel)
theorem dL_law_857 : decode cL_law 857 = .ok (.invokevirtual 181, 3) := dec_sh (p := 63) qa_10 (by decide +kernel) (by decide +kernel)
theorem dL_law_860 : decode cL_law 860 = .ok (.pop, 1) := dec_sh (p := 0) qa_11 (by decide +kernel) (by decide +kernel)
theorem dL_law_861 : decode cL_law 861 = .ok (.aload_n 2, 1) := dec_sh (p := 1) qa_11 (by decide +kernel) (by decide +kernel)
theorem dL_law_862 : decode cL_law 862 = .ok (.invokevirtual 184, 3) := dec_sh (p := 2) qa_11 (by decide +kernel) (by decide +kernel)
theorem dL_law_865 : decode cL_law 865 = .ok (.pop, 1) := dec_sh (p := 5) qa_11 (by decide +kernel) (by decide +kernel)
theorem dL_law_866 : decode cL_law 866 = .ok (.goto 372, 3) := dec_sh (p := 6) qa_11 (by decide +kernel) (by decide +kernel)
theorem dL_law_869 : decode cL_law 869 = .ok (.aload_n 1, 1) := dec_sh (p := 9) qa_11 (by decide +kernel) (by decide +kernel)
theorem dL_law_870 : decode cL_law 870 = .ok (.invokevirtual 185, 3) := dec_sh (p := 10) qa_11 (by decide +kernel) (by decide +kernel)
theorem dL_law_873 : decode cL_law 873 = .ok (.pop, 1) := dec_sh (p := 13) qa_11 (by decide +kernel) (by decide +kernel)
theorem dL_law_874 : decode cL_law 874 = .ok (.aload_n 2, 1) := dec_sh (p := 14) qa_11 (by decide +kernel) (by decide +kernel)
theorem dL_law_875 : decode cL_law 875 = .ok (.invokevirtual 188, 3) := dec_sh (p := 15) qa_11 (by decide +kernel) (by decide +kernel)
theorem dL_law_878 : decode cL_law 878 = .ok (.pop, 1) := dec_sh (p := 18) qa_11 (by decide +kernel) (by decide +kernel)
theorem dL_law_879 : decode cL_law 879 = .ok (.goto 359, 3) := dec_sh (p := 19) qa_11 (by decide +kernel) (by decide +kernel)
theorem dL_law_882 : decode cL_law 882 = .ok (.aload_n 1, 1) := dec_sh (p := 22) qa_11 (by decide +kernel) (by decide +kernel)
theorem dL_law_883 : decode cL_law 883 = .ok (.invokevirtual 189, 3) := dec_sh (p := 23) qa_11 (by decide +kernel) (by decide +kernel)
theorem dL_law_886 : decode cL_law 886 = .ok (.pop, 1) := dec_sh (p := 26) qa_11 (by decide +kernel) (by decide +kernel)
theorem dL_law_887 : decode cL_law 887 = .ok (.aload_n 2, 1) := dec_sh (p := 27) qa_11 (by decide +kernel) (by decide +kernel)
theorem dL_law_888 : decode cL_law 888 = .ok (.invokevirtual 192, 3) := dec_sh (p := 28) qa_11 (by decide +kernel) (by decide +kernel)
theorem dL_law_891 : decode cL_law 891 = .ok (.pop, 1) := dec_sh (p := 31) qa_11 (by decide +kernel) (by decide +kernel)
theorem dL_law_892 : decode cL_law 892 = .ok (.goto 346, 3) := dec_sh (p := 32) qa_11 (by decide +kernel) (by decide +kernel)
theorem dL_law_895 : decode cL_law 895 = .ok (.aload_n 1, 1) := dec_sh (p := 35) qa_11 (by decide +kernel) (by decide +kernel)
theorem dL_law_896 : decode cL_law 896 = .ok (.aload_n 0, 1) := dec_sh (p := 36) qa_11 (by decide +kernel) (by decide +kernel)
theorem dL_law_897 : decode cL_law 897 = .ok (.iload 4, 2) := dec_sh (p := 37) qa_11 (by decide +kernel) (by decide +kernel)
theorem dL_law_899 : decode cL_law 899 = .ok (.iconst 1, 1) := dec_sh (p := 39) qa_11 (by decide +kernel) (by decide +kernel)
theorem dL_law_900 : decode cL_law 900 = .ok (.iadd, 1) := dec_sh (p := 40) qa_11 (by decide +kernel) (by decide +kernel)
theorem dL_law_901 : decode cL_law 901 = .ok (.iaload, 1) := dec_sh (p := 41) qa_11 (by decide +kernel) (by decide +kernel)
theorem dL_law_902 : decode cL_law 902 = .ok (.aload_n 3, 1) := dec_sh (p := 42) qa_11 (by decide +kernel) (by decide +kernel)
theorem dL_law_903 : decode cL_law 903 = .ok (.invokestatic 193, 3) := dec_sh (p := 43) qa_11 (by decide +kernel) (by decide +kernel)
theorem dL_law_906 : decode cL_law 906 = .ok (.istore 5, 2) := dec_sh (p := 46) qa_11 (by decide +kernel) (by decide +kernel)
theorem dL_law_908 : decode cL_law 908 = .ok (.aload_n 2, 1) := dec_sh (p := 48) qa_11 (by decide +kernel) (by decide +kernel)
theorem dL_law_909 : decode cL_law 909 = .ok (.aload_n 0, 1) := dec_sh (p := 49) qa_11 (by decide +kernel) (by decide +kernel)
theorem dL_law_910 : decode cL_law 910 = .ok (.iload 4, 2) := dec_sh (p := 50) qa_11 (by decide +kernel) (by decide +kernel)
theorem dL_law_912 : decode cL_law 912 = .ok (.iconst 1, 1) := dec_sh (p := 52) qa_11 (by decide +kernel) (by decide +kernel)
theorem dL_law_913 : decode cL_law 913 = .ok (.iadd, 1) := dec_sh (p := 53) qa_11 (by decide +kernel) (by decide +kernel)
theorem dL_law_914 : decode cL_law 914 = .ok (.iaload, 1) := dec_sh (p := 54) qa_11 (by decide +kernel) (by decide +kernel)
theorem dL_law_915 : decode cL_law 915 = .ok (.invokevirtual 195, 3) := dec_sh (p := 55) qa_11 (by decide +kernel) (by decide +kernel)
theorem dL_law_918 : decode cL_law 918 = .ok (.istore 6, 2) := dec_sh (p := 58) qa_11 (by decide +kernel) (by decide +kernel)
theorem dL_law_920 : decode cL_law 920 = .ok (.goto 318, 3) := dec_sh (p := 60) qa_11 (by decide +kernel) (by decide +kernel)
theorem dL_law_923 : decode cL_law 923 = .ok (.aload_n 1, 1) := dec_sh (p := 63) qa_11 (by decide +kernel) (by decide +kernel)
theorem dL_law_924 : decode cL_law 924 = .ok (.invokevirtual 196, 3) := dec_sh (p := 0) qa_12 (by decide +kernel) (by decide +kernel)
theorem dL_law_927 : decode cL_law 927 = .ok (.pop, 1) := dec_sh (p := 3) qa_12 (by decide +kernel) (by decide +kernel)
theorem dL_law_928 : decode cL_law 928 = .ok (.aload_n 2, 1) := dec_sh (p := 4) qa_12 (by decide +kernel) (by decide +kernel)
theorem dL_law_929 : decode cL_law 929 = .ok (.invokevirtual 199, 3) := dec_sh (p := 5) qa_12 (by decide +kernel) (by decide +kernel)
theorem dL_law_932 : decode cL_law 932 = .ok (.pop, 1) := dec_sh (p := 8) qa_12 (by decide +kernel) (by decide +kernel)
theorem dL_law_933 : decode cL_law 933 = .ok (.goto 305, 3) := dec_sh (p := 9) qa_12 (by decide +kernel) (by decide +kernel)
theorem dL_law_936 : decode cL_law 936 = .ok (.aload_n 1, 1) := dec_sh (p := 12) qa_12 (by decide +kernel) (by decide +kernel)
theorem dL_law_937 : decode cL_law 937 = .ok (.aload_n 0, 1) := dec_sh (p := 13) qa_12 (by decide +kernel) (by decide +kernel)
theorem dL_law_938 : decode cL_law 938 = .ok (.iload 4, 2) := dec_sh (p := 14) qa_12 (by decide +kernel) (by decide +kernel)
theorem dL_law_940 : decode cL_law 940 = .ok (.iconst 1, 1) := dec_sh (p := 16) qa_12 (by decide +kernel) (by decide +kernel)
theorem dL_law_941 : decode cL_law 941 = .ok (.iadd, 1) := dec_sh (p := 17) qa_12 (by decide +kernel) (by decide +kernel)
theorem dL_law_942 : decode cL_law 942 = .ok (.iaload, 1) := dec_sh (p := 18) qa_12 (by decide +kernel) (by decide +kernel)
theorem dL_law_943 : decode cL_law 943 = .ok (.aload_n 0, 1) := dec_sh (p := 19) qa_12 (by decide +kernel) (by decide +kernel)
theorem dL_law_944 : decode cL_law 944 = .ok (.iload 4, 2) := dec_sh (p := 20) qa_12 (by decide +kernel) (by decide +kernel)
theorem dL_law_946 : decode cL_law 946 = .ok (.iconst 2, 1) := dec_sh (p := 22) qa_12 (by decide +kernel) (by decide +kernel)
theorem dL_law_947 : decode cL_law 947 = .ok (.iadd, 1) := dec_sh (p := 23) qa_12 (by decide +kernel) (by decide +kernel)
theorem dL_law_948 : decode cL_law 948 = .ok (.iaload, 1) := dec_sh (p := 24) qa_12 (by decide +kernel) (by decide +kernel)
theorem dL_law_949 : decode cL_law 949 = .ok (.aload_n 3, 1) := dec_sh (p := 25) qa_12 (by decide +kernel) (by decide +kernel)
theorem dL_law_950 : decode cL_law 950 = .ok (.invokestatic 200, 3) := dec_sh (p := 26) qa_12 (by decide +kernel) (by decide +kernel)
theorem dL_law_953 : decode cL_law 953 = .ok (.istore 5, 2) := dec_sh (p := 29) qa_12 (by decide +kernel) (by decide +kernel)
theorem dL_law_955 : decode cL_law 955 = .ok (.aload_n 2, 1) := dec_sh (p := 31) qa_12 (by decide +kernel) (by decide +kernel)
theorem dL_law_956 : decode cL_law 956 = .ok (.aload_n 0, 1) := dec_sh (p := 32) qa_12 (by decide +kernel) (by decide +kernel)
theorem dL_law_957 : decode cL_law 957 = .ok (.iload 4, 2) := dec_sh (p := 33) qa_12 (by decide +kernel) (by decide +kernel)
theorem dL_law_959 : decode cL_law 959 = .ok (.iconst 1, 1) := dec_sh (p := 35) qa_12 (by decide +kernel) (by decide +kernel)
theorem dL_law_960 : decode cL_law 960 = .ok (.iadd, 1) := dec_sh (p := 36) qa_12 (by decide +kernel) (by decide +kernel)
theorem dL_law_961 : decode cL_law 961 = .ok (.iaload, 1) := dec_sh (p := 37) qa_12 (by decide +kernel) (by decide +kernel)
theorem dL_law_962 : decode cL_law 962 = .ok (.aload_n 0, 1) := dec_sh (p := 38) qa_12 (by decide +kernel) (by decide +kernel)
theorem dL_law_963 : decode cL_law 963 = .ok (.iload 4, 2) := dec_sh (p := 39) qa_12 (by decide +kernel) (by decide +kernel)
theorem dL_law_965 : decode cL_law 965 = .ok (.iconst 2, 1) := dec_sh (p := 41) qa_12 (by decide +kernel) (by decide +kernel)
theorem dL_law_966 : decode cL_law 966 = .ok (.iadd, 1) := dec_sh (p := 42) qa_12 (by decide +kernel) (by decide +kernel)
theorem dL_law_967 : decode cL_law 967 = .ok (.iaload, 1) := dec_sh (p := 43) qa_12 (by decide +kernel) (by decide +kernel)
theorem dL_law_968 : decode cL_law 968 = .ok (.invokevirtual 202, 3) := dec_sh (p := 44) qa_12 (by decide +kernel) (by decide +kernel)
theorem dL_law_971 : decode cL_law 971 = .ok (.istore 6, 2) := dec_sh (p := 47) qa_12 (by decide +kernel) (by decide +kernel)
theorem dL_law_973 : decode cL_law 973 = .ok (.goto 265, 3) := dec_sh (p := 49) qa_12 (by decide +kernel) (by decide +kernel)
theorem dL_law_976 : decode cL_law 976 = .ok (.aload_n 1, 1) := dec_sh (p := 52) qa_12 (by decide +kernel) (by decide +kernel)
theorem dL_law_977 : decode cL_law 977 = .ok (.aload_n 0, 1) := dec_sh (p := 53) qa_12 (by decide +kernel) (by decide +kernel)
theorem dL_law_978 : decode cL_law 978 = .ok (.iload 4, 2) := dec_sh (p := 54) qa_12 (by decide +kernel) (by decide +kernel)
theorem dL_law_980 : decode cL_law 980 = .ok (.iconst 1, 1) := dec_sh (p := 56) qa_12 (by decide +kernel) (by decide +kernel)
theorem dL_law_981 : decode cL_law 981 = .ok (.iadd, 1) := dec_sh (p := 57) qa_12 (by decide +kernel) (by decide +kernel)
theorem dL_law_982 : decode cL_law 982 = .ok (.iaload, 1) := dec_sh (p := 58) qa_12 (by decide +kernel) (by decide +kernel)
theorem dL_law_983 : decode cL_law 983 = .ok (.aload_n 3, 1) := dec_sh (p := 59) qa_12 (by decide +kernel) (by decide +kernel)
theorem dL_law_984 : decode cL_law 984 = .ok (.invokestatic 203, 3) := dec_sh (p := 60) qa_12 (by decide +kernel) (by decide +kernel)
theorem dL_law_987 : decode cL_law 987 = .ok (.istore 5, 2) := dec_sh (p := 63) qa_12 (by decide +kernel) (by decide +kernel)
theorem dL_law_989 : decode cL_law 989 = .ok (.aload_n 2, 1) := dec_sh (p := 0) qa_13 (by decide +kernel) (by decide +kernel)
theorem dL_law_990 : decode cL_law 990 = .ok (.aload_n 0, 1) := dec_sh (p := 1) qa_13 (by decide +kernel) (by decide +kernel)
theorem dL_law_991 : decode cL_law 991 = .ok (.iload 4, 2) := dec_sh (p := 2) qa_13 (by decide +kernel) (by decide +kernel)
theorem dL_law_993 : decode cL_law 993 = .ok (.iconst 1, 1) := dec_sh (p := 4) qa_13 (by decide +kernel) (by decide +kernel)
theorem dL_law_994 : decode cL_law 994 = .ok (.iadd, 1) := dec_sh (p := 5) qa_13 (by decide +kernel) (by decide +kernel)
theorem dL_law_995 : decode cL_law 995 = .ok (.iaload, 1) := dec_sh (p := 6) qa_13 (by decide +kernel) (by decide +kernel)
theorem dL_law_996 : decode cL_law 996 = .ok (.invokevirtual 205, 3) := dec_sh (p := 7) qa_13 (by decide +kernel) (by decide +kernel)
theorem dL_law_999 : decode cL_law 999 = .ok (.istore 6, 2) := dec_sh (p := 10) qa_13 (by decide +kernel) (by decide +kernel)
theorem dL_law_1001 : decode cL_law 1001 = .ok (.goto 237, 3) := dec_sh (p := 12) qa_13 (by decide +kernel) (by decide +kernel)
theorem dL_law_1004 : decode cL_law 1004 = .ok (.aload_n 1, 1) := dec_sh (p := 15) qa_13 (by decide +kernel) (by decide +kernel)
theorem dL_law_1005 : decode cL_law 1005 = .ok (.aload_n 0, 1) := dec_sh (p := 16) qa_13 (by decide +kernel) (by decide +kernel)
theorem dL_law_1006 : decode cL_law 1006 = .ok (.iload 4, 2) := dec_sh (p := 17) qa_13 (by decide +kernel) (by decide +kernel)
theorem dL_law_1008 : decode cL_law 1008 = .ok (.iconst 1, 1) := dec_sh (p := 19) qa_13 (by decide +kernel) (by decide +kernel)
theorem dL_law_1009 : decode cL_law 1009 = .ok (.iadd, 1) := dec_sh (p := 20) qa_13 (by decide +kernel) (by decide +kernel)
theorem dL_law_1010 : decode cL_law 1010 = .ok (.iaload, 1) := dec_sh (p := 21) qa_13 (by decide +kernel) (by decide +kernel)
theorem dL_law_1011 : decode cL_law 1011 = .ok (.aload_n 3, 1) := dec_sh (p := 22) qa_13 (by decide +kernel) (by decide +kernel)
theorem dL_law_1012 : decode cL_law 1012 = .ok (.invokestatic 206, 3) := dec_sh (p := 23) qa_13 (by decide +kernel) (by decide +kernel)
theorem dL_law_1015 : decode cL_law 1015 = .ok (.istore 5, 2) := dec_sh (p := 26) qa_13 (by decide +kernel) (by decide +kernel)
theorem dL_law_1017 : decode cL_law 1017 = .ok (.aload_n 2, 1) := dec_sh (p := 28) qa_13 (by decide +kernel) (by decide +kernel)
theorem dL_law_1018 : decode cL_law 1018 = .ok (.aload_n 0, 1) := dec_sh (p := 29) qa_13 (by decide +kernel) (by decide +kernel)
theorem dL_law_1019 : decode cL_law 1019 = .ok (.iload 4, 2) := dec_sh (p := 30) qa_13 (by decide +kernel) (by decide +kernel)
theorem dL_law_1021 : decode cL_law 1021 = .ok (.iconst 1, 1) := dec_sh (p := 32) qa_13 (by decide +kernel) (by decide +kernel)
theorem dL_law_1022 : decode cL_law 1022 = .ok (.iadd, 1) := dec_sh (p := 33) qa_13 (by decide +kernel) (by decide +kernel)
theorem dL_law_1023 : decode cL_law 1023 = .ok (.iaload, 1) := dec_sh (p := 34) qa_13 (by decide +kernel) (by decide +kernel)
theorem dL_law_1024 : decode cL_law 1024 = .ok (.invokevirtual 208, 3) := dec_sh (p := 35) qa_13 (by decide +kernel) (by decide +kernel)
theorem dL_law_1027 : decode cL_law 1027 = .ok (.istore 6, 2) := dec_sh (p := 38) qa_13 (by decide +kernel) (by decide +kernel)
theorem dL_law_1029 : decode cL_law 1029 = .ok (.goto 209, 3) := dec_sh (p := 40) qa_13 (by decide +kernel) (by decide +kernel)
theorem dL_law_1032 : decode cL_law 1032 = .ok (.aload_n 1, 1) := dec_sh (p := 43) qa_13 (by decide +kernel) (by decide +kernel)
theorem dL_law_1033 : decode cL_law 1033 = .ok (.aload_n 0, 1) := dec_sh (p := 44) qa_13 (by decide +kernel) (by decide +kernel)
theorem dL_law_1034 : decode cL_law 1034 = .ok (.iload 4, 2) := dec_sh (p := 45) qa_13 (by decide +kernel) (by decide +kernel)
theorem dL_law_1036 : decode cL_law 1036 = .ok (.iconst 1, 1) := dec_sh (p := 47) qa_13 (by decide +kernel) (by decide +kernel)
theorem dL_law_1037 : decode cL_law 1037 = .ok (.iadd, 1) := dec_sh (p := 48) qa_13 (by decide +kernel) (by decide +kernel)
theorem dL_law_1038 : decode cL_law 1038 = .ok (.iaload, 1) := dec_sh (p := 49) qa_13 (by decide +kernel) (by decide +kernel)
theorem dL_law_1039 : decode cL_law 1039 = .ok (.aload_n 3, 1) := dec_sh (p := 50) qa_13 (by decide +kernel) (by decide +kernel)
theorem dL_law_1040 : decode cL_law 1040 = .ok (.invokestatic 209, 3) := dec_sh (p := 51) qa_13 (by decide +kernel) (by decide +kernel)
theorem dL_law_1043 : decode cL_law 1043 = .ok (.istore 5, 2) := dec_sh (p := 54) qa_13 (by decide +kernel) (by decide +kernel)
theorem dL_law_1045 : decode cL_law 1045 = .ok (.aload_n 2, 1) := dec_sh (p := 56) qa_13 (by decide +kernel) (by decide +kernel)
theorem dL_law_1046 : decode cL_law 1046 = .ok (.aload_n 0, 1) := dec_sh (p := 57) qa_13 (by decide +kernel) (by decide +kernel)
theorem dL_law_1047 : decode cL_law 1047 = .ok (.iload 4, 2) := dec_sh (p := 58) qa_13 (by decide +kernel) (by decide +kernel)
theorem dL_law_1049 : decode cL_law 1049 = .ok (.iconst 1, 1) := dec_sh (p := 60) qa_13 (by decide +kernel) (by decide +kernel)
theorem dL_law_1050 : decode cL_law 1050 = .ok (.iadd, 1) := dec_sh (p := 61) qa_13 (by decide +kernel) (by decide +kernel)
theorem dL_law_1051 : decode cL_law 1051 = .ok (.iaload, 1) := dec_sh (p := 62) qa_13 (by decide +kernel) (by decide +kernel)
theorem dL_law_1052 : decode cL_law 1052 = .ok (.invokevirtual 211, 3) := dec_sh (p := 63) qa_13 (by decide +kernel) (by decide +kernel)
theorem dL_law_1055 : decode cL_law 1055 = .ok (.istore 6, 2) := dec_sh (p := 0) qa_14 (by decide +kernel) (by decide +kernel)
theorem dL_law_1057 : decode cL_law 1057 = .ok (.goto 181, 3) := dec_sh (p := 2) qa_14 (by decide +kernel) (by decide +kernel)
theorem dL_law_1060 : decode cL_law 1060 = .ok (.aload_n 1, 1) := dec_sh (p := 5) qa_14 (by decide +kernel) (by decide +kernel)
theorem dL_law_1061 : decode cL_law 1061 = .ok (.aload_n 0, 1) := dec_sh (p := 6) qa_14 (by decide +kernel) (by decide +kernel)
theorem dL_law_1062 : decode cL_law 1062 = .ok (.iload 4, 2) := dec_sh (p := 7) qa_14 (by decide +kernel) (by decide +kernel)
theorem dL_law_1064 : decode cL_law 1064 = .ok (.iconst 1, 1) := dec_sh (p := 9) qa_14 (by decide +kernel) (by decide +kernel)
theorem dL_law_1065 : decode cL_law 1065 = .ok (.iadd, 1) := dec_sh (p := 10) qa_14 (by decide +kernel) (by decide +kernel)
theorem dL_law_1066 : decode cL_law 1066 = .ok (.iaload, 1) := dec_sh (p := 11) qa_14 (by decide +kernel) (by decide +kernel)
theorem dL_law_1067 : decode cL_law 1067 = .ok (.aload_n 0, 1) := dec_sh (p := 12) qa_14 (by decide +kernel) (by decide +kernel)
theorem dL_law_1068 : decode cL_law 1068 = .ok (.iload 4, 2) := dec_sh (p := 13) qa_14 (by decide +kernel) (by decide +kernel)
theorem dL_law_1070 : decode cL_law 1070 = .ok (.iconst 2, 1) := dec_sh (p := 15) qa_14 (by decide +kernel) (by decide +kernel)
theorem dL_law_1071 : decode cL_law 1071 = .ok (.iadd, 1) := dec_sh (p := 16) qa_14 (by decide +kernel) (by decide +kernel)
theorem dL_law_1072 : decode cL_law 1072 = .ok (.iaload, 1) := dec_sh (p := 17) qa_14 (by decide +kernel) (by decide +kernel)
theorem dL_law_1073 : decode cL_law 1073 = .ok (.aload_n 3, 1) := dec_sh (p := 18) qa_14 (by decide +kernel) (by decide +kernel)
theorem dL_law_1074 : decode cL_law 1074 = .ok (.invokestatic 212, 3) := dec_sh (p := 19) qa_14 (by decide +kernel) (by decide +kernel)
theorem dL_law_1077 : decode cL_law 1077 = .ok (.istore 5, 2) := dec_sh (p := 22) qa_14 (by decide +kernel) (by decide +kernel)
theorem dL_law_1079 : decode cL_law 1079 = .ok (.aload_n 2, 1) := dec_sh (p := 24) qa_14 (by decide +kernel) (by decide +kernel)
theorem dL_law_1080 : decode cL_law 1080 = .ok (.aload_n 0, 1) := dec_sh (p := 25) qa_14 (by decide +kernel) (by decide +kernel)
theorem dL_law_1081 : decode cL_law 1081 = .ok (.iload 4, 2) := dec_sh (p := 26) qa_14 (by decide +kernel) (by decide +kernel)
theorem dL_law_1083 : decode cL_law 1083 = .ok (.iconst 1, 1) := dec_sh (p := 28) qa_14 (by decide +kernel) (by decide +kernel)
theorem dL_law_1084 : decode cL_law 1084 = .ok (.iadd, 1) := dec_sh (p := 29) qa_14 (by decide +kernel) (by decide +kernel)
theorem dL_law_1085 : decode cL_law 1085 = .ok (.iaload, 1) := dec_sh (p := 30) qa_14 (by decide +kernel) (by decide +kernel)
theorem dL_law_1086 : decode cL_law 1086 = .ok (.aload_n 0, 1) := dec_sh (p := 31) qa_14 (by decide +kernel) (by decide +kernel)
theorem dL_law_1087 : decode cL_law 1087 = .ok (.iload 4, 2) := dec_sh (p := 32) qa_14 (by decide +kernel) (by decide +kernel)
theorem dL_law_1089 : decode cL_law 1089 = .ok (.iconst 2, 1) := dec_sh (p := 34) qa_14 (by decide +kernel) (by decide +kernel)
theorem dL_law_1090 : decode cL_law 1090 = .ok (.iadd, 1) := dec_sh (p := 35) qa_14 (by decide +kernel) (by decide +kernel)
theorem dL_law_1091 : decode cL_law 1091 = .ok (.iaload, 1) := dec_sh (p := 36) qa_14 (by decide +kernel) (by decide +kernel)
theorem dL_law_1092 : decode cL_law 1092 = .ok (.invokevirtual 214, 3) := dec_sh (p := 37) qa_14 (by decide +kernel) (by decide +kernel)
theorem dL_law_1095 : decode cL_law 1095 = .ok (.istore 6, 2) := dec_sh (p := 40) qa_14 (by decide +kernel) (by decide +kernel)
theorem dL_law_1097 : decode cL_law 1097 = .ok (.goto 141, 3) := dec_sh (p := 42) qa_14 (by decide +kernel) (by decide +kernel)
theorem dL_law_1100 : decode cL_law 1100 = .ok (.aload_n 1, 1) := dec_sh (p := 45) qa_14 (by decide +kernel) (by decide +kernel)
theorem dL_law_1101 : decode cL_law 1101 = .ok (.invokevirtual 215, 3) := dec_sh (p := 46) qa_14 (by decide +kernel) (by decide +kernel)
theorem dL_law_1104 : decode cL_law 1104 = .ok (.pop, 1) := dec_sh (p := 49) qa_14 (by decide +kernel) (by decide +kernel)
theorem dL_law_1105 : decode cL_law 1105 = .ok (.aload_n 2, 1) := dec_sh (p := 50) qa_14 (by decide +kernel) (by decide +kernel)
theorem dL_law_1106 : decode cL_law 1106 = .ok (.invokevirtual 218, 3) := dec_sh (p := 51) qa_14 (by decide +kernel) (by decide +kernel)
theorem dL_law_1109 : decode cL_law 1109 = .ok (.pop, 1) := dec_sh (p := 54) qa_14 (by decide +kernel) (by decide +kernel)
theorem dL_law_1110 : decode cL_law 1110 = .ok (.goto 128, 3) := dec_sh (p := 55) qa_14 (by decide +kernel) (by decide +kernel)
theorem dL_law_1113 : decode cL_law 1113 = .ok (.aload_n 1, 1) := dec_sh (p := 58) qa_14 (by decide +kernel) (by decide +kernel)
theorem dL_law_1114 : decode cL_law 1114 = .ok (.aload_n 0, 1) := dec_sh (p := 59) qa_14 (by decide +kernel) (by decide +kernel)
theorem dL_law_1115 : decode cL_law 1115 = .ok (.iload 4, 2) := dec_sh (p := 60) qa_14 (by decide +kernel) (by decide +kernel)
theorem dL_law_1117 : decode cL_law 1117 = .ok (.iconst 1, 1) := dec_sh (p := 62) qa_14 (by decide +kernel) (by decide +kernel)
theorem dL_law_1118 : decode cL_law 1118 = .ok (.iadd, 1) := dec_sh (p := 63) qa_14 (by decide +kernel) (by decide +kernel)
theorem dL_law_1119 : decode cL_law 1119 = .ok (.iaload, 1) := dec_sh (p := 0) qa_15 (by decide +kernel) (by decide +kernel)
theorem dL_law_1120 : decode cL_law 1120 = .ok (.invokevirtual 219, 3) := dec_sh (p := 1) qa_15 (by decide +kernel) (by decide +kernel)
theorem dL_law_1123 : decode cL_law 1123 = .ok (.pop, 1) := dec_sh (p := 4) qa_15 (by decide +kernel) (by decide +kernel)
theorem dL_law_1124 : decode cL_law 1124 = .ok (.aload_n 2, 1) := dec_sh (p := 5) qa_15 (by decide +kernel) (by decide +kernel)
theorem dL_law_1125 : decode cL_law 1125 = .ok (.aload_n 0, 1) := dec_sh (p := 6) qa_15 (by decide +kernel) (by decide +kernel)
theorem dL_law_1126 : decode cL_law 1126 = .ok (.iload 4, 2) := dec_sh (p := 7) qa_15 (by decide +kernel) (by decide +kernel)
theorem dL_law_1128 : decode cL_law 1128 = .ok (.iconst 1, 1) := dec_sh (p := 9) qa_15 (by decide +kernel) (by decide +kernel)
theorem dL_law_1129 : decode cL_law 1129 = .ok (.iadd, 1) := dec_sh (p := 10) qa_15 (by decide +kernel) (by decide +kernel)
theorem dL_law_1130 : decode cL_law 1130 = .ok (.iaload, 1) := dec_sh (p := 11) qa_15 (by decide +kernel) (by decide +kernel)
theorem dL_law_1131 : decode cL_law 1131 = .ok (.invokevirtual 222, 3) := dec_sh (p := 12) qa_15 (by decide +kernel) (by decide +kernel)
theorem dL_law_1134 : decode cL_law 1134 = .ok (.pop, 1) := dec_sh (p := 15) qa_15 (by decide +kernel) (by decide +kernel)
theorem dL_law_1135 : decode cL_law 1135 = .ok (.goto 103, 3) := dec_sh (p := 16) qa_15 (by decide +kernel) (by decide +kernel)
theorem dL_law_1138 : decode cL_law 1138 = .ok (.aload_n 1, 1) := dec_sh (p := 19) qa_15 (by decide +kernel) (by decide +kernel)
theorem dL_law_1139 : decode cL_law 1139 = .ok (.aload_n 3, 1) := dec_sh (p := 20) qa_15 (by decide +kernel) (by decide +kernel)
theorem dL_law_1140 : decode cL_law 1140 = .ok (.invokestatic 223, 3) := dec_sh (p := 21) qa_15 (by decide +kernel) (by decide +kernel)
theorem dL_law_1143 : decode cL_law 1143 = .ok (.istore 5, 2) := dec_sh (p := 24) qa_15 (by decide +kernel) (by decide +kernel)
theorem dL_law_1145 : decode cL_law 1145 = .ok (.aload_n 2, 1) := dec_sh (p := 26) qa_15 (by decide +kernel) (by decide +kernel)
theorem dL_law_1146 : decode cL_law 1146 = .ok (.invokevirtual 226, 3) := dec_sh (p := 27) qa_15 (by decide +kernel) (by decide +kernel)
theorem dL_law_1149 : decode cL_law 1149 = .ok (.istore 6, 2) := dec_sh (p := 30) qa_15 (by decide +kernel) (by decide +kernel)
theorem dL_law_1151 : decode cL_law 1151 = .ok (.goto 87, 3) := dec_sh (p := 32) qa_15 (by decide +kernel) (by decide +kernel)
theorem dL_law_1154 : decode cL_law 1154 = .ok (.aload_n 1, 1) := dec_sh (p := 35) qa_15 (by decide +kernel) (by decide +kernel)
theorem dL_law_1155 : decode cL_law 1155 = .ok (.aload_n 0, 1) := dec_sh (p := 36) qa_15 (by decide +kernel) (by decide +kernel)
theorem dL_law_1156 : decode cL_law 1156 = .ok (.iload 4, 2) := dec_sh (p := 37) qa_15 (by decide +kernel) (by decide +kernel)
theorem dL_law_1158 : decode cL_law 1158 = .ok (.iconst 1, 1) := dec_sh (p := 39) qa_15 (by decide +kernel) (by decide +kernel)
theorem dL_law_1159 : decode cL_law 1159 = .ok (.iadd, 1) := dec_sh (p := 40) qa_15 (by decide +kernel) (by decide +kernel)
theorem dL_law_1160 : decode cL_law 1160 = .ok (.iaload, 1) := dec_sh (p := 41) qa_15 (by decide +kernel) (by decide +kernel)
theorem dL_law_1161 : decode cL_law 1161 = .ok (.aload_n 3, 1) := dec_sh (p := 42) qa_15 (by decide +kernel) (by decide +kernel)
theorem dL_law_1162 : decode cL_law 1162 = .ok (.invokestatic 227, 3) := dec_sh (p := 43) qa_15 (by decide +kernel) (by decide +kernel)
theorem dL_law_1165 : decode cL_law 1165 = .ok (.istore 5, 2) := dec_sh (p := 46) qa_15 (by decide +kernel) (by decide +kernel)
theorem dL_law_1167 : decode cL_law 1167 = .ok (.aload_n 2, 1) := dec_sh (p := 48) qa_15 (by decide +kernel) (by decide +kernel)
theorem dL_law_1168 : decode cL_law 1168 = .ok (.aload_n 0, 1) := dec_sh (p := 49) qa_15 (by decide +kernel) (by decide +kernel)
theorem dL_law_1169 : decode cL_law 1169 = .ok (.iload 4, 2) := dec_sh (p := 50) qa_15 (by decide +kernel) (by decide +kernel)
theorem dL_law_1171 : decode cL_law 1171 = .ok (.iconst 1, 1) := dec_sh (p := 52) qa_15 (by decide +kernel) (by decide +kernel)
theorem dL_law_1172 : decode cL_law 1172 = .ok (.iadd, 1) := dec_sh (p := 53) qa_15 (by decide +kernel) (by decide +kernel)
theorem dL_law_1173 : decode cL_law 1173 = .ok (.iaload, 1) := dec_sh (p := 54) qa_15 (by decide +kernel) (by decide +kernel)
theorem dL_law_1174 : decode cL_law 1174 = .ok (.invokevirtual 229, 3) := dec_sh (p := 55) qa_15 (by decide +kernel) (by decide +kernel)
theorem dL_law_1177 : decode cL_law 1177 = .ok (.istore 6, 2) := dec_sh (p := 58) qa_15 (by decide +kernel) (by decide +kernel)
theorem dL_law_1179 : decode cL_law 1179 = .ok (.goto 59, 3) := dec_sh (p := 60) qa_15 (by decide +kernel) (by decide +kernel)
theorem dL_law_1182 : decode cL_law 1182 = .ok (.aload_n 1, 1) := dec_sh (p := 63) qa_15 (by decide +kernel) (by decide +kernel)
theorem dL_law_1183 : decode cL_law 1183 = .ok (.aload_n 0, 1) := dec_sh (p := 0) qa_16 (by decide +kernel) (by decide +kernel)
theorem dL_law_1184 : decode cL_law 1184 = .ok (.iload 4, 2) := dec_sh (p := 1) qa_16 (by decide +kernel) (by decide +kernel)
theorem dL_law_1186 : decode cL_law 1186 = .ok (.iconst 1, 1) := dec_sh (p := 3) qa_16 (by decide +kernel) (by decide +kernel)
theorem dL_law_1187 : decode cL_law 1187 = .ok (.iadd, 1) := dec_sh (p := 4) qa_16 (by decide +kernel) (by decide +kernel)
theorem dL_law_1188 : decode cL_law 1188 = .ok (.iaload, 1) := dec_sh (p := 5) qa_16 (by decide +kernel) (by decide +kernel)
theorem dL_law_1189 : decode cL_law 1189 = .ok (.aload_n 3, 1) := dec_sh (p := 6) qa_16 (by decide +kernel) (by decide +kernel)
theorem dL_law_1190 : decode cL_law 1190 = .ok (.invokestatic 230, 3) := dec_sh (p := 7) qa_16 (by decide +kernel) (by decide +kernel)
theorem dL_law_1193 : decode cL_law 1193 = .ok (.istore 5, 2) := dec_sh (p := 10) qa_16 (by decide +kernel) (by decide +kernel)
theorem dL_law_1195 : decode cL_law 1195 = .ok (.aload_n 2, 1) := dec_sh (p := 12) qa_16 (by decide +kernel) (by decide +kernel)
theorem dL_law_1196 : decode cL_law 1196 = .ok (.aload_n 0, 1) := dec_sh (p := 13) qa_16 (by decide +kernel) (by decide +kernel)
theorem dL_law_1197 : decode cL_law 1197 = .ok (.iload 4, 2) := dec_sh (p := 14) qa_16 (by decide +kernel) (by decide +kernel)
theorem dL_law_1199 : decode cL_law 1199 = .ok (.iconst 1, 1) := dec_sh (p := 16) qa_16 (by decide +kernel) (by decide +kernel)
theorem dL_law_1200 : decode cL_law 1200 = .ok (.iadd, 1) := dec_sh (p := 17) qa_16 (by decide +kernel) (by decide +kernel)
theorem dL_law_1201 : decode cL_law 1201 = .ok (.iaload, 1) := dec_sh (p := 18) qa_16 (by decide +kernel) (by decide +kernel)
theorem dL_law_1202 : decode cL_law 1202 = .ok (.invokevirtual 232, 3) := dec_sh (p := 19) qa_16 (by decide +kernel) (by decide +kernel)
theorem dL_law_1205 : decode cL_law 1205 = .ok (.istore 6, 2) := dec_sh (p := 22) qa_16 (by decide +kernel) (by decide +kernel)
theorem dL_law_1207 : decode cL_law 1207 = .ok (.aload_n 2, 1) := dec_sh (p := 24) qa_16 (by decide +kernel) (by decide +kernel)
theorem dL_law_1208 : decode cL_law 1208 = .ok (.invokevirtual 233, 3) := dec_sh (p := 25) qa_16 (by decide +kernel) (by decide +kernel)
theorem dL_law_1211 : decode cL_law 1211 = .ok (.iload 5, 2) := dec_sh (p := 28) qa_16 (by decide +kernel) (by decide +kernel)
theorem dL_law_1213 : decode cL_law 1213 = .ok (.if_icmp .eq 5, 3) := dec_sh (p := 30) qa_16 (by decide +kernel) (by decide +kernel)
theorem dL_law_1216 : decode cL_law 1216 = .ok (.iconst 0, 1) := dec_sh (p := 33) qa_16 (by decide +kernel) (by decide +kernel)
theorem dL_law_1217 : decode cL_law 1217 = .ok (.ireturn, 1) := dec_sh (p := 34) qa_16 (by decide +kernel) (by decide +kernel)
theorem dL_law_1218 : decode cL_law 1218 = .ok (.iload 5, 2) := dec_sh (p := 35) qa_16 (by decide +kernel) (by decide +kernel)
theorem dL_law_1220 : decode cL_law 1220 = .ok (.ifCond .ne 15, 3) := dec_sh (p := 37) qa_16 (by decide +kernel) (by decide +kernel)
theorem dL_law_1223 : decode cL_law 1223 = .ok (.aload_n 3, 1) := dec_sh (p := 40) qa_16 (by decide +kernel) (by decide +kernel)
theorem dL_law_1224 : decode cL_law 1224 = .ok (.iconst 0, 1) := dec_sh (p := 41) qa_16 (by decide +kernel) (by decide +kernel)
theorem dL_law_1225 : decode cL_law 1225 = .ok (.laload, 1) := dec_sh (p := 42) qa_16 (by decide +kernel) (by decide +kernel)
theorem dL_law_1226 : decode cL_law 1226 = .ok (.iload 6, 2) := dec_sh (p := 43) qa_16 (by decide +kernel) (by decide +kernel)
theorem dL_law_1228 : decode cL_law 1228 = .ok (.i2l, 1) := dec_sh (p := 45) qa_16 (by decide +kernel) (by decide +kernel)
theorem dL_law_1229 : decode cL_law 1229 = .ok (.lcmp, 1) := dec_sh (p := 46) qa_16 (by decide +kernel) (by decide +kernel)
theorem dL_law_1230 : decode cL_law 1230 = .ok (.ifCond .eq 5, 3) := dec_sh (p := 47) qa_16 (by decide +kernel) (by decide +kernel)
theorem dL_law_1233 : decode cL_law 1233 = .ok (.iconst 0, 1) := dec_sh (p := 50) qa_16 (by decide +kernel) (by decide +kernel)
theorem dL_law_1234 : decode cL_law 1234 = .ok (.ireturn, 1) := dec_sh (p := 51) qa_16 (by decide +kernel) (by decide +kernel)
theorem dL_law_1235 : decode cL_law 1235 = .ok (.goto 3, 3) := dec_sh (p := 52) qa_16 (by decide +kernel) (by decide +kernel)
theorem dL_law_1238 : decode cL_law 1238 = .ok (.iinc 4 6, 3) := dec_sh (p := 55) qa_16 (by decide +kernel) (by decide +kernel)
theorem dL_law_1241 : decode cL_law 1241 = .ok (.goto (-1218), 3) := dec_sh (p := 58) qa_16 (by decide +kernel) (by decide +kernel)
theorem dL_law_1244 : decode cL_law 1244 = .ok (.iconst 1, 1) := dec_sh (p := 61) qa_16 (by decide +kernel) (by decide +kernel)
theorem dL_law_1245 : decode cL_law 1245 = .ok (.ireturn, 1) := dec_sh (p := 62) qa_16 (by decide +kernel) (by decide +kernel)
end
