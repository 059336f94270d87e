/-! ===== calls, ends, entries, loops ===== -/
section CALLS
variable {Z : ZT} {Y : YT} {I0 : Mem} {gr : Nat → Nat} {pc : Nat} {lv : List (Nat × Value)} {st : List Value} {I : Mem} {α : Type} {e : Option (α × Mem)} {κ : α → Mem → Option OT}
theorem fb_Pcz {Z : ZT} {av : List Value} {I : Mem} : FrameBlind (Pcz Z av I) := fun a U g mk h => ⟨h.1, h.2.1, KK.same (s := U) (U := U.calling g mk a) rfl h.2.2⟩
theorem pc_at {Z : ZT} {X : XT} {Y : YT} (B : Bd Z X Y) {gr : Nat → Nat} {I : Mem} {H : Heap} {av : List Value} (hH : HHA Z gr I H) : ∀ U : State, U.heap = H → X.2.2.2.1.WarmedH U.vm → Pcz Z av I av.toArray U :=
  fun U hU hW => ⟨rfl, ⟨gr, by rw [hU]; exact hH⟩, B.2.2.2.2.2.1.warm hW⟩
/-- behind a call -/
theorem call_go {p : Program} {l : Launch} {e : Env} {R : Room} {s : State} {m : MethodId} {args : Array Value} {below : List Frame} {meth : Method} {c : Code} {H : Heap} {locs : List Loc} {cells slots mc ms : Nat} {Q : State → Prop} {pc : Nat} {ls : Array Slot} {rest st0 : List Value} {a : Array Value} {Z : ZT} {o1 : OV}
    (hr : va_Run p l e R s m args below meth c H locs cells slots mc ms (F0 m pc ls st0) rest (Qcz Z o1 a) (zN Z)) (hlo : ∀ q ∈ locs, zN Z q.base)
    (kk : ∀ (H1 : Heap) (locs1 : List Loc), HH Z o1.2 H1 → (∀ q ∈ locs1, zN Z q.base) → W p l e R s m args below meth c H1 locs1 (cells + mc) (slots + ms) Q (F0 m (pc + 3) ls (o1.1.toList ++ rest))) : W p l e R s m args below meth c H locs cells slots Q (F0 m pc ls st0) := by
  intro T hT X
  obtain ⟨v, st₀, t, T', L, h0, X', hL, e1, e2, ⟨hv, hh⟩, st⟩ := hr T hT X
  cases hv
  obtain ⟨t2, a1, b1⟩ := kk T'.heap (locs ++ L) (by rw [e1]; exact hh) (fun q hq => by
    rcases List.mem_append.mp hq with h | h
    · exact hlo q h
    · exact hL q h) T' rfl X'
  exact ⟨t2, st t2 a1, b1⟩
/-- a call's step, of any kind: from the road of the call itself -/
theorem WP.call {o : OT} {o1 : OV} {y' : MethodName} {cc' : ByteArray} {maxL' h' : Nat} {ret' : Option FieldType} {av rest : List Value} (hr : Runs Z y' cc' maxL' ret' h' av I o1)
    (h : ∀ X : XT, Bd Z X Y → ∀ (H : Heap) (locs : List Loc) (ls : Array Slot), HHA Z gr I H → ls.size = Y.2.2.1 → dC I0 I + dC I o1.2 ≤ dC I0 o.2 ∧ dS I0 I + dS I o1.2 ≤ dS I0 o.2 → va_Run X.1 X.2.1 X.2.2.1 (rmH Y.2.2.2.2 (dC I0 o.2) (dS I0 o.2)) X.2.2.2.1 X.2.2.2.2.1 X.2.2.2.2.2.1 X.2.2.2.2.2.2.1 X.2.2.2.2.2.2.2.1 X.2.2.2.2.2.2.2.2 H locs (dC I0 I) (dS I0 I) (dC I o1.2) (dS I o1.2) (F0 X.2.2.2.2.1 pc ls st) rest (Qcz Z o1 av.toArray) (zN Z))
    (k : ∀ gr' : Nat → Nat, WP Z Y I0 o gr' (pc + 3) lv (o1.1.toList ++ rest) o1.2) : WP Z Y I0 o gr pc lv st I := by
  have hc1 := hr.1
  have hc2 := (k gr).1
  refine ⟨hc1.trans hc2, fun X B hcl H locs ls hH hlo hl => ?_⟩
  have hle : dC I0 I + dC I o1.2 = dC I0 o1.2 ∧ dS I0 I + dS I o1.2 = dS I0 o1.2 := by
    unfold dC dS
    obtain ⟨q1, q2⟩ := hc1
    obtain ⟨q5, q6⟩ := hcl
    constructor <;> omega
  have hle2 : dC I0 o1.2 ≤ dC I0 o.2 ∧ dS I0 o1.2 ≤ dS I0 o.2 := by
    unfold dC dS
    obtain ⟨q1, q2⟩ := hc2
    constructor <;> omega
  refine call_go (h X B H locs ls hH hl.1 ⟨by rw [hle.1]; exact hle2.1, by rw [hle.2]; exact hle2.2⟩) hlo (fun H1 locs1 hH1 hlo1 => ?_)
  obtain ⟨gr', hH1⟩ := hH1
  have := (k gr').2 X B (hcl.trans hc1) H1 locs1 ls hH1 hlo1 hl
  rw [hle.1, hle.2]
  exact this
theorem room_ok {h h' maxL' : Nat} (hh : h' < h) (hm : maxL' ≤ 16) : h' + 1 ≤ h ∧ 8 + (maxL' + 11) + 35 * h' ≤ 35 * h := ⟨hh, by omega⟩
/-- invokevirtual of a method of its own class -/
theorem WP.callV {o : OT} {o1 : OV} {y' : MethodName} {cc' : ByteArray} {maxL' h' k i ci N index n a : Nat} {T : u_T} {ret' : Option FieldType} {fs As rest : List Value} (hr : Runs Z y' cc' maxL' ret' h' (.ref a :: As) I o1)
    (he : ent Z gr I k i = .inr (ci, fs)) (hi : i < ksz k) (ha : adG Z gr k i = a) (hc : cls[ci]? = some (y'.cls, T, N)) (hn : As.length = n) (hst : st = As.reverse ++ .ref a :: rest) (hh : h' < Y.2.2.2.2) (hm : maxL' ≤ 16) (hw : (rest.map fun v => v.category).sum ≤ 8)
    (hcode : Cond.code y' cc' maxL' ret' ∈ lw_good) (hlink : Cond.methodLink Y.1.cls index y' ∈ lw_good) (hinst : Cond.instanceMethod y' ∈ lw_good) (hsel : Cond.selects y'.cls y' y' ∈ lw_good) (hini : Cond.initialized y'.cls ∈ lw_good)
    (hd : y'.cls ≠ "java/lang/invoke/MethodHandle" ∧ y'.cls ≠ "java/lang/invoke/VarHandle" ∧ (parseMethodDescriptor y'.desc).map (fun d => d.parameters.length) = some n) (d : decode Y.2.1 pc = .ok (.invokevirtual index, 3))
    (k : ∀ gr' : Nat → Nat, WP Z Y I0 o gr' (pc + 3) lv (o1.1.toList ++ rest) o1.2) : WP Z Y I0 o gr pc lv st I := by
  refine WP.call hr (fun X B H locs ls hH hls hroom => ?_) k
  have hat := hH.at hi
  rw [he, ha] at hat
  have hrecv := va_recv (q0 := 0) B.2.2.2.2.2.1.1 (va_P1 hat) hc rfl
  have hG : GoodIn lw_good (wsV Y.1.cls index y'.cls y' (wsAll y' cc' maxL' ret')) := by
    intro w hw
    rcases List.mem_append.mp hw with hw | hw
    · have hm : w ∈ lw_good := by
        simp only [List.mem_cons, List.mem_nil_iff, or_false] at hw
        rcases hw with rfl | rfl | rfl | rfl <;> assumption
      exact ⟨hm, good_of_word (List.mem_filter.mp hm).2⟩
    · exact goodAll hcode w hw
  exact va_runV (cc := Y.2.1) (nL := Y.2.2.1) (Ts := lw_good) (own := Y.1.cls) (As := As) (n := n) ⟨B.1, B.2.1, B.2.2.1, B.2.2.2.1, B.2.2.2.2.1⟩ (hr.2 X.2.1 B.2.2.2.2.2.2.2.2.1) (cwV n B.2.2.2.2.1 hG rfl rfl rfl ⟨rfl, hd⟩ (room_ok hh hm)) ⟨fb_Pcz, hrecv, pc_at B hH⟩ rfl hn hls hst (lv_room hw) d hroom
/-- invokestatic, in the same class -/
theorem WP.callS {o : OT} {o1 : OV} {y' : MethodName} {cc' : ByteArray} {maxL' h' index n : Nat} {ret' : Option FieldType} {As rest : List Value} (hr : Runs Z y' cc' maxL' ret' h' As I o1)
    (hn : As.length = n) (hst : st = As.reverse ++ rest) (hh : h' < Y.2.2.2.2) (hm : maxL' ≤ 16) (hw : (rest.map fun v => v.category).sum ≤ 8)
    (hcode : Cond.code y' cc' maxL' ret' ∈ lw_good) (hlink : Cond.methodLink Y.1.cls index y' ∈ lw_good) (hstat : Cond.static y' ∈ lw_good) (hini : Cond.initialized Y.1.cls ∈ lw_good)
    (hd : y'.cls = Y.1.cls ∧ y'.cls ≠ "java/lang/invoke/MethodHandle" ∧ y'.cls ≠ "java/lang/invoke/VarHandle" ∧ (parseMethodDescriptor y'.desc).map (fun d => d.parameters.length) = some n) (d : decode Y.2.1 pc = .ok (.invokestatic index, 3))
    (k : ∀ gr' : Nat → Nat, WP Z Y I0 o gr' (pc + 3) lv (o1.1.toList ++ rest) o1.2) : WP Z Y I0 o gr pc lv st I := by
  refine WP.call hr (fun X B H locs ls hH hls hroom => ?_) k
  have hG : GoodIn lw_good (wsS Y.1.cls index y' (wsAll y' cc' maxL' ret')) := by
    intro w hw
    rcases List.mem_append.mp hw with hw | hw
    · have hm : w ∈ lw_good := by
        simp only [List.mem_cons, List.mem_nil_iff, or_false] at hw
        rcases hw with rfl | rfl | rfl <;> assumption
      exact ⟨hm, good_of_word (List.mem_filter.mp hm).2⟩
    · exact goodAll hcode w hw
  exact va_runS (cc := Y.2.1) (nL := Y.2.2.1) (Ts := lw_good) (own := Y.1.cls) (As := As) (n := n) ⟨B.1, B.2.1, B.2.2.1, B.2.2.2.1, B.2.2.2.2.1⟩ (hr.2 X.2.1 B.2.2.2.2.2.2.2.2.1) (cwS n B.2.2.2.2.1 hG rfl rfl rfl hd (room_ok hh hm)) ⟨fb_Pcz, pc_at B hH⟩ rfl hn hls hst (lv_room hw) d hroom
/-- invokestatic, of a nest mate's private method -/
theorem WP.callSN {o : OT} {o1 : OV} {y' : MethodName} {cc' : ByteArray} {maxL' h' index n : Nat} {host : String} {ret' : Option FieldType} {As rest : List Value} (hr : Runs Z y' cc' maxL' ret' h' As I o1)
    (hn : As.length = n) (hst : st = As.reverse ++ rest) (hh : h' < Y.2.2.2.2) (hm : maxL' ≤ 16) (hw : (rest.map fun v => v.category).sum ≤ 8)
    (hcode : Cond.code y' cc' maxL' ret' ∈ lw_good) (hlink : Cond.methodLinkNest Y.1.cls index y' host ∈ lw_nw) (hstat : Cond.static y' ∈ lw_good) (hini : Cond.initialized y'.cls ∈ lw_good)
    (hd : y'.cls ≠ "java/lang/invoke/MethodHandle" ∧ y'.cls ≠ "java/lang/invoke/VarHandle" ∧ (parseMethodDescriptor y'.desc).map (fun d => d.parameters.length) = some n) (d : decode Y.2.1 pc = .ok (.invokestatic index, 3))
    (k : ∀ gr' : Nat → Nat, WP Z Y I0 o gr' (pc + 3) lv (o1.1.toList ++ rest) o1.2) : WP Z Y I0 o gr pc lv st I := by
  refine WP.call hr (fun X B H locs ls hH hls hroom => ?_) k
  exact va_runSN (cc := Y.2.1) (nL := Y.2.2.1) (Ts := lw_good) (own := Y.1.cls) (host := host) (As := As) (n := n) ⟨B.1, B.2.1, B.2.2.1, B.2.2.2.1, B.2.2.2.2.1⟩ (hr.2 X.2.1 B.2.2.2.2.2.2.2.2.1)
    ⟨va_cnB n B.2.2.2.2.1 (goodAll hcode) rfl rfl rfl (B.2.2.2.2.2.1.2.2.2.2.2.2.2.2.2.2 _ hlink) (B.2.2.2.2.1 _ hini) hd (room_ok hh hm), B.2.2.2.2.1 _ hstat, trivial⟩ ⟨fb_Pcz, pc_at B hH⟩ rfl hn hls hst (lv_room hw) d hroom
/-- the words of a method that is called: its code, instance, its class -/
def MwV (y' : MethodName) (cc' : ByteArray) (maxL' : Nat) (ret' : Option FieldType) (n : Nat) : Prop :=
  Cond.code y' cc' maxL' ret' ∈ lw_good ∧ Cond.instanceMethod y' ∈ lw_good ∧ Cond.selects y'.cls y' y' ∈ lw_good ∧ Cond.initialized y'.cls ∈ lw_good ∧ (y'.cls ≠ "java/lang/invoke/MethodHandle" ∧ y'.cls ≠ "java/lang/invoke/VarHandle" ∧ (parseMethodDescriptor y'.desc).map (fun d => d.parameters.length) = some n)
def MwS (y' : MethodName) (cc' : ByteArray) (maxL' : Nat) (ret' : Option FieldType) (n : Nat) : Prop :=
  Cond.code y' cc' maxL' ret' ∈ lw_good ∧ Cond.static y' ∈ lw_good ∧ Cond.initialized y'.cls ∈ lw_good ∧ (y'.cls ≠ "java/lang/invoke/MethodHandle" ∧ y'.cls ≠ "java/lang/invoke/VarHandle" ∧ (parseMethodDescriptor y'.desc).map (fun d => d.parameters.length) = some n)
theorem wq_callV {β : Type} {rv : β → Option Value} {f : Option (β × Mem)} {K : β → Mem → Option (α × Mem)} {y' : MethodName} {cc' : ByteArray} {maxL' h' k i ci N index n a : Nat} {T : u_T} {ret' : Option FieldType} {fs As rest : List Value} (hM : MwV y' cc' maxL' ret' n) (hr : ∀ (r : β) (J : Mem), f = some (r, J) → Runs Z y' cc' maxL' ret' h' (.ref a :: As) I (rv r, J))
    (he : ent Z gr I k i = .inr (ci, fs)) (hi : i < ksz k) (ha : adG Z gr k i = a) (hc : cls[ci]? = some (y'.cls, T, N)) (hn : As.length = n) (hst : st = As.reverse ++ .ref a :: rest) (hh : h' < Y.2.2.2.2) (hm : maxL' ≤ 16) (hw : (rest.map fun v => v.category).sum ≤ 8)
    (hlink : Cond.methodLink Y.1.cls index y' ∈ lw_good) (d : decode Y.2.1 pc = .ok (.invokevirtual index, 3))
    (kk : ∀ (gr' : Nat → Nat) (r : β) (J : Mem), WQ Z Y I0 gr' (pc + 3) lv ((rv r).toList ++ rest) J (K r J) κ) : WQ Z Y I0 gr pc lv st I (bnd f K) κ := by
  intro o ho
  cases hf : f with
  | none => rw [hf] at ho; cases ho
  | some q =>
    obtain ⟨r, J⟩ := q
    rw [hf] at ho
    exact WP.callV (hr r J hf) he hi ha hc hn hst hh hm hw hM.1 hlink hM.2.1 hM.2.2.1 hM.2.2.2.1 hM.2.2.2.2 d (fun gr' => kk gr' r J o ho)
theorem wq_callS {β : Type} {rv : β → Option Value} {f : Option (β × Mem)} {K : β → Mem → Option (α × Mem)} {y' : MethodName} {cc' : ByteArray} {maxL' h' index n : Nat} {ret' : Option FieldType} {As rest : List Value} (hM : MwS y' cc' maxL' ret' n) (hr : ∀ (r : β) (J : Mem), f = some (r, J) → Runs Z y' cc' maxL' ret' h' As I (rv r, J))
    (hcl : y'.cls = Y.1.cls) (hn : As.length = n) (hst : st = As.reverse ++ rest) (hh : h' < Y.2.2.2.2) (hm : maxL' ≤ 16) (hw : (rest.map fun v => v.category).sum ≤ 8)
    (hlink : Cond.methodLink Y.1.cls index y' ∈ lw_good) (d : decode Y.2.1 pc = .ok (.invokestatic index, 3))
    (kk : ∀ (gr' : Nat → Nat) (r : β) (J : Mem), WQ Z Y I0 gr' (pc + 3) lv ((rv r).toList ++ rest) J (K r J) κ) : WQ Z Y I0 gr pc lv st I (bnd f K) κ := by
  intro o ho
  cases hf : f with
  | none => rw [hf] at ho; cases ho
  | some q =>
    obtain ⟨r, J⟩ := q
    rw [hf] at ho
    exact WP.callS (hr r J hf) hn hst hh hm hw hM.1 hlink hM.2.1 (by rw [← hcl]; exact hM.2.2.1) ⟨hcl, hM.2.2.2⟩ d (fun gr' => kk gr' r J o ho)
theorem wq_callSN {β : Type} {rv : β → Option Value} {f : Option (β × Mem)} {K : β → Mem → Option (α × Mem)} {y' : MethodName} {cc' : ByteArray} {maxL' h' index n : Nat} {host : String} {ret' : Option FieldType} {As rest : List Value} (hM : MwS y' cc' maxL' ret' n) (hr : ∀ (r : β) (J : Mem), f = some (r, J) → Runs Z y' cc' maxL' ret' h' As I (rv r, J))
    (hn : As.length = n) (hst : st = As.reverse ++ rest) (hh : h' < Y.2.2.2.2) (hm : maxL' ≤ 16) (hw : (rest.map fun v => v.category).sum ≤ 8)
    (hlink : Cond.methodLinkNest Y.1.cls index y' host ∈ lw_nw) (d : decode Y.2.1 pc = .ok (.invokestatic index, 3))
    (kk : ∀ (gr' : Nat → Nat) (r : β) (J : Mem), WQ Z Y I0 gr' (pc + 3) lv ((rv r).toList ++ rest) J (K r J) κ) : WQ Z Y I0 gr pc lv st I (bnd f K) κ := by
  intro o ho
  cases hf : f with
  | none => rw [hf] at ho; cases ho
  | some q =>
    obtain ⟨r, J⟩ := q
    rw [hf] at ho
    exact WP.callSN (hr r J hf) hn hst hh hm hw hM.1 hlink hM.2.1 hM.2.2.1 hM.2.2.2 d (fun gr' => kk gr' r J o ho)
/-! ends: what the method answers -/
theorem wq_iret {x : Int} {b : α} (hr : Y.2.2.2.1 = some .int) (h : κ b I = some (.inl (some (vi x)), I)) (d : decode Y.2.1 pc = .ok (.ireturn, 1)) : WQ Z Y I0 gr pc lv [vi x] I (some (b, I)) κ := by
  intro o ho
  have ho : some o = some (.inl (some (vi x)), I) := ho.symm.trans h
  cases ho
  refine ⟨cle.refl I, fun X B hcl H locs ls hH hlo hl => ?_⟩
  exact W.iret (hlocks := B.2.2.2.2.2.2.2.1) B.1 B.2.1 (B.2.2.2.2.2.2.1.trans hr) (fun t ht _ => ⟨rfl, gr, by rw [ht]; exact hH⟩) hlo d
theorem wq_zret {x : Int} {b : α} (hr : Y.2.2.2.1 = some .boolean) (hx : x = 0 ∨ x = 1) (h : κ b I = some (.inl (some (vi x)), I)) (d : decode Y.2.1 pc = .ok (.ireturn, 1)) : WQ Z Y I0 gr pc lv [vi x] I (some (b, I)) κ := by
  intro o ho
  have ho : some o = some (.inl (some (vi x)), I) := ho.symm.trans h
  cases ho
  refine ⟨cle.refl I, fun X B hcl H locs ls hH hlo hl => ?_⟩
  exact W.zret (hlocks := B.2.2.2.2.2.2.2.1) B.1 B.2.1 (B.2.2.2.2.2.2.1.trans hr) (by rcases hx with rfl | rfl <;> rfl) (fun t ht _ => ⟨rfl, gr, by rw [ht]; exact hH⟩) hlo d
theorem wq_vret {b : α} (hr : Y.2.2.2.1 = none) (h : κ b I = some (.inl none, I)) (d : decode Y.2.1 pc = .ok (.return_, 1)) : WQ Z Y I0 gr pc lv [] I (some (b, I)) κ := by
  intro o ho
  have ho : some o = some (.inl none, I) := ho.symm.trans h
  cases ho
  refine ⟨cle.refl I, fun X B hcl H locs ls hH hlo hl => ?_⟩
  exact W.vret (hlocks := B.2.2.2.2.2.2.2.1) B.1 B.2.1 (B.2.2.2.2.2.2.1.trans hr) (fun t ht _ => ⟨rfl, gr, by rw [ht]; exact hH⟩) hlo d
theorem wq_aret {a : Nat} {b : α} {rt : FieldType} (hr : Y.2.2.2.1 = some rt) (hrt : (∃ n, rt = .object n) ∨ ∃ t, rt = .array t) (h : κ b I = some (.inl (some (.ref a)), I)) (d : decode Y.2.1 pc = .ok (.areturn, 1)) : WQ Z Y I0 gr pc lv [.ref a] I (some (b, I)) κ := by
  intro o ho
  have ho : some o = some (.inl (some (.ref a)), I) := ho.symm.trans h
  cases ho
  refine ⟨cle.refl I, fun X B hcl H locs ls hH hlo hl => ?_⟩
  exact W.aret (hlocks := B.2.2.2.2.2.2.2.1) B.1 B.2.1 (B.2.2.2.2.2.2.1.trans hr) hrt (Or.inr ⟨_, rfl⟩) (fun t ht _ => ⟨rfl, gr, by rw [ht]; exact hH⟩) hlo d
/-- a plain method has no handlers -/
theorem tab_nil {p : Program} {l : Launch} {e : Env} {s : State} {m : MethodId} {args : Array Value} {below : List Frame} {meth : Method} {c : Code} {s₁ : State} {y : MethodName} {ws : List Cond} {rm : Room} {cc : ByteArray} {maxL : Nat} {ret : Option FieldType} (B : BodyLoose p l y (headSpec ws rm) cc maxL ret e s m args below meth c s₁) (hw : Cond.code y cc maxL ret ∈ ws) (hy : (xtb y).isEmpty = true) : c.exceptionTable.toList = tableOf (xtb y) := by
  obtain ⟨meth9, c9, h1, h2, -, -, -, -, h7, -⟩ := Cond.code_spec B.named (atoms_spec (ws := ws) B.pre _ hw)
  cases Option.some.inj (h1.symm.trans B.method)
  cases Option.some.inj (h2.symm.trans (Stand.of_body B).code)
  rw [Array.isEmpty_iff.mp h7, List.isEmpty_iff.mp hy]
  rfl
/-- a method's entry -/
theorem Runs.of {β : Type} {rv : β → Option Value} {r : β} {J : Mem} {f : Option (β × Mem)} {y : MethodName} {cc : ByteArray} {maxL h : Nat} {ret : Option FieldType} {av : List Value} (hy : (plainName y.cls && (xtb y).isEmpty) = true) (hlen : (lg_sl av).length ≤ maxL) (hf : f = some (r, J))
    (k : ∀ gr : Nat → Nat, WQ Z (y, cc, maxL, ret, h) I gr 0 (lv_args 0 av) [] I f (fun b K => some (.inl (rv b), K))) : Runs Z y cc maxL ret h av I (rv r, J) := by
  have k := fun gr => k gr (.inl (rv r), J) (by rw [hf]; rfl)
  refine ⟨(k (fun _ => 0)).1, fun l hfl => ?_⟩
  rw [Bool.and_eq_true] at hy
  refine Met.ofW (cc := cc) (maxL := maxL) (ret := ret) hy.1 rfl ?_
  intro p e s m args below meth c s₁ B hml hv
  have htb := tab_nil (ws := wsAll y cc maxL ret) B List.mem_cons_self hy.2
  obtain ⟨rfl, ⟨gr, hH⟩, hKK⟩ := hv
  have hts : ∀ w ∈ lw_good, w.before av.toArray s = true := fun w hw => atoms_spec (ws := wsAll y cc maxL ret) B.pre w (List.mem_cons_of_mem _ hw)
  have hown := findClass_of_methodNamed B.named
  have hl := lv_entry av (n := maxL) hlen
  rw [lg_entry_eq]
  have hk := (k gr).2 (p, l, e, s, m, av.toArray, below, meth, c) ⟨B.exec, B.bytes, hml, hown, hts, hKK, B.returns, B.notSynchronized, hfl, htb, I, gr, hH⟩ (cle.refl I) s.heap [] _ hH (fun q hq => by cases hq) hl
  have e1 : dC I I = 0 := by unfold dC; omega
  have e2 : dS I I = 0 := by unfold dS; omega
  rw [e1, e2] at hk
  exact hk
end CALLS
/-! ===== loops ===== -/
/-- n turns at most -/
def whN {σ ρ : Type} (step : σ → Mem → Option ((σ ⊕ ρ) × Mem)) : Nat → σ → Mem → Option (ρ × Mem)
  | 0, _, _ => none
  | n + 1, s, I => match step s I with
    | none => none
    | some (.inl s', J) => whN step n s' J
    | some (.inr r, J) => some (r, J)
theorem whN_up {σ ρ : Type} {step : σ → Mem → Option ((σ ⊕ ρ) × Mem)} : ∀ {n : Nat} {s : σ} {I : Mem} {q : ρ × Mem}, whN step n s I = some q → ∀ m : Nat, n ≤ m → whN step m s I = some q := by
  intro n
  induction n with
  | zero => intro s I q h; cases h
  | succ n ih =>
    intro s I q h m hm
    obtain ⟨m, rfl⟩ : ∃ k, m = k + 1 := ⟨m - 1, by omega⟩
    unfold whN at h ⊢
    cases hs : step s I with
    | none => rw [hs] at h; cases h
    | some x =>
      obtain ⟨x, J⟩ := x
      rw [hs] at h
      cases x with
      | inl s' => exact ih h m (by omega)
      | inr r => exact h
/-- the loop: what it ends with, if it ends -/
noncomputable def whl {σ ρ : Type} (step : σ → Mem → Option ((σ ⊕ ρ) × Mem)) (s : σ) (I : Mem) : Option (ρ × Mem) :=
  @dite _ (∃ (n : Nat) (q : ρ × Mem), whN step n s I = some q) (Classical.propDecidable _) (fun h => whN step h.choose s I) (fun _ => none)
theorem whl_iff {σ ρ : Type} {step : σ → Mem → Option ((σ ⊕ ρ) × Mem)} {s : σ} {I : Mem} {q : ρ × Mem} : whl step s I = some q ↔ ∃ n : Nat, whN step n s I = some q := by
  constructor
  · intro h
    unfold whl at h
    split at h
    · exact ⟨_, h⟩
    · cases h
  · rintro ⟨n, hn⟩
    unfold whl
    have hex : ∃ (n : Nat) (q : ρ × Mem), whN step n s I = some q := ⟨n, q, hn⟩
    rw [dif_pos hex]
    obtain ⟨q', hq'⟩ := hex.choose_spec
    have a1 := whN_up hn (n + hex.choose) (by omega)
    have a2 := whN_up hq' (n + hex.choose) (by omega)
    rw [hq', ← a2, a1]
/-- one turn -/
theorem whl_eq {σ ρ : Type} (step : σ → Mem → Option ((σ ⊕ ρ) × Mem)) (s : σ) (I : Mem) : whl step s I = match step s I with
    | none => none
    | some (.inl s', J) => whl step s' J
    | some (.inr r, J) => some (r, J) := by
  have key : ∀ q : ρ × Mem, whl step s I = some q ↔ (match step s I with
    | none => none
    | some (.inl s', J) => whl step s' J
    | some (.inr r, J) => some (r, J)) = some q := by
    intro q
    rw [whl_iff]
    cases hs : step s I with
    | none =>
      constructor
      · rintro ⟨n, hn⟩
        cases n with
        | zero => cases hn
        | succ n => unfold whN at hn; rw [hs] at hn; cases hn
      · intro h; cases h
    | some x =>
      obtain ⟨x, J⟩ := x
      cases x with
      | inl s' =>
        show _ ↔ whl step s' J = some q
        rw [whl_iff]
        constructor
        · rintro ⟨n, hn⟩
          cases n with
          | zero => cases hn
          | succ n => unfold whN at hn; rw [hs] at hn; exact ⟨n, hn⟩
        · rintro ⟨n, hn⟩
          refine ⟨n + 1, ?_⟩
          unfold whN
          rw [hs]
          exact hn
      | inr r =>
        show _ ↔ some (r, J) = some q
        constructor
        · rintro ⟨n, hn⟩
          cases n with
          | zero => cases hn
          | succ n => unfold whN at hn; rw [hs] at hn; exact hn
        · intro h
          refine ⟨1, ?_⟩
          unfold whN
          rw [hs]
          exact h
  exact Option.ext (fun q => key q)
section LOOPS
variable {Z : ZT} {Y : YT} {I0 : Mem} {pc : Nat} {lv : List (Nat × Value)} {I : Mem}
/-- a loop, at its head: the locals are a picture of what it carries -/
theorem wq_loop {σ ρ : Type} {step : σ → Mem → Option ((σ ⊕ ρ) × Mem)} {κ : ρ → Mem → Option OT} (lvf : σ → List (Nat × Value))
    (hb : ∀ κ2 : σ ⊕ ρ → Mem → Option OT, (∀ (gr : Nat → Nat) (s : σ) (J : Mem), WQ Z Y I0 gr pc (lvf s) [] J (some (.inl s, J)) κ2) → (∀ (r : ρ) (J : Mem), κ2 (.inr r) J = κ r J) → ∀ (gr : Nat → Nat) (s : σ) (J : Mem), WQ Z Y I0 gr pc (lvf s) [] J (step s J) κ2) (gr : Nat → Nat) (s : σ) (h : lvf s = lv) : WQ Z Y I0 gr pc lv [] I (whl step s I) κ := by
  subst h
  have key : ∀ (n : Nat) (gr : Nat → Nat) (s : σ) (J : Mem) (q : ρ × Mem) (o : OT), whN step n s J = some q → κ q.1 q.2 = some o → WP Z Y I0 o gr pc (lvf s) [] J := by
    intro n
    induction n with
    | zero => intro gr s J q o h; cases h
    | succ n ih =>
      intro gr s J q o h ho
      have hb' := hb (fun x K => match x with
        | .inl s' => (match whN step n s' K with
          | none => none
          | some q => κ q.1 q.2)
        | .inr r => κ r K) ?_ (fun _ _ => rfl) gr s J o ?_
      · exact hb'
      · intro gr' s' K o' ho'
        cases hw : whN step n s' K with
        | none =>
          have : (match whN step n s' K with
            | none => none
            | some q => κ q.1 q.2) = some o' := ho'
          rw [hw] at this; cases this
        | some q' =>
          have : (match whN step n s' K with
            | none => none
            | some q => κ q.1 q.2) = some o' := ho'
          rw [hw] at this
          exact ih gr' s' K q' o' hw this
      · unfold whN at h
        cases hs : step s J with
        | none => rw [hs] at h; cases h
        | some x =>
          obtain ⟨x, K⟩ := x
          rw [hs] at h
          cases x with
          | inl s' =>
            have h : whN step n s' K = some q := h
            show (match whN step n s' K with
            | none => none
            | some q => κ q.1 q.2) = some o
            rw [h]; exact ho
          | inr r =>
            have h : some (r, K) = some q := h
            cases h
            exact ho
  intro o ho
  cases hw : whl step s I with
  | none => rw [hw] at ho; cases ho
  | some q =>
    rw [hw] at ho
    obtain ⟨n, hn⟩ := whl_iff.mp hw
    exact key n gr s I q o hn ho
end LOOPS
