/-! ===== methods that throw ===== -/
abbrev xIA : String := "java/lang/IllegalArgumentException"
abbrev xIO : String := "java/lang/IndexOutOfBoundsException"
abbrev xNS : String := "java/util/NoSuchElementException"
abbrev xUp : List String := ["java/lang/RuntimeException", "java/lang/Exception"]
/-- one cell of six slots is made -/
def thrw (I : Mem) : Mem := sI (sI I 30 0 0 (I 30 0 0 + 1)) 30 0 1 (I 30 0 1 + 6)
theorem thrw_0 (I : Mem) : thrw I 30 0 0 = I 30 0 0 + 1 := by
  unfold thrw
  rw [sI_ne (by decide), sI_self]
theorem thrw_1 (I : Mem) : thrw I 30 0 1 = I 30 0 1 + 6 := sI_self _ _ _ _ _
theorem thrw_o {I : Mem} {k i s : Nat} (h : k ≠ 30) : thrw I k i s = I k i s := by
  unfold thrw
  rw [sI_ne (fun q => h q.1), sI_ne (fun q => h q.1)]
theorem thrw_ent {Z : ZT} {gr : Nat → Nat} {I : Mem} {k i : Nat} (hi : i < ksz k) : ent Z gr (thrw I) k i = ent Z gr I k i := by
  have hk : k ≠ 30 := fun e => by rw [e] at hi; exact absurd hi (by simp [ksz])
  exact ent_congr (fun s => thrw_o hk) (fun _ => thrw_o (by decide)) (fun _ => thrw_o (by decide))
/-- the heap grows, the old cells stay -/
theorem HHA.more {Z : ZT} {gr : Nat → Nat} {I : Mem} {H H1 : Heap} (h : HHA Z gr I H) (hz : H.size ≤ H1.size) (hq : ∀ q : Nat, q < H.size → H1[q]? = H[q]?) : HHA Z gr I H1 := by
  obtain ⟨⟨h1, h2, h3⟩, h4, h5, h6⟩ := h
  refine ⟨⟨h1, Nat.le_trans h2 hz, fun q hq1 => by rw [hq q (Nat.lt_of_lt_of_le hq1 h2)]; exact h3 q hq1⟩, h4, h5, fun k i hi => (h6 k i hi).kept (hq _ (h6 k i hi).lt)⟩
/-- the words of a throw of class X, link ik, by the constructor at ic -/
def Thr (own X : String) (ik ic : Nat) : Prop :=
  (Bundle.fit X = true ∧ ∀ n ∈ xUp, Bundle.fit n = true) ∧ Cond.classLink own ik X ∈ lw_good ∧ Cond.initialized X ∈ lw_good ∧
  (∀ w ∈ (vx_at0 own ic X xUp).filter goodWord, w ∈ lw_good) ∧ (∀ w ∈ (vx_at0 own ic X xUp).filter (fun w => !goodWord w), w ∈ lw_nw) ∧
  ∀ w ∈ Cond.classLink own ik X :: Cond.initialized X :: vx_at0 own ic X xUp, vx_ot w = true
theorem thr_IA : Thr RX12 xIA 182 184 := ⟨by decide +kernel, li_5 187 (by decide +kernel) (by decide +kernel), li_1 25 (by decide +kernel) (by decide +kernel), by decide +kernel, by decide +kernel, by decide +kernel⟩
theorem thr_IO : Thr RX12 xIO 185 187 := ⟨by decide +kernel, li_6 18 (by decide +kernel) (by decide +kernel), li_1 26 (by decide +kernel) (by decide +kernel), by decide +kernel, by decide +kernel, by decide +kernel⟩
theorem thr_NS : Thr RX12 xNS 313 315 := ⟨by decide +kernel, li_6 200 (by decide +kernel) (by decide +kernel), li_1 29 (by decide +kernel) (by decide +kernel), by decide +kernel, by decide +kernel, by decide +kernel⟩
section THROW
variable {Z : ZT} {Y : YT} {I0 : Mem} {gr : Nat → Nat} {pc : Nat} {lv : List (Nat × Value)} {I : Mem} {α : Type} {κ : α → Mem → Option OT}
theorem wq_throw {E : String} {ik ic : Nat} {b : α} (hT : Thr Y.1.cls E ik ic) (hh : 6 ≤ Y.2.2.2.2) (hx : (xtb Y.1).isEmpty = true) (h : κ b (thrw I) = some (.inr E, thrw I))
    (d0 : decode Y.2.1 pc = .ok (.new ik, 3)) (d3 : decode Y.2.1 (pc + 3) = .ok (.dup, 1)) (d4 : decode Y.2.1 (pc + 4) = .ok (.invokespecial ic, 3)) (d7 : decode Y.2.1 (pc + 7) = .ok (.athrow, 1)) :
    WQ Z Y I0 gr pc lv [] I (ltI (thrw I) fun J => some (b, J)) κ := by
  intro o ho
  have ho : some o = some (.inr E, thrw I) := ho.symm.trans h
  cases ho
  have e0 := thrw_0 I
  have e1 := thrw_1 I
  refine ⟨⟨by show I 30 0 0 ≤ thrw I 30 0 0; omega, by show I 30 0 1 ≤ thrw I 30 0 1; omega⟩, fun X B hcl H locs ls hH hlo hl => ?_⟩
  obtain ⟨⟨hf1, hf2⟩, hw1, hw2, hw3, hw4, hw5⟩ := hT
  obtain ⟨I1, gr1, hH1⟩ := B.2.2.2.2.2.2.2.2.2.2
  have hS := B.2.2.2.2.2.1.2.2.2.2.2.2.2.2.1
  have hgd := fun w (hw : w ∈ lw_good) => B.2.2.2.2.1 w hw
  have hold : ∀ a : Nat, a < (zH Z).size → ¬ zN Z a → X.2.2.2.1.heap[a]? = (zH Z)[a]? := fun a ha hn => hH1.1.2.2 a (by rw [← hH1.1.1]; exact ha)
  have hdc : dC I0 I + 1 = dC I0 (thrw I) := by
    have := hcl.1
    unfold dC
    omega
  have hds : dS I0 I + 6 = dS I0 (thrw I) := by
    have := hcl.2
    unfold dS
    omega
  intro T hT XX
  have hfr := vx_frame (U := T) XX.same
  have hSS : va_S (zN Z) X.2.2.2.1.heap H locs := by
    rw [← hT]
    refine ⟨hfr.1, fun q hq hn => hfr.2 q hq (fun z hz e => hn (by rw [← e]; exact hlo z hz)), hlo⟩
  have hat : ∀ w ∈ vx_at0 Y.1.cls ic E xUp, w.before X.2.2.2.2.2.1 X.2.2.2.1 = true := by
    refine vx_hat (B := (vx_at0 Y.1.cls ic E xUp).filter (fun w => !goodWord w)) (fun w hw => hgd w (hw3 w hw)) (fun w hw => hw) (fun w hw => ?_)
    have hn := B.2.2.2.2.2.1.2.2.2.2.2.2.2.2.2.2 w (hw4 w hw)
    have hot := hw5 w (List.mem_cons_of_mem _ (List.mem_cons_of_mem _ (List.mem_filter.mp hw).1))
    have hng := (List.mem_filter.mp hw).2
    simp only [vx_ot, Bool.or_eq_true] at hot
    rcases hot with hot | hot
    · exact va_tabs hot rfl hn
    · rw [hot] at hng; cases hng
  refine vx_throw0 (A := zN Z) (names := xUp) B.1 B.2.1 B.2.2.2.2.2.2.2.2.1 B.2.2.2.1 hf1 hf2 (hgd _ hw1) (hgd _ hw2) hat hw5 (vx_Zq.kept hS.2.2.1 hold) (vx_Zq.kept hS.2.2.2.1 hold) hSS (hl.1.trans B.2.2.1.symm) d0 d3 d4 d7 (fun x hxm => ?_) ?_ ?_ ?_ ?_ B.2.2.2.2.2.2.2.1 (fun t _ hz hq => ⟨rfl, gr, ?_⟩) hlo ?_ ?_ T hT XX
  · rw [B.2.2.2.2.2.2.2.2.2.1, List.isEmpty_iff.mp hx] at hxm
    cases hxm
  · show 2 + 3 < Y.2.2.2.2
    omega
  · show 0 + (13 * (2 + 1) + 42) ≤ 35 * Y.2.2.2.2
    omega
  · show dC I0 I + 1 ≤ dC I0 (thrw I)
    omega
  · show dS I0 I + 6 ≤ dS I0 (thrw I)
    omega
  · show dC I0 I + 1 ≤ dC I0 (thrw I)
    omega
  · show dS I0 I + 6 ≤ dS I0 (thrw I)
    omega
  · have hm := HHA.more hH hz hq
    exact ⟨hm.1, hm.2.1, hm.2.2.1, fun k i hi => by rw [thrw_ent hi]; exact hm.2.2.2 k i hi⟩
end THROW
/-- method y throws an object of class E -/
def RunsT (Z : ZT) (y : MethodName) (cc : ByteArray) (maxL : Nat) (ret : Option FieldType) (h : Nat) (av : List Value) (I : Mem) (E : String) (J : Mem) : Prop :=
  cle I J ∧ ∀ l : Launch, l.stackTraces = false → vx_Met l y (wsAll y cc maxL ret) (rmH h (dC I J) (dS I J)) (Pcz Z av I) (fun _ _ _ _ => False) (fun E' _ t => E' = E ∧ HH Z J t.heap) (dC I J) (dS I J) (zN Z)
/-- an answer or a throw -/
def xo {β : Type} (rv : β → Option Value) : β ⊕ String → Option Value ⊕ String
  | .inl b => .inl (rv b)
  | .inr E => .inr E
def RX (Z : ZT) (y : MethodName) (cc : ByteArray) (maxL : Nat) (ret : Option FieldType) (h : Nat) (av : List Value) (I : Mem) {β : Type} (rv : β → Option Value) (f : Option ((β ⊕ String) × Mem)) : Prop :=
  (∀ (r : β) (J : Mem), f = some (.inl r, J) → Runs Z y cc maxL ret h av I (rv r, J)) ∧ ∀ (E : String) (J : Mem), f = some (.inr E, J) → RunsT Z y cc maxL ret h av I E J
theorem RX.of {Z : ZT} {I : Mem} {β : Type} {rv : β → Option Value} {f : Option ((β ⊕ String) × Mem)} {y : MethodName} {cc : ByteArray} {maxL h : Nat} {ret : Option FieldType} {av : List Value} (hy : (plainName y.cls && (xtb y).isEmpty) = true) (hlen : (lg_sl av).length ≤ maxL)
    (k : ∀ gr : Nat → Nat, WQ Z (y, cc, maxL, ret, h) I gr 0 (lv_args 0 av) [] I f (fun b K => some (xo rv b, K))) : RX Z y cc maxL ret h av I rv f := by
  refine ⟨fun r J hf => ?_, fun E J hf => ?_⟩
  · exact Runs.of (rv := rv) (f := some (r, J)) hy hlen rfl (fun gr o ho => k gr o (by rw [hf]; exact ho))
  · rw [Bool.and_eq_true] at hy
    have k := fun gr => k gr (.inr E, J) (by rw [hf]; rfl)
    refine ⟨(k (fun _ => 0)).1, fun l hfl => ?_⟩
    refine vx_ofW (cc := cc) (maxL := maxL) (ret := ret) hy.1 rfl ?_
    intro p e s m args below meth c s₁ B hml _ hv
    have htb := tab_nil (ws := wsAll y cc maxL ret) B List.mem_cons_self hy.2
    obtain ⟨rfl, ⟨gr, hH⟩, hKK⟩ := hv
    have hts : ∀ w ∈ lw_good, w.before av.toArray s = true := fun w hw => atoms_spec (ws := wsAll y cc maxL ret) B.pre w (List.mem_cons_of_mem _ hw)
    have hown := findClass_of_methodNamed B.named
    have hl := lv_entry av (n := maxL) hlen
    rw [lg_entry_eq]
    have hk := (k gr).2 (p, l, e, s, m, av.toArray, below, meth, c) ⟨B.exec, B.bytes, hml, hown, hts, hKK, B.returns, B.notSynchronized, hfl, htb, I, gr, hH⟩ (cle.refl I) s.heap [] _ hH (fun q hq => by cases hq) hl
    have e1 : dC I I = 0 := by unfold dC; omega
    have e2 : dS I I = 0 := by unfold dS; omega
    rw [e1, e2] at hk
    exact hk
