/-! ===== methods with handlers ===== -/
abbrev wsH (y : MethodName) (cc : ByteArray) (maxL : Nat) (ret : Option FieldType) : List Cond := Cond.codeWith y cc maxL ret (xtb y) :: lw_good
def RunsH (Z : ZT) (y : MethodName) (cc : ByteArray) (maxL : Nat) (ret : Option FieldType) (h : Nat) (av : List Value) (I : Mem) (o : OV) : Prop :=
  cle I o.2 ∧ ∀ l : Launch, l.stackTraces = false → Met l y (wsH y cc maxL ret) (rmH h (dC I o.2) (dS I o.2)) (Pcz Z av I) (Qcz Z o) (dC I o.2) (dS I o.2) (zN Z)
theorem Met_ofWH {l : Launch} {y : MethodName} {ws ws' : List Cond} {rm : Room} {Pc : Array Value → State → Prop} {Qc : Array Value → State → Outcome → State → Prop} {mc ms : Nat} {free : Addr → Prop} {cc : ByteArray} {maxL : Nat} {ret : Option FieldType} {hh : List (Nat × Nat × Nat × Nat)}
    (hy : plainName y.cls = true) (hw : ws = Cond.codeWith y cc maxL ret hh :: ws')
    (body : ∀ p e s m args below meth c s₁, BodyLoose p l y (headSpec ws rm) cc maxL ret e s m args below meth c s₁ → c.maxLocals = maxL → Pc args s →
      W p l e (headSpec ws rm).room s m args below meth c s.heap [] 0 0 (MQ below Qc args s mc ms free) (entryFrame m args maxL)) : Met l y ws rm Pc Qc mc ms free := by
  refine MetFree.of_bodyS (code := cc) (maxLocals := maxL) (ret := ret) hy ?_ ?_
  · intro args s m h hn
    obtain ⟨m9, meth, c, hn9, h1, h2, h3, h4, -, h5, h6, -⟩ := Cond.codeWith_spec (atoms_spec (ws := ws) h _ (by rw [hw]; exact List.mem_cons_self))
    cases hn.symm.trans hn9
    exact ⟨meth, c, h1, h2, h3, h4, h5, h6⟩
  · intro p e s m args below meth c s₁ B hml hP _
    have hh0 : s₁.heap = s.heap := by rw [B.state]; rfl
    obtain ⟨t, a1, o, b1, b2, b3, b4⟩ := body p e s m args below meth c s₁ B hml hP s₁ hh0 (Stand.of_body B)
    exact ⟨t, o, a1, b1, b2, b3, b4⟩
theorem RunsH.of {Z : ZT} {I : Mem} {β : Type} {rv : β → Option Value} {r : β} {J : Mem} {f : Option (β × Mem)} {y : MethodName} {cc : ByteArray} {maxL h : Nat} {ret : Option FieldType} {av : List Value} (hy : plainName y.cls = true) (hlen : (lg_sl av).length ≤ maxL) (hf : f = some (r, J))
    (k : ∀ gr : Nat → Nat, WQ Z (y, cc, maxL, ret, h) I gr 0 (lv_args 0 av) [] I f (fun b K => some (.inl (rv b), K))) : RunsH Z y cc maxL ret h av I (rv r, J) := by
  have k := fun gr => k gr (.inl (rv r), J) (by rw [hf]; rfl)
  refine ⟨(k (fun _ => 0)).1, fun l hfl => ?_⟩
  refine Met_ofWH (cc := cc) (maxL := maxL) (ret := ret) hy rfl ?_
  intro p e s m args below meth c s₁ B hml hv
  obtain ⟨rfl, ⟨gr, hH⟩, hKK⟩ := hv
  have hpre := atoms_spec (ws := wsH y cc maxL ret) B.pre
  have htb := vx_table (x := y) B (hpre _ List.mem_cons_self)
  have hts : ∀ w ∈ lw_good, w.before av.toArray s = true := fun w hw => hpre w (List.mem_cons_of_mem _ hw)
  have hown := findClass_of_methodNamed B.named
  have hl := lv_entry av (n := maxL) hlen
  rw [lg_entry_eq]
  have hk := (k gr).2 (p, l, e, s, m, av.toArray, below, meth, c) ⟨B.exec, B.bytes, hml, hown, hts, hKK, B.returns, B.notSynchronized, hfl, htb, I, gr, hH⟩ (cle.refl I) s.heap [] _ hH (fun q hq => by cases hq) hl
  have e1 : dC I I = 0 := by unfold dC; omega
  have e2 : dS I I = 0 := by unfold dS; omega
  rw [e1, e2] at hk
  exact hk
/-- a call's answer, or what it throws -/
def bndX {β γ : Type} (f : Option ((β ⊕ String) × Mem)) (K : β → Mem → Option (γ × Mem)) (KX : String → Mem → Option (γ × Mem)) : Option (γ × Mem) := match f with
  | none => none
  | some (.inl r, J) => K r J
  | some (.inr E, J) => KX E J
abbrev xte (z : Nat × Nat × Nat × Nat) : ExceptionTableEntry := ⟨z.1, z.2.1, z.2.2.1, z.2.2.2⟩
/-- where an object of class E that is thrown at pc goes -/
def Hnd (Y : YT) (pc : Nat) (E : String) (tgt : Nat) : Prop := ∃ (pre : List (Nat × Nat × Nat × Nat)) (x : Nat × Nat × Nat × Nat) (suf : List (Nat × Nat × Nat × Nat)), xtb Y.1 = pre ++ x :: suf ∧
  (∀ z ∈ pre, z.2.2.2 ≠ 0 ∧ ∃ nm : String, Cond.classLink Y.1.cls z.2.2.2 nm ∈ lw_good ∧ (E, nm) ∈ wNot) ∧ covers (xte x) pc = true ∧ x.2.2.1 = tgt ∧ x.2.2.2 ≠ 0 ∧ Cond.classLink Y.1.cls x.2.2.2 E ∈ lw_good ∧ Cond.castable E E ∈ lw_nw
theorem hx_IA : Cond.classLink "PairRulesLaw" 13 xIA ∈ lw_good := li_5 137 (by decide +kernel) (by decide +kernel)
theorem hx_IO : Cond.classLink "PairRulesLaw" 19 xIO ∈ lw_good := li_6 13 (by decide +kernel) (by decide +kernel)
theorem hx_NS : Cond.classLink "PairRulesLaw" 80 xNS ∈ lw_good := li_6 195 (by decide +kernel) (by decide +kernel)
theorem hc_IA : Cond.castable xIA xIA ∈ lw_nw := nw_in 1286 (by decide +kernel) (by decide +kernel)
theorem hc_IO : Cond.castable xIO xIO ∈ lw_nw := nw_in 1357 (by decide +kernel) (by decide +kernel)
theorem hc_NS : Cond.castable xNS xNS ∈ lw_nw := nw_in 1539 (by decide +kernel) (by decide +kernel)
/-- where what is thrown at pc goes on -/
def HX (Z : ZT) (Y : YT) (I0 : Mem) (pc : Nat) (lv : List (Nat × Value)) (E : String) (J : Mem) {α : Type} (κ : α → Mem → Option OT) (e : Option (α × Mem)) : Prop :=
  ∀ o : OT, bnd e κ = some o → ∃ tgt : Nat, Hnd Y pc E tgt ∧ ∀ (gr' : Nat → Nat) (q : Nat), WP Z Y I0 o gr' tgt lv [.ref q] J
theorem HX.none {Z : ZT} {Y : YT} {I0 : Mem} {pc : Nat} {lv : List (Nat × Value)} {E : String} {J : Mem} {α : Type} {κ : α → Mem → Option OT} : HX Z Y I0 pc lv E J κ Option.none := fun o ho => by cases ho
theorem HX.here {Z : ZT} {Y : YT} {I0 : Mem} {pc : Nat} {lv : List (Nat × Value)} {E E0 : String} {J : Mem} {α : Type} {κ : α → Mem → Option OT} {e1 e2 : Option (α × Mem)} {tgt : Nat} (hn : Hnd Y pc E0 tgt) (k : ∀ (gr' : Nat → Nat) (q : Nat), WQ Z Y I0 gr' tgt lv [.ref q] J e1 κ) (k2 : HX Z Y I0 pc lv E J κ e2) : HX Z Y I0 pc lv E J κ (if E = E0 then e1 else e2) := by
  intro o ho
  by_cases hE : E = E0
  · rw [if_pos hE] at ho
    exact ⟨tgt, by rw [hE]; exact hn, fun gr' q => k gr' q o ho⟩
  · rw [if_neg hE] at ho
    exact k2 o ho
section HAND
variable {Z : ZT} {Y : YT} {I0 : Mem} {gr : Nat → Nat} {pc : Nat} {lv : List (Nat × Value)} {st : List Value} {I : Mem} {α : Type} {e : Option (α × Mem)} {κ : α → Mem → Option OT}
theorem wq_callX {β : Type} {rv : β → Option Value} {f : Option ((β ⊕ String) × Mem)} {K : β → Mem → Option (α × Mem)} {KX : String → Mem → Option (α × Mem)} {y' : MethodName} {cc' : ByteArray} {maxL' h' index n a : Nat} {ret' : Option FieldType} {As rest : List Value} (hM : MwV y' cc' maxL' ret' n) (hr : RX Z y' cc' maxL' ret' h' (.ref a :: As) I rv f)
    (hO : Ob Z gr I a y'.cls) (hn : As.length = n) (hst : st = As.reverse ++ .ref a :: rest) (hh : h' < Y.2.2.2.2) (hm : maxL' ≤ 16) (hw : (rest.map fun v => v.category).sum ≤ 8)
    (hlink : Cond.methodLink Y.1.cls index y' ∈ lw_good) (d : decode Y.2.1 pc = .ok (.invokevirtual index, 3))
    (kk : ∀ (gr' : Nat → Nat) (r : β) (J : Mem), WQ Z Y I0 gr' (pc + 3) lv ((rv r).toList ++ rest) J (K r J) κ)
    (kx : ∀ (E : String) (J : Mem), HX Z Y I0 pc lv E J κ (KX E J)) : WQ Z Y I0 gr pc lv st I (bndX f K KX) κ := by
  intro o ho
  match f, hr, ho with
  | none, _, ho => cases ho
  | some (.inl r, J), hr, ho => exact wq_cV (rv := rv) (f := some (r, J)) (K := K) hM (fun r' J' h => by cases h; exact hr.1 r J rfl) hO hn hst hh hm hw hlink d (fun gr' r' J' => kk gr' r' J') o ho
  | some (.inr E, J), hr, ho =>
    obtain ⟨hcode, hinst, hsel, hini, hd⟩ := hM
    obtain ⟨tgt, ⟨pre, x, suf, hs, hp, hcv, htg, h0, hlx, hcx⟩, kx⟩ := kx E J o ho
    have RT := hr.2 E J rfl
    have hc1 := RT.1
    have hc2 := (kx gr 0).1
    refine ⟨hc1.trans hc2, fun X B hcl H locs ls hH hlo hl => ?_⟩
    have hle : dC I0 I + dC I J = dC I0 J ∧ dS I0 I + dS I J = dS I0 J := by
      unfold dC dS
      obtain ⟨q1, q2⟩ := hc1
      obtain ⟨q5, q6⟩ := hcl
      constructor <;> omega
    have hle2 : dC I0 J ≤ dC I0 o.2 ∧ dS I0 J ≤ dS I0 o.2 := by
      unfold dC dS
      obtain ⟨q1, q2⟩ := hc2
      constructor <;> omega
    obtain ⟨k, i, ci, N, T0, fs, he, hi, ha, hc⟩ := hO
    have hat := hH.at hi
    rw [he, ha] at hat
    have hrecv := va_recv (q0 := 0) B.2.2.2.2.2.1.1 (va_P1 hat) hc rfl
    have hG : GoodIn lw_good (wsV Y.1.cls index y'.cls y' (wsAll y' cc' maxL' ret')) := by
      intro w hw
      rcases List.mem_append.mp hw with hw | hw
      · have hm : w ∈ lw_good := by
          simp only [List.mem_cons, List.mem_nil_iff, or_false] at hw
          rcases hw with rfl | rfl | rfl | rfl <;> assumption
        exact ⟨hm, good_of_word (List.mem_filter.mp hm).2⟩
      · exact goodAll hcode w hw
    have run := vx_runV (cc := Y.2.1) (nL := Y.2.2.1) (Ts := lw_good) (own := Y.1.cls) (As := As) (n := n) (cells := dC I0 I) (slots := dS I0 I) (rest := rest) ⟨B.1, B.2.1, B.2.2.1, B.2.2.2.1, B.2.2.2.2.1⟩ (RT.2 X.2.1 B.2.2.2.2.2.2.2.2.1) (cwV (R := rmH Y.2.2.2.2 (dC I0 o.2) (dS I0 o.2)) n B.2.2.2.2.1 hG rfl rfl rfl ⟨rfl, hd⟩ (room_ok hh hm)) ⟨fb_Pcz, hrecv, pc_at B hH⟩ (g := F0 X.2.2.2.2.1 pc ls st) (locs := locs) (e := X.2.2.1) (below := X.2.2.2.2.2.2.1) (meth := X.2.2.2.2.2.2.2.1) (c := X.2.2.2.2.2.2.2.2) rfl hn hl.1 hst (lv_room hw) d ⟨by rw [hle.1]; exact hle2.1, by rw [hle.2]; exact hle2.2⟩
    intro T hT XX
    rcases run T hT XX with ⟨v, st₀, t, T', L, g0, X', hL, e1, e2, hq, sst⟩ | ⟨q, st₀, t, T', L, E', ce, g0, X', hL, e1, e2, ⟨hE, hh'⟩, hce, hcv', hcl', sst⟩
    · exact hq.elim
    · subst hE
      obtain ⟨gr', hH1⟩ := hh'
      have W1 := (kx gr' q).2 X B (hcl.trans hc1) T'.heap (locs ++ L) ls (by rw [e1]; exact hH1) (fun z hz => by
        rcases List.mem_append.mp hz with h | h
        · exact hlo z h
        · exact hL z h) hl
      have hgd := fun w (hw : w ∈ lw_good) => B.2.2.2.2.1 w hw
      have hS := B.2.2.2.2.2.1.2
      have hN := hS.2.2.2.2.2.2.2.1.2.2.2.2
      have W2 := vx_catch (p := X.1) (l := X.2.1) (e := X.2.2.1) (R := rmH Y.2.2.2.2 (dC I0 o.2) (dS I0 o.2)) (s := X.2.2.2.1) (m := X.2.2.2.2.1) (args := X.2.2.2.2.2.1) (below := X.2.2.2.2.2.2.1) (meth := X.2.2.2.2.2.2.2.1) (c := X.2.2.2.2.2.2.2.2) (H := T'.heap) (locs := locs ++ L) (cells := dC I0 I + dC I J) (slots := dS I0 I + dS I J) (Q := Qz Z X I0 o) (ls := ls) (E := E') (name := E') (rest := rest) (pc := pc) (q := q) (ce := ce) B.2.2.2.1 (pre.map xte) (xte x) (suf.map xte) (by
          rw [B.2.2.2.2.2.2.2.2.2.1, hs]
          simp [tableOf]) (fun z hz => by
          obtain ⟨z0, hz0, rfl⟩ := List.mem_map.mp hz
          obtain ⟨hz1, nm, hz2, hz3⟩ := hp z0 hz0
          exact Or.inr ⟨hz1, nm, hgd _ hz2, hN _ hz3⟩) hcv h0 (hgd _ hlx) (va_tabs rfl rfl (hS.2.2.2.2.2.2.2.2.2 _ hcx)) (by rw [e1]; exact hce) hcv' hcl' (by
          rw [show (xte x).handlerPc = tgt from htg, hle.1, hle.2]
          exact W1)
      obtain ⟨t2, a1, b1⟩ := W2 T' rfl X'
      exact ⟨t2, sst.trans a1, b1⟩
/-- the law's array of one long is written -/
theorem wq_last {x : Int} {f : Mem → Option (α × Mem)} (d : decode Y.2.1 pc = .ok (.lastore, 1)) (kk : ∀ J : Mem, WQ Z Y I0 gr (pc + 1) lv st J (f J) κ) : WQ Z Y I0 gr pc lv (vl x :: vi 0 :: vr Z 29 0 :: st) I (ltI (sI I 29 0 0 x) f) κ := by
  refine WQ.mem (sI_30 (by decide)) (fun X B o H locs ls cells slots hH hlo hl k1 => ?_) (kk _)
  have hat := hH.at (k := 29) (i := 0) (by decide)
  have hat : H[zA Z 29 0]? = some (vp_cell (zC Z 3) (1, .inr (.inl fun j => Int64.ofInt (I 29 0 j)))) := hat
  refine W.last B.1 B.2.1 hat ((B.2.2.2.2.2.1.1.2 3 _ rfl).1 1 (fun j => .long (Int64.ofInt (I 29 0 j)))) (fun q => by cases q) (by show ¬ (_ < 0 ∨ (arrV _ _ _).slots.size ≤ _); rw [arrV_size]; exact (by decide : ¬ (Int32.ofInt 0 < 0 ∨ 1 ≤ (Int32.ofInt 0).toNatClampNeg))) rfl rfl d fun H1 e1 z oq => ?_
  have hHn : HHA Z gr (sI I 29 0 0 x) H1 := by
    refine hH.upd (k := 29) (i := 0) (by decide) z oq ?_ (fun k' i' hi' hne => sI_ent (fun q => absurd q.1 (by decide)) (fun q => absurd q.1 (by decide)) hne)
    show H1[zA Z 29 0]? = some (vp_cell (zC Z 3) (1, .inr (.inl fun j => Int64.ofInt (sI I 29 0 0 x 29 0 j))))
    rw [e1, vp_cell_l, vp_cell_l, arrV_store]
    congr 2
    funext q
    by_cases hq : q = 0
    · subst hq; simp [updV, sI]
    · simp [updV, hq, sI]
  exact k1 H1 _ ls hHn (locs_put hlo (hH.2.2.1 29 0 (by decide))) hl
end HAND
