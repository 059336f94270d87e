section
/-! ===== methods with handlers ===== -/
abbrev wsH (y : MethodName) (cc : ByteArray) (maxL : Nat) (ret : Option FieldType) : List Cond := Cond.codeWith y cc maxL ret (xtb y) :: lw_good
def RunsH (Z : ZT) (y : MethodName) (cc : ByteArray) (maxL : Nat) (ret : Option FieldType) (h : Nat) (av : List Value) (I : Mem) (o : OV) : Prop :=
  cle I o.2 ∧ ∀ l : Launch, l.stackTraces = false → Met l y (wsH y cc maxL ret) (rmH h (dC I o.2) (dS I o.2)) (Pcz Z av I) (Qcz Z o) (dC I o.2) (dS I o.2) (zN Z)
theorem Met_ofWH {l : Launch} {y : MethodName} {ws ws' : List Cond} {rm : Room} {Pc : Array Value → State → Prop} {Qc : Array Value → State → Outcome → State → Prop} {mc ms : Nat} {free : Addr → Prop} {cc : ByteArray} {maxL : Nat} {ret : Option FieldType} {hh : List (Nat × Nat × Nat × Nat)}
    (hy : plainName y.cls = true) (hw : ws = Cond.codeWith y cc maxL ret hh :: ws')
    (body : ∀ p e s m args below meth c s₁, BodyLoose p l y (headSpec ws rm) cc maxL ret e s m args below meth c s₁ → c.maxLocals = maxL → Pc args s →
      W p l e (headSpec ws rm).room s m args below meth c s.heap [] 0 0 (MQ below Qc args s mc ms free) (entryFrame m args maxL)) : Met l y ws rm Pc Qc mc ms free := by
  refine MetFree.of_bodyS (code := cc) (maxLocals := maxL) (ret := ret) hy ?_ ?_
  · intro args s m h hn
    obtain ⟨m9, meth, c, hn9, h1, h2, h3, h4, -, h5, h6, -⟩ := Cond.codeWith_spec (atoms_spec (ws := ws) h _ (by rw [hw]; exact List.mem_cons_self))
    cases hn.symm.trans hn9
    exact ⟨meth, c, h1, h2, h3, h4, h5, h6⟩
  · intro p e s m args below meth c s₁ B hml hP _
    have hh0 : s₁.heap = s.heap := by rw [B.state]; rfl
    obtain ⟨t, a1, o, b1, b2, b3, b4⟩ := body p e s m args below meth c s₁ B hml hP s₁ hh0 (Stand.of_body B)
    exact ⟨t, o, a1, b1, b2, b3, b4⟩
theorem RunsH.of {Z : ZT} {I : Mem} {β : Type} {rv : β → Option Value} {r : β} {J : Mem} {f : Option (β × Mem)} {y : MethodName} {cc : ByteArray} {maxL h : Nat} {ret : Option FieldType} {av : List Value} (hy : plainName y.cls = true) (hlen : (lg_sl av).length ≤ maxL) (hf : f = some (r, J))
    (k : ∀ gr : Nat → Nat, WQ Z (y, cc, maxL, ret, h) I gr 0 (lv_args 0 av) [] I f (fun b K => some (.inl (rv b), K))) : RunsH Z y cc maxL ret h av I (rv r, J) := by
  have k := fun gr => k gr (.inl (rv r), J) (by rw [hf]; rfl)
  refine ⟨(k (fun _ => 0)).1, fun l hfl => ?_⟩
  refine Met_ofWH (cc := cc) (maxL := maxL) (ret := ret) hy rfl ?_
  intro p e s m args below meth c s₁ B hml hv
  obtain ⟨rfl, ⟨gr, hH⟩, hKK⟩ := hv
  have hpre := atoms_spec (ws := wsH y cc maxL ret) B.pre
  have htb := vx_table (x := y) B (hpre _ List.mem_cons_self)
  have hts : ∀ w ∈ lw_good, w.before av.toArray s = true := fun w hw => hpre w (List.mem_cons_of_mem _ hw)
  have hown := findClass_of_methodNamed B.named
  have hl := lv_entry av (n := maxL) hlen
  rw [lg_entry_eq]
  have hk := (k gr).2 (p, l, e, s, m, av.toArray, below, meth, c) ⟨B.exec, B.bytes, hml, hown, hts, hKK, B.returns, B.notSynchronized, hfl, htb, I, gr, hH⟩ (cle.refl I) s.heap [] _ hH (fun q hq => by cases hq) hl
  have e1 : dC I I = 0 := by unfold dC; omega
  have e2 : dS I I = 0 := by unfold dS; omega
  rw [e1, e2] at hk
  exact hk
/-- a call's answer, or what it throws -/
def bndX {β γ : Type} (f : Option ((β ⊕ String) × Mem)) (K : β → Mem → Option (γ × Mem)) (KX : String → Mem → Option (γ × Mem)) : Option (γ × Mem) := match f with
  | none => none
  | some (.inl r, J) => K r J
  | some (.inr E, J) => KX E J
abbrev xte (z : Nat × Nat × Nat × Nat) : ExceptionTableEntry := ⟨z.1, z.2.1, z.2.2.1, z.2.2.2⟩
/-- where an object of class E that is thrown at pc goes -/
def Hnd (Y : YT) (pc : Nat) (E : String) (tgt : Nat) : Prop := ∃ (pre : List (Nat × Nat × Nat × Nat)) (x : Nat × Nat × Nat × Nat) (suf : List (Nat × Nat × Nat × Nat)), xtb Y.1 = pre ++ x :: suf ∧
  (∀ z ∈ pre, z.2.2.2 ≠ 0 ∧ ∃ nm : String, Cond.classLink Y.1.cls z.2.2.2 nm ∈ lw_good ∧ (E, nm) ∈ wNot) ∧ covers (xte x) pc = true ∧ x.2.2.1 = tgt ∧ x.2.2.2 ≠ 0 ∧ Cond.classLink Y.1.cls x.2.2.2 E ∈ lw_good ∧ Cond.castable E E ∈ lw_nw
theorem hx_IA : Cond.classLink "PairRulesLaw" 13 xIA ∈ lw_good := li_5 137 (by decide +kernel) (by decide +kernel)
theorem hx_IO : Cond.classLink "PairRulesLaw" 19 xIO ∈ lw_good := li_6 13 (by decide +kernel) (by decide +kernel)
theorem hx_NS : Cond.classLink "PairRulesLaw" 80 xNS ∈ lw_good := li_6 195 (by decide +kernel) (by decide +kernel)
theorem hc_IA : Cond.castable xIA xIA ∈ lw_nw := nw_in 1286 (by decide +kernel) (by decide +kernel)
theorem hc_IO : Cond.castable xIO xIO ∈ lw_nw := nw_in 1357 (by decide +kernel) (by decide +kernel)
theorem hc_NS : Cond.castable xNS xNS ∈ lw_nw := nw_in 1539 (by decide +kernel) (by decide +kernel)
/-- where what is thrown at pc goes on -/
def HX (Z : ZT) (Y : YT) (I0 : Mem) (pc : Nat) (lv : List (Nat × Value)) (E : String) (J : Mem) {α : Type} (κ : α → Mem → Option OT) (e : Option (α × Mem)) : Prop :=
  ∀ o : OT, bnd e κ = some o → ∃ tgt : Nat, Hnd Y pc E tgt ∧ ∀ (gr' : Nat → Nat) (q : Nat), WP Z Y I0 o gr' tgt lv [.ref q] J
theorem HX.none {Z : ZT} {Y : YT} {I0 : Mem} {pc : Nat} {lv : List (Nat × Value)} {E : String} {J : Mem} {α : Type} {κ : α → Mem → Option OT} : HX Z Y I0 pc lv E J κ Option.none := fun o ho => by cases ho
theorem HX.here {Z : ZT} {Y : YT} {I0 : Mem} {pc : Nat} {lv : List (Nat × Value)} {E E0 : String} {J : Mem} {α : Type} {κ : α → Mem → Option OT} {e1 e2 : Option (α × Mem)} {tgt : Nat} (hn : Hnd Y pc E0 tgt) (k : ∀ (gr' : Nat → Nat) (q : Nat), WQ Z Y I0 gr' tgt lv [.ref q] J e1 κ) (k2 : HX Z Y I0 pc lv E J κ e2) : HX Z Y I0 pc lv E J κ (if E = E0 then e1 else e2) := by
  intro o ho
  by_cases hE : E = E0
  · rw [if_pos hE] at ho
    exact ⟨tgt, by rw [hE]; exact hn, fun gr' q => k gr' q o ho⟩
  · rw [if_neg hE] at ho
    exact k2 o ho
section HAND
variable {Z : ZT} {Y : YT} {I0 : Mem} {gr : Nat → Nat} {pc : Nat} {lv : List (Nat × Value)} {st : List Value} {I : Mem} {α : Type} {e : Option (α × Mem)} {κ : α → Mem → Option OT}
theorem wq_callX {β : Type} {rv : β → Option Value} {f : Option ((β ⊕ String) × Mem)} {K : β → Mem → Option (α × Mem)} {KX : String → Mem → Option (α × Mem)} {y' : MethodName} {cc' : ByteArray} {maxL' h' index n a : Nat} {ret' : Option FieldType} {As rest : List Value} (hM : MwV y' cc' maxL' ret' n) (hr : RX Z y' cc' maxL' ret' h' (.ref a :: As) I rv f)
    (hO : Ob Z gr I a y'.cls) (hn : As.length = n) (hst : st = As.reverse ++ .ref a :: rest) (hh : h' < Y.2.2.2.2) (hm : maxL' ≤ 16) (hw : (rest.map fun v => v.category).sum ≤ 8)
    (hlink : Cond.methodLink Y.1.cls index y' ∈ lw_good) (d : decode Y.2.1 pc = .ok (.invokevirtual index, 3))
    (kk : ∀ (gr' : Nat → Nat) (r : β) (J : Mem), WQ Z Y I0 gr' (pc + 3) lv ((rv r).toList ++ rest) J (K r J) κ)
    (kx : ∀ (E : String) (J : Mem), HX Z Y I0 pc lv E J κ (KX E J)) : WQ Z Y I0 gr pc lv st I (bndX f K KX) κ := by
  intro o ho
  match f, hr, ho with
  | none, _, ho => cases ho
  | some (.inl r, J), hr, ho => exact wq_cV (rv := rv) (f := some (r, J)) (K := K) hM (fun r' J' h => by cases h; exact hr.1 r J rfl) hO hn hst hh hm hw hlink d (fun gr' r' J' => kk gr' r' J') o ho
  | some (.inr E, J), hr, ho =>
    obtain ⟨hcode, hinst, hsel, hini, hd⟩ := hM
    obtain ⟨tgt, ⟨pre, x, suf, hs, hp, hcv, htg, h0, hlx, hcx⟩, kx⟩ := kx E J o ho
    have RT := hr.2 E J rfl
    have hc1 := RT.1
    have hc2 := (kx gr 0).1
    refine ⟨hc1.trans hc2, fun X B hcl H locs ls hH hlo hl => ?_⟩
    have hle : dC I0 I + dC I J = dC I0 J ∧ dS I0 I + dS I J = dS I0 J := by
      unfold dC dS
      obtain ⟨q1, q2⟩ := hc1
      obtain ⟨q5, q6⟩ := hcl
      constructor <;> omega
    have hle2 : dC I0 J ≤ dC I0 o.2 ∧ dS I0 J ≤ dS I0 o.2 := by
      unfold dC dS
      obtain ⟨q1, q2⟩ := hc2
      constructor <;> omega
    obtain ⟨k, i, ci, N, T0, fs, he, hi, ha, hc⟩ := hO
    have hat := hH.at hi
    rw [he, ha] at hat
    have hrecv := va_recv (q0 := 0) B.2.2.2.2.2.1.1 (va_P1 hat) hc rfl
    have hG : GoodIn lw_good (wsV Y.1.cls index y'.cls y' (wsAll y' cc' maxL' ret')) := by
      intro w hw
      rcases List.mem_append.mp hw with hw | hw
      · have hm : w ∈ lw_good := by
          simp only [List.mem_cons, List.mem_nil_iff, or_false] at hw
          rcases hw with rfl | rfl | rfl | rfl <;> assumption
        exact ⟨hm, good_of_word (List.mem_filter.mp hm).2⟩
      · exact goodAll hcode w hw
    have run := vx_runV (cc := Y.2.1) (nL := Y.2.2.1) (Ts := lw_good) (own := Y.1.cls) (As := As) (n := n) (cells := dC I0 I) (slots := dS I0 I) (rest := rest) ⟨B.1, B.2.1, B.2.2.1, B.2.2.2.1, B.2.2.2.2.1⟩ (RT.2 X.2.1 B.2.2.2.2.2.2.2.2.1) (cwV (R := rmH Y.2.2.2.2 (dC I0 o.2) (dS I0 o.2)) n B.2.2.2.2.1 hG rfl rfl rfl ⟨rfl, hd⟩ (room_ok hh hm)) ⟨fb_Pcz, hrecv, pc_at B hH⟩ (g := F0 X.2.2.2.2.1 pc ls st) (locs := locs) (e := X.2.2.1) (below := X.2.2.2.2.2.2.1) (meth := X.2.2.2.2.2.2.2.1) (c := X.2.2.2.2.2.2.2.2) rfl hn hl.1 hst (lv_room hw) d ⟨by rw [hle.1]; exact hle2.1, by rw [hle.2]; exact hle2.2⟩
    intro T hT XX
    rcases run T hT XX with ⟨v, st₀, t, T', L, g0, X', hL, e1, e2, hq, sst⟩ | ⟨q, st₀, t, T', L, E', ce, g0, X', hL, e1, e2, ⟨hE, hh'⟩, hce, hcv', hcl', sst⟩
    · exact hq.elim
    · subst hE
      obtain ⟨gr', hH1⟩ := hh'
      have W1 := (kx gr' q).2 X B (hcl.trans hc1) T'.heap (locs ++ L) ls (by rw [e1]; exact hH1) (fun z hz => by
        rcases List.mem_append.mp hz with h | h
        · exact hlo z h
        · exact hL z h) hl
      have hgd := fun w (hw : w ∈ lw_good) => B.2.2.2.2.1 w hw
      have hS := B.2.2.2.2.2.1.2
      have hN := hS.2.2.2.2.2.2.2.1.2.2.2.2
      have W2 := vx_catch (p := X.1) (l := X.2.1) (e := X.2.2.1) (R := rmH Y.2.2.2.2 (dC I0 o.2) (dS I0 o.2)) (s := X.2.2.2.1) (m := X.2.2.2.2.1) (args := X.2.2.2.2.2.1) (below := X.2.2.2.2.2.2.1) (meth := X.2.2.2.2.2.2.2.1) (c := X.2.2.2.2.2.2.2.2) (H := T'.heap) (locs := locs ++ L) (cells := dC I0 I + dC I J) (slots := dS I0 I + dS I J) (Q := Qz Z X I0 o) (ls := ls) (E := E') (name := E') (rest := rest) (pc := pc) (q := q) (ce := ce) B.2.2.2.1 (pre.map xte) (xte x) (suf.map xte) (by
          rw [B.2.2.2.2.2.2.2.2.2.1, hs]
          simp [tableOf]) (fun z hz => by
          obtain ⟨z0, hz0, rfl⟩ := List.mem_map.mp hz
          obtain ⟨hz1, nm, hz2, hz3⟩ := hp z0 hz0
          exact Or.inr ⟨hz1, nm, hgd _ hz2, hN _ hz3⟩) hcv h0 (hgd _ hlx) (va_tabs rfl rfl (hS.2.2.2.2.2.2.2.2.2 _ hcx)) (by rw [e1]; exact hce) hcv' hcl' (by
          rw [show (xte x).handlerPc = tgt from htg, hle.1, hle.2]
          exact W1)
      obtain ⟨t2, a1, b1⟩ := W2 T' rfl X'
      exact ⟨t2, sst.trans a1, b1⟩
/-- the law's array of one long is written -/
theorem wq_last {x : Int} {f : Mem → Option (α × Mem)} (d : decode Y.2.1 pc = .ok (.lastore, 1)) (kk : ∀ J : Mem, WQ Z Y I0 gr (pc + 1) lv st J (f J) κ) : WQ Z Y I0 gr pc lv (vl x :: vi 0 :: vr Z 29 0 :: st) I (ltI (sI I 29 0 0 x) f) κ := by
  refine WQ.mem (sI_30 (by decide)) (fun X B o H locs ls cells slots hH hlo hl k1 => ?_) (kk _)
  have hat := hH.at (k := 29) (i := 0) (by decide)
  have hat : H[zA Z 29 0]? = some (vp_cell (zC Z 3) (1, .inr (.inl fun j => Int64.ofInt (I 29 0 j)))) := hat
  refine W.last B.1 B.2.1 hat ((B.2.2.2.2.2.1.1.2 3 _ rfl).1 1 (fun j => .long (Int64.ofInt (I 29 0 j)))) (fun q => by cases q) (by show ¬ (_ < 0 ∨ (arrV _ _ _).slots.size ≤ _); rw [arrV_size]; exact (by decide : ¬ (Int32.ofInt 0 < 0 ∨ 1 ≤ (Int32.ofInt 0).toNatClampNeg))) rfl rfl d fun H1 e1 z oq => ?_
  have hHn : HHA Z gr (sI I 29 0 0 x) H1 := by
    refine hH.upd (k := 29) (i := 0) (by decide) z oq ?_ (fun k' i' hi' hne => sI_ent (fun q => absurd q.1 (by decide)) (fun q => absurd q.1 (by decide)) hne)
    show H1[zA Z 29 0]? = some (vp_cell (zC Z 3) (1, .inr (.inl fun j => Int64.ofInt (sI I 29 0 0 x 29 0 j))))
    rw [e1, vp_cell_l, vp_cell_l, arrV_store]
    congr 2
    funext q
    by_cases hq : q = 0
    · subst hq; simp [updV, sI]
    · simp [updV, hq, sI]
  exact k1 H1 _ ls hHn (locs_put hlo (hH.2.2.1 29 0 (by decide))) hl
end HAND
end
section
theorem M_PR_bodyAt : MwV yX12_bodyAt cX12_bodyAt 4 (some .int) 2 := ⟨li_6 58 (by decide +kernel) (by decide +kernel), li_6 56 (by decide +kernel) (by decide +kernel), li_6 57 (by decide +kernel) (by decide +kernel), li_1 1 (by decide +kernel) (by decide +kernel), by decide +kernel⟩
theorem ln_RL_25 : Cond.methodLink RL 25 yX12_bodyAt ∈ lw_good := li_6 55 (by decide +kernel) (by decide +kernel)
noncomputable def f_L_bodyAt (a1 : Int) (a2 : Int) (I : Mem) : Option ((Int) × Mem) :=
bndX (f_PR_bodyAt a1 a2 I) (fun x3 J2 =>
ltI (sI J2 29 0 0 (w32 x3)) fun J4 =>
some (0, J4)) fun E8 J6 =>
if E8 = xIO then
some (1, J6)
else none
set_option maxRecDepth 20000 in
theorem R_L_bodyAt (Z : ZT) (a1 : Int) (a2 : Int) (I : Mem) (r : Int) (J : Mem) (hf : f_L_bodyAt a1 a2 I = some (r, J)) : RunsH Z yL_bodyAt cL_bodyAt 5 (some .int) 7 [vr Z 0 0, vi a1, vi a2, vr Z 29 0] I (some (vi r), J) := by
  refine RunsH.of (rv := fun x => some (vi x)) (by decide +kernel) (Nat.le_of_ble_eq_true rfl) hf (fun gr => ?_)
  unfold f_L_bodyAt
  refine WQ.loc [0, 1, 2, 3] (lv' := [(0, vr Z 0 0), (1, vi a1), (2, vi a2), (3, vr Z 29 0)]) rfl ?_
  refine wq_aload_n dL_bodyAt_0 3 rfl rfl ?_
  refine wq_iconst dL_bodyAt_1 ?_
  refine wq_aload_n dL_bodyAt_2 0 rfl rfl ?_
  refine wq_iload_n dL_bodyAt_3 1 rfl rfl ?_
  refine wq_iload_n dL_bodyAt_4 2 rfl rfl ?_
  refine wq_callX (rv := fun x => some (vi x)) M_PR_bodyAt (R_PR_bodyAt Z a1 a2 _) ob_0 rfl rfl (by decide) (by decide) (Nat.le_of_ble_eq_true rfl) ln_RL_25 dL_bodyAt_5 (fun gr1 x3 J2 => ?_) (fun E8 J6 => ?_)
  · refine wq_i2l dL_bodyAt_8 ?_
    refine wq_last dL_bodyAt_9 (fun J4 => ?_)
    refine wq_goto 17 dL_bodyAt_10 (by decide) ?_
    refine wq_iconst dL_bodyAt_17 ?_
    exact wq_iret rfl rfl dL_bodyAt_18
  · refine HX.here (tgt := 13) ⟨[], (0, 10, 13, 19), [], by decide +kernel, (fun z hz => by cases hz), rfl, rfl, by decide, hx_IO, hc_IO⟩ (fun gr5 q7 => ?_) ?_
    · refine wq_astore (lv' := [(4, .ref q7), (0, vr Z 0 0), (1, vi a1), (2, vi a2), (3, vr Z 29 0)]) dL_bodyAt_13 (by decide) rfl ?_
      refine wq_iconst dL_bodyAt_15 ?_
      exact wq_iret rfl rfl dL_bodyAt_16
    exact HX.none

theorem M_PR_startAt : MwV yX12_startAt cX12_startAt 3 (some .int) 1 := ⟨li_6 66 (by decide +kernel) (by decide +kernel), li_6 64 (by decide +kernel) (by decide +kernel), li_6 65 (by decide +kernel) (by decide +kernel), li_1 1 (by decide +kernel) (by decide +kernel), by decide +kernel⟩
theorem ln_RL_28 : Cond.methodLink RL 28 yX12_startAt ∈ lw_good := li_6 63 (by decide +kernel) (by decide +kernel)
noncomputable def f_L_startAt (a1 : Int) (I : Mem) : Option ((Int) × Mem) :=
bndX (f_PR_startAt a1 I) (fun x3 J2 =>
ltI (sI J2 29 0 0 (w32 x3)) fun J4 =>
some (0, J4)) fun E8 J6 =>
if E8 = xIO then
some (1, J6)
else none
set_option maxRecDepth 20000 in
theorem R_L_startAt (Z : ZT) (a1 : Int) (I : Mem) (r : Int) (J : Mem) (hf : f_L_startAt a1 I = some (r, J)) : RunsH Z yL_startAt cL_startAt 4 (some .int) 7 [vr Z 0 0, vi a1, vr Z 29 0] I (some (vi r), J) := by
  refine RunsH.of (rv := fun x => some (vi x)) (by decide +kernel) (Nat.le_of_ble_eq_true rfl) hf (fun gr => ?_)
  unfold f_L_startAt
  refine WQ.loc [0, 1, 2] (lv' := [(0, vr Z 0 0), (1, vi a1), (2, vr Z 29 0)]) rfl ?_
  refine wq_aload_n dL_startAt_0 2 rfl rfl ?_
  refine wq_iconst dL_startAt_1 ?_
  refine wq_aload_n dL_startAt_2 0 rfl rfl ?_
  refine wq_iload_n dL_startAt_3 1 rfl rfl ?_
  refine wq_callX (rv := fun x => some (vi x)) M_PR_startAt (R_PR_startAt Z a1 _) ob_0 rfl rfl (by decide) (by decide) (Nat.le_of_ble_eq_true rfl) ln_RL_28 dL_startAt_4 (fun gr1 x3 J2 => ?_) (fun E8 J6 => ?_)
  · refine wq_i2l dL_startAt_7 ?_
    refine wq_last dL_startAt_8 (fun J4 => ?_)
    refine wq_goto 15 dL_startAt_9 (by decide) ?_
    refine wq_iconst dL_startAt_15 ?_
    exact wq_iret rfl rfl dL_startAt_16
  · refine HX.here (tgt := 12) ⟨[], (0, 9, 12, 19), [], by decide +kernel, (fun z hz => by cases hz), rfl, rfl, by decide, hx_IO, hc_IO⟩ (fun gr5 q7 => ?_) ?_
    · refine wq_astore_n (lv' := [(3, .ref q7), (0, vr Z 0 0), (1, vi a1), (2, vr Z 29 0)]) dL_startAt_12 rfl (by decide) rfl ?_
      refine wq_iconst dL_startAt_13 ?_
      exact wq_iret rfl rfl dL_startAt_14
    exact HX.none

theorem M_PR_account : MwV yX12_account cX12_account 2 (some .int) 1 := ⟨li_6 105 (by decide +kernel) (by decide +kernel), li_6 103 (by decide +kernel) (by decide +kernel), li_6 104 (by decide +kernel) (by decide +kernel), li_1 1 (by decide +kernel) (by decide +kernel), by decide +kernel⟩
theorem ln_RL_40 : Cond.methodLink RL 40 yX12_account ∈ lw_good := li_6 102 (by decide +kernel) (by decide +kernel)
noncomputable def f_L_account (a1 : Int) (I : Mem) : Option ((Int) × Mem) :=
bndX (f_PR_account a1 I) (fun x3 J2 =>
ltI (sI J2 29 0 0 (w32 x3)) fun J4 =>
some (0, J4)) fun E8 J6 =>
if E8 = xIA then
some (1, J6)
else none
set_option maxRecDepth 20000 in
theorem R_L_account (Z : ZT) (a1 : Int) (I : Mem) (r : Int) (J : Mem) (hf : f_L_account a1 I = some (r, J)) : RunsH Z yL_account cL_account 4 (some .int) 7 [vr Z 0 0, vi a1, vr Z 29 0] I (some (vi r), J) := by
  refine RunsH.of (rv := fun x => some (vi x)) (by decide +kernel) (Nat.le_of_ble_eq_true rfl) hf (fun gr => ?_)
  unfold f_L_account
  refine WQ.loc [0, 1, 2] (lv' := [(0, vr Z 0 0), (1, vi a1), (2, vr Z 29 0)]) rfl ?_
  refine wq_aload_n dL_account_0 2 rfl rfl ?_
  refine wq_iconst dL_account_1 ?_
  refine wq_aload_n dL_account_2 0 rfl rfl ?_
  refine wq_iload_n dL_account_3 1 rfl rfl ?_
  refine wq_callX (rv := fun x => some (vi x)) M_PR_account (R_PR_account Z a1 _) ob_0 rfl rfl (by decide) (by decide) (Nat.le_of_ble_eq_true rfl) ln_RL_40 dL_account_4 (fun gr1 x3 J2 => ?_) (fun E8 J6 => ?_)
  · refine wq_i2l dL_account_7 ?_
    refine wq_last dL_account_8 (fun J4 => ?_)
    refine wq_goto 15 dL_account_9 (by decide) ?_
    refine wq_iconst dL_account_15 ?_
    exact wq_iret rfl rfl dL_account_16
  · refine HX.here (tgt := 12) ⟨[], (0, 9, 12, 13), [], by decide +kernel, (fun z hz => by cases hz), rfl, rfl, by decide, hx_IA, hc_IA⟩ (fun gr5 q7 => ?_) ?_
    · refine wq_astore_n (lv' := [(3, .ref q7), (0, vr Z 0 0), (1, vi a1), (2, vr Z 29 0)]) dL_account_12 rfl (by decide) rfl ?_
      refine wq_iconst dL_account_13 ?_
      exact wq_iret rfl rfl dL_account_14
    exact HX.none

theorem M_PR_isRule : MwV yX12_isRule cX12_isRule 2 (some .boolean) 1 := ⟨li_6 17 (by decide +kernel) (by decide +kernel), li_6 15 (by decide +kernel) (by decide +kernel), li_6 16 (by decide +kernel) (by decide +kernel), li_1 1 (by decide +kernel) (by decide +kernel), by decide +kernel⟩
theorem ln_RL_15 : Cond.methodLink RL 15 yX12_isRule ∈ lw_good := li_6 14 (by decide +kernel) (by decide +kernel)
noncomputable def f_L_isRule (a1 : Int) (I : Mem) : Option ((Int) × Mem) :=
bndX (f_PR_isRule a1 I) (fun x3 J2 =>
if (w32 x3) = 0 then
ltI (sI J2 29 0 0 0) fun J4 =>
some (0, J4)
else
ltI (sI J2 29 0 0 1) fun J5 =>
some (0, J5)) fun E10 J8 =>
if E10 = xIO then
some (1, J8)
else none
set_option maxRecDepth 20000 in
theorem R_L_isRule (Z : ZT) (a1 : Int) (I : Mem) (r : Int) (J : Mem) (hf : f_L_isRule a1 I = some (r, J)) : RunsH Z yL_isRule cL_isRule 4 (some .int) 7 [vr Z 0 0, vi a1, vr Z 29 0] I (some (vi r), J) := by
  refine RunsH.of (rv := fun x => some (vi x)) (by decide +kernel) (Nat.le_of_ble_eq_true rfl) hf (fun gr => ?_)
  unfold f_L_isRule
  refine WQ.loc [0, 1, 2] (lv' := [(0, vr Z 0 0), (1, vi a1), (2, vr Z 29 0)]) rfl ?_
  refine wq_aload_n dL_isRule_0 2 rfl rfl ?_
  refine wq_iconst dL_isRule_1 ?_
  refine wq_aload_n dL_isRule_2 0 rfl rfl ?_
  refine wq_iload_n dL_isRule_3 1 rfl rfl ?_
  refine wq_callX (rv := fun x => some (vi x)) M_PR_isRule (R_PR_isRule Z a1 _) ob_0 rfl rfl (by decide) (by decide) (Nat.le_of_ble_eq_true rfl) ln_RL_15 dL_isRule_4 (fun gr1 x3 J2 => ?_) (fun E10 J8 => ?_)
  · refine wq_if_eq 14 dL_isRule_7 (by decide) rfl (fun c6 => ?_) (fun c6 => ?_)
    · refine wq_lconst (v := 0) rfl dL_isRule_14 ?_
      refine wq_last dL_isRule_15 (fun J4 => ?_)
      refine wq_goto 22 dL_isRule_16 (by decide) ?_
      refine wq_iconst dL_isRule_22 ?_
      exact wq_iret rfl rfl dL_isRule_23
    · refine wq_lconst (v := 1) rfl dL_isRule_10 ?_
      refine wq_goto 15 dL_isRule_11 (by decide) ?_
      refine wq_last dL_isRule_15 (fun J5 => ?_)
      refine wq_goto 22 dL_isRule_16 (by decide) ?_
      refine wq_iconst dL_isRule_22 ?_
      exact wq_iret rfl rfl dL_isRule_23
  · refine HX.here (tgt := 19) ⟨[], (0, 16, 19, 19), [], by decide +kernel, (fun z hz => by cases hz), rfl, rfl, by decide, hx_IO, hc_IO⟩ (fun gr7 q9 => ?_) ?_
    · refine wq_astore_n (lv' := [(3, .ref q9), (0, vr Z 0 0), (1, vi a1), (2, vr Z 29 0)]) dL_isRule_19 rfl (by decide) rfl ?_
      refine wq_iconst dL_isRule_20 ?_
      exact wq_iret rfl rfl dL_isRule_21
    exact HX.none

theorem M_PR_letterAt : MwV yX12_letterAt cX12_letterAt 2 (some .int) 1 := ⟨li_6 73 (by decide +kernel) (by decide +kernel), li_6 71 (by decide +kernel) (by decide +kernel), li_6 72 (by decide +kernel) (by decide +kernel), li_1 1 (by decide +kernel) (by decide +kernel), by decide +kernel⟩
theorem ln_RL_31 : Cond.methodLink RL 31 yX12_letterAt ∈ lw_good := li_6 70 (by decide +kernel) (by decide +kernel)
noncomputable def f_L_letterAt (a1 : Int) (I : Mem) : Option ((Int) × Mem) :=
bndX (f_PR_letterAt a1 I) (fun x3 J2 =>
ltI (sI J2 29 0 0 (w32 x3)) fun J4 =>
some (0, J4)) fun E8 J6 =>
if E8 = xIO then
some (1, J6)
else none
set_option maxRecDepth 20000 in
theorem R_L_letterAt (Z : ZT) (a1 : Int) (I : Mem) (r : Int) (J : Mem) (hf : f_L_letterAt a1 I = some (r, J)) : RunsH Z yL_letterAt cL_letterAt 4 (some .int) 7 [vr Z 0 0, vi a1, vr Z 29 0] I (some (vi r), J) := by
  refine RunsH.of (rv := fun x => some (vi x)) (by decide +kernel) (Nat.le_of_ble_eq_true rfl) hf (fun gr => ?_)
  unfold f_L_letterAt
  refine WQ.loc [0, 1, 2] (lv' := [(0, vr Z 0 0), (1, vi a1), (2, vr Z 29 0)]) rfl ?_
  refine wq_aload_n dL_letterAt_0 2 rfl rfl ?_
  refine wq_iconst dL_letterAt_1 ?_
  refine wq_aload_n dL_letterAt_2 0 rfl rfl ?_
  refine wq_iload_n dL_letterAt_3 1 rfl rfl ?_
  refine wq_callX (rv := fun x => some (vi x)) M_PR_letterAt (R_PR_letterAt Z a1 _) ob_0 rfl rfl (by decide) (by decide) (Nat.le_of_ble_eq_true rfl) ln_RL_31 dL_letterAt_4 (fun gr1 x3 J2 => ?_) (fun E8 J6 => ?_)
  · refine wq_i2l dL_letterAt_7 ?_
    refine wq_last dL_letterAt_8 (fun J4 => ?_)
    refine wq_goto 15 dL_letterAt_9 (by decide) ?_
    refine wq_iconst dL_letterAt_15 ?_
    exact wq_iret rfl rfl dL_letterAt_16
  · refine HX.here (tgt := 12) ⟨[], (0, 9, 12, 19), [], by decide +kernel, (fun z hz => by cases hz), rfl, rfl, by decide, hx_IO, hc_IO⟩ (fun gr5 q7 => ?_) ?_
    · refine wq_astore_n (lv' := [(3, .ref q7), (0, vr Z 0 0), (1, vi a1), (2, vr Z 29 0)]) dL_letterAt_12 rfl (by decide) rfl ?_
      refine wq_iconst dL_letterAt_13 ?_
      exact wq_iret rfl rfl dL_letterAt_14
    exact HX.none

theorem M_PR_symbolOf : MwV yX12_symbolOf cX12_symbolOf 2 (some .int) 1 := ⟨li_6 88 (by decide +kernel) (by decide +kernel), li_6 86 (by decide +kernel) (by decide +kernel), li_6 87 (by decide +kernel) (by decide +kernel), li_1 1 (by decide +kernel) (by decide +kernel), by decide +kernel⟩
theorem ln_RL_34 : Cond.methodLink RL 34 yX12_symbolOf ∈ lw_good := li_6 85 (by decide +kernel) (by decide +kernel)
noncomputable def f_L_symbolOf (a1 : Int) (I : Mem) : Option ((Int) × Mem) :=
bndX (f_PR_symbolOf a1 I) (fun x3 J2 =>
ltI (sI J2 29 0 0 (w32 x3)) fun J4 =>
some (0, J4)) fun E8 J6 =>
if E8 = xIO then
some (1, J6)
else none
set_option maxRecDepth 20000 in
theorem R_L_symbolOf (Z : ZT) (a1 : Int) (I : Mem) (r : Int) (J : Mem) (hf : f_L_symbolOf a1 I = some (r, J)) : RunsH Z yL_symbolOf cL_symbolOf 4 (some .int) 7 [vr Z 0 0, vi a1, vr Z 29 0] I (some (vi r), J) := by
  refine RunsH.of (rv := fun x => some (vi x)) (by decide +kernel) (Nat.le_of_ble_eq_true rfl) hf (fun gr => ?_)
  unfold f_L_symbolOf
  refine WQ.loc [0, 1, 2] (lv' := [(0, vr Z 0 0), (1, vi a1), (2, vr Z 29 0)]) rfl ?_
  refine wq_aload_n dL_symbolOf_0 2 rfl rfl ?_
  refine wq_iconst dL_symbolOf_1 ?_
  refine wq_aload_n dL_symbolOf_2 0 rfl rfl ?_
  refine wq_iload_n dL_symbolOf_3 1 rfl rfl ?_
  refine wq_callX (rv := fun x => some (vi x)) M_PR_symbolOf (R_PR_symbolOf Z a1 _) ob_0 rfl rfl (by decide) (by decide) (Nat.le_of_ble_eq_true rfl) ln_RL_34 dL_symbolOf_4 (fun gr1 x3 J2 => ?_) (fun E8 J6 => ?_)
  · refine wq_i2l dL_symbolOf_7 ?_
    refine wq_last dL_symbolOf_8 (fun J4 => ?_)
    refine wq_goto 15 dL_symbolOf_9 (by decide) ?_
    refine wq_iconst dL_symbolOf_15 ?_
    exact wq_iret rfl rfl dL_symbolOf_16
  · refine HX.here (tgt := 12) ⟨[], (0, 9, 12, 19), [], by decide +kernel, (fun z hz => by cases hz), rfl, rfl, by decide, hx_IO, hc_IO⟩ (fun gr5 q7 => ?_) ?_
    · refine wq_astore_n (lv' := [(3, .ref q7), (0, vr Z 0 0), (1, vi a1), (2, vr Z 29 0)]) dL_symbolOf_12 rfl (by decide) rfl ?_
      refine wq_iconst dL_symbolOf_13 ?_
      exact wq_iret rfl rfl dL_symbolOf_14
    exact HX.none

theorem M_PR_letters : MwV yX12_letters cX12_letters 2 (some .int) 1 := ⟨li_6 96 (by decide +kernel) (by decide +kernel), li_6 94 (by decide +kernel) (by decide +kernel), li_6 95 (by decide +kernel) (by decide +kernel), li_1 1 (by decide +kernel) (by decide +kernel), by decide +kernel⟩
theorem ln_RL_37 : Cond.methodLink RL 37 yX12_letters ∈ lw_good := li_6 93 (by decide +kernel) (by decide +kernel)
noncomputable def f_L_letters (a1 : Int) (I : Mem) : Option ((Int) × Mem) :=
bndX (f_PR_letters a1 I) (fun x3 J2 =>
ltI (sI J2 29 0 0 (w32 x3)) fun J4 =>
some (0, J4)) fun E8 J6 =>
if E8 = xIA then
some (1, J6)
else none
set_option maxRecDepth 20000 in
theorem R_L_letters (Z : ZT) (a1 : Int) (I : Mem) (r : Int) (J : Mem) (hf : f_L_letters a1 I = some (r, J)) : RunsH Z yL_letters cL_letters 4 (some .int) 7 [vr Z 0 0, vi a1, vr Z 29 0] I (some (vi r), J) := by
  refine RunsH.of (rv := fun x => some (vi x)) (by decide +kernel) (Nat.le_of_ble_eq_true rfl) hf (fun gr => ?_)
  unfold f_L_letters
  refine WQ.loc [0, 1, 2] (lv' := [(0, vr Z 0 0), (1, vi a1), (2, vr Z 29 0)]) rfl ?_
  refine wq_aload_n dL_letters_0 2 rfl rfl ?_
  refine wq_iconst dL_letters_1 ?_
  refine wq_aload_n dL_letters_2 0 rfl rfl ?_
  refine wq_iload_n dL_letters_3 1 rfl rfl ?_
  refine wq_callX (rv := fun x => some (vi x)) M_PR_letters (R_PR_letters Z a1 _) ob_0 rfl rfl (by decide) (by decide) (Nat.le_of_ble_eq_true rfl) ln_RL_37 dL_letters_4 (fun gr1 x3 J2 => ?_) (fun E8 J6 => ?_)
  · refine wq_i2l dL_letters_7 ?_
    refine wq_last dL_letters_8 (fun J4 => ?_)
    refine wq_goto 15 dL_letters_9 (by decide) ?_
    refine wq_iconst dL_letters_15 ?_
    exact wq_iret rfl rfl dL_letters_16
  · refine HX.here (tgt := 12) ⟨[], (0, 9, 12, 13), [], by decide +kernel, (fun z hz => by cases hz), rfl, rfl, by decide, hx_IA, hc_IA⟩ (fun gr5 q7 => ?_) ?_
    · refine wq_astore_n (lv' := [(3, .ref q7), (0, vr Z 0 0), (1, vi a1), (2, vr Z 29 0)]) dL_letters_12 rfl (by decide) rfl ?_
      refine wq_iconst dL_letters_13 ?_
      exact wq_iret rfl rfl dL_letters_14
    exact HX.none

theorem M_PR_size : MwV yX12_size cX12_size 2 (some .int) 1 := ⟨li_5 141 (by decide +kernel) (by decide +kernel), li_5 139 (by decide +kernel) (by decide +kernel), li_5 140 (by decide +kernel) (by decide +kernel), li_1 1 (by decide +kernel) (by decide +kernel), by decide +kernel⟩
theorem ln_RL_7 : Cond.methodLink RL 7 yX12_size ∈ lw_good := li_5 138 (by decide +kernel) (by decide +kernel)
noncomputable def f_L_size (a1 : Int) (I : Mem) : Option ((Int) × Mem) :=
bndX (f_PR_size a1 I) (fun x3 J2 =>
ltI (sI J2 29 0 0 (w32 x3)) fun J4 =>
some (0, J4)) fun E8 J6 =>
if E8 = xIA then
some (1, J6)
else none
set_option maxRecDepth 20000 in
theorem R_L_size (Z : ZT) (a1 : Int) (I : Mem) (r : Int) (J : Mem) (hf : f_L_size a1 I = some (r, J)) : RunsH Z yL_size cL_size 4 (some .int) 7 [vr Z 0 0, vi a1, vr Z 29 0] I (some (vi r), J) := by
  refine RunsH.of (rv := fun x => some (vi x)) (by decide +kernel) (Nat.le_of_ble_eq_true rfl) hf (fun gr => ?_)
  unfold f_L_size
  refine WQ.loc [0, 1, 2] (lv' := [(0, vr Z 0 0), (1, vi a1), (2, vr Z 29 0)]) rfl ?_
  refine wq_aload_n dL_size_0 2 rfl rfl ?_
  refine wq_iconst dL_size_1 ?_
  refine wq_aload_n dL_size_2 0 rfl rfl ?_
  refine wq_iload_n dL_size_3 1 rfl rfl ?_
  refine wq_callX (rv := fun x => some (vi x)) M_PR_size (R_PR_size Z a1 _) ob_0 rfl rfl (by decide) (by decide) (Nat.le_of_ble_eq_true rfl) ln_RL_7 dL_size_4 (fun gr1 x3 J2 => ?_) (fun E8 J6 => ?_)
  · refine wq_i2l dL_size_7 ?_
    refine wq_last dL_size_8 (fun J4 => ?_)
    refine wq_goto 15 dL_size_9 (by decide) ?_
    refine wq_iconst dL_size_15 ?_
    exact wq_iret rfl rfl dL_size_16
  · refine HX.here (tgt := 12) ⟨[], (0, 9, 12, 13), [], by decide +kernel, (fun z hz => by cases hz), rfl, rfl, by decide, hx_IA, hc_IA⟩ (fun gr5 q7 => ?_) ?_
    · refine wq_astore_n (lv' := [(3, .ref q7), (0, vr Z 0 0), (1, vi a1), (2, vr Z 29 0)]) dL_size_12 rfl (by decide) rfl ?_
      refine wq_iconst dL_size_13 ?_
      exact wq_iret rfl rfl dL_size_14
    exact HX.none

theorem M_PR_rule : MwV yX12_rule cX12_rule 3 (some .int) 2 := ⟨li_6 39 (by decide +kernel) (by decide +kernel), li_6 37 (by decide +kernel) (by decide +kernel), li_6 38 (by decide +kernel) (by decide +kernel), li_1 1 (by decide +kernel) (by decide +kernel), by decide +kernel⟩
theorem ln_RL_21 : Cond.methodLink RL 21 yX12_rule ∈ lw_good := li_6 36 (by decide +kernel) (by decide +kernel)
noncomputable def f_L_rule (a1 : Int) (a2 : Int) (I : Mem) : Option ((Int) × Mem) :=
bndX (f_PR_rule a1 a2 I) (fun x3 J2 =>
ltI (sI J2 29 0 0 (w32 x3)) fun J4 =>
some (0, J4)) fun E8 J6 =>
if E8 = xIO then
some (1, J6)
else if E8 = xIA then
some (2, J6)
else none
set_option maxRecDepth 20000 in
theorem R_L_rule (Z : ZT) (a1 : Int) (a2 : Int) (I : Mem) (r : Int) (J : Mem) (hf : f_L_rule a1 a2 I = some (r, J)) : RunsH Z yL_rule cL_rule 5 (some .int) 7 [vr Z 0 0, vi a1, vi a2, vr Z 29 0] I (some (vi r), J) := by
  refine RunsH.of (rv := fun x => some (vi x)) (by decide +kernel) (Nat.le_of_ble_eq_true rfl) hf (fun gr => ?_)
  unfold f_L_rule
  refine WQ.loc [0, 1, 2, 3] (lv' := [(0, vr Z 0 0), (1, vi a1), (2, vi a2), (3, vr Z 29 0)]) rfl ?_
  refine wq_aload_n dL_rule_0 3 rfl rfl ?_
  refine wq_iconst dL_rule_1 ?_
  refine wq_aload_n dL_rule_2 0 rfl rfl ?_
  refine wq_iload_n dL_rule_3 1 rfl rfl ?_
  refine wq_iload_n dL_rule_4 2 rfl rfl ?_
  refine wq_callX (rv := fun x => some (vi x)) M_PR_rule (R_PR_rule Z a1 a2 _) ob_0 rfl rfl (by decide) (by decide) (Nat.le_of_ble_eq_true rfl) ln_RL_21 dL_rule_5 (fun gr1 x3 J2 => ?_) (fun E8 J6 => ?_)
  · refine wq_i2l dL_rule_8 ?_
    refine wq_last dL_rule_9 (fun J4 => ?_)
    refine wq_goto 21 dL_rule_10 (by decide) ?_
    refine wq_iconst dL_rule_21 ?_
    exact wq_iret rfl rfl dL_rule_22
  · refine HX.here (tgt := 13) ⟨[], (0, 10, 13, 19), [(0, 10, 17, 13)], by decide +kernel, (fun z hz => by cases hz), rfl, rfl, by decide, hx_IO, hc_IO⟩ (fun gr5 q7 => ?_) ?_
    · refine wq_astore (lv' := [(4, .ref q7), (0, vr Z 0 0), (1, vi a1), (2, vi a2), (3, vr Z 29 0)]) dL_rule_13 (by decide) rfl ?_
      refine wq_iconst dL_rule_15 ?_
      exact wq_iret rfl rfl dL_rule_16
    refine HX.here (tgt := 17) ⟨[(0, 10, 13, 19)], (0, 10, 17, 13), [], by decide +kernel, (fun z hz => by cases List.mem_singleton.mp hz; exact ⟨by decide, _, hx_IO, by decide +kernel⟩), rfl, rfl, by decide, hx_IA, hc_IA⟩ (fun gr5 q7 => ?_) ?_
    · refine wq_astore (lv' := [(4, .ref q7), (0, vr Z 0 0), (1, vi a1), (2, vi a2), (3, vr Z 29 0)]) dL_rule_17 (by decide) rfl ?_
      refine wq_iconst dL_rule_19 ?_
      exact wq_iret rfl rfl dL_rule_20
    exact HX.none

theorem M_PR_count : MwV yX12_count cX12_count 4 (some .int) 2 := ⟨li_6 112 (by decide +kernel) (by decide +kernel), li_6 110 (by decide +kernel) (by decide +kernel), li_6 111 (by decide +kernel) (by decide +kernel), li_1 1 (by decide +kernel) (by decide +kernel), by decide +kernel⟩
theorem ln_RL_43 : Cond.methodLink RL 43 yX12_count ∈ lw_good := li_6 109 (by decide +kernel) (by decide +kernel)
noncomputable def f_L_count (a1 : Int) (a2 : Int) (I : Mem) : Option ((Int) × Mem) :=
bndX (f_PR_count a1 a2 I) (fun x3 J2 =>
ltI (sI J2 29 0 0 (w32 x3)) fun J4 =>
some (0, J4)) fun E8 J6 =>
if E8 = xIA then
some (1, J6)
else none
set_option maxRecDepth 20000 in
theorem R_L_count (Z : ZT) (a1 : Int) (a2 : Int) (I : Mem) (r : Int) (J : Mem) (hf : f_L_count a1 a2 I = some (r, J)) : RunsH Z yL_count cL_count 5 (some .int) 7 [vr Z 0 0, vi a1, vi a2, vr Z 29 0] I (some (vi r), J) := by
  refine RunsH.of (rv := fun x => some (vi x)) (by decide +kernel) (Nat.le_of_ble_eq_true rfl) hf (fun gr => ?_)
  unfold f_L_count
  refine WQ.loc [0, 1, 2, 3] (lv' := [(0, vr Z 0 0), (1, vi a1), (2, vi a2), (3, vr Z 29 0)]) rfl ?_
  refine wq_aload_n dL_count_0 3 rfl rfl ?_
  refine wq_iconst dL_count_1 ?_
  refine wq_aload_n dL_count_2 0 rfl rfl ?_
  refine wq_iload_n dL_count_3 1 rfl rfl ?_
  refine wq_iload_n dL_count_4 2 rfl rfl ?_
  refine wq_callX (rv := fun x => some (vi x)) M_PR_count (R_PR_count Z a1 a2 _) ob_0 rfl rfl (by decide) (by decide) (Nat.le_of_ble_eq_true rfl) ln_RL_43 dL_count_5 (fun gr1 x3 J2 => ?_) (fun E8 J6 => ?_)
  · refine wq_i2l dL_count_8 ?_
    refine wq_last dL_count_9 (fun J4 => ?_)
    refine wq_goto 17 dL_count_10 (by decide) ?_
    refine wq_iconst dL_count_17 ?_
    exact wq_iret rfl rfl dL_count_18
  · refine HX.here (tgt := 13) ⟨[], (0, 10, 13, 13), [], by decide +kernel, (fun z hz => by cases hz), rfl, rfl, by decide, hx_IA, hc_IA⟩ (fun gr5 q7 => ?_) ?_
    · refine wq_astore (lv' := [(4, .ref q7), (0, vr Z 0 0), (1, vi a1), (2, vi a2), (3, vr Z 29 0)]) dL_count_13 (by decide) rfl ?_
      refine wq_iconst dL_count_15 ?_
      exact wq_iret rfl rfl dL_count_16
    exact HX.none

theorem M_PR_best : MwV yX12_best cX12_best 4 (some .int) 1 := ⟨li_6 120 (by decide +kernel) (by decide +kernel), li_6 118 (by decide +kernel) (by decide +kernel), li_6 119 (by decide +kernel) (by decide +kernel), li_1 1 (by decide +kernel) (by decide +kernel), by decide +kernel⟩
theorem ln_RL_46 : Cond.methodLink RL 46 yX12_best ∈ lw_good := li_6 117 (by decide +kernel) (by decide +kernel)
noncomputable def f_L_best (a1 : Int) (I : Mem) : Option ((Int) × Mem) :=
bndX (f_PR_best a1 I) (fun x3 J2 =>
ltI (sI J2 29 0 0 (w32 x3)) fun J4 =>
some (0, J4)) fun E8 J6 =>
if E8 = xIA then
some (1, J6)
else none
set_option maxRecDepth 20000 in
theorem R_L_best (Z : ZT) (a1 : Int) (I : Mem) (r : Int) (J : Mem) (hf : f_L_best a1 I = some (r, J)) : RunsH Z yL_best cL_best 4 (some .int) 7 [vr Z 0 0, vi a1, vr Z 29 0] I (some (vi r), J) := by
  refine RunsH.of (rv := fun x => some (vi x)) (by decide +kernel) (Nat.le_of_ble_eq_true rfl) hf (fun gr => ?_)
  unfold f_L_best
  refine WQ.loc [0, 1, 2] (lv' := [(0, vr Z 0 0), (1, vi a1), (2, vr Z 29 0)]) rfl ?_
  refine wq_aload_n dL_best_0 2 rfl rfl ?_
  refine wq_iconst dL_best_1 ?_
  refine wq_aload_n dL_best_2 0 rfl rfl ?_
  refine wq_iload_n dL_best_3 1 rfl rfl ?_
  refine wq_callX (rv := fun x => some (vi x)) M_PR_best (R_PR_best Z a1 _) ob_0 rfl rfl (by decide) (by decide) (Nat.le_of_ble_eq_true rfl) ln_RL_46 dL_best_4 (fun gr1 x3 J2 => ?_) (fun E8 J6 => ?_)
  · refine wq_i2l dL_best_7 ?_
    refine wq_last dL_best_8 (fun J4 => ?_)
    refine wq_goto 15 dL_best_9 (by decide) ?_
    refine wq_iconst dL_best_15 ?_
    exact wq_iret rfl rfl dL_best_16
  · refine HX.here (tgt := 12) ⟨[], (0, 9, 12, 13), [], by decide +kernel, (fun z hz => by cases hz), rfl, rfl, by decide, hx_IA, hc_IA⟩ (fun gr5 q7 => ?_) ?_
    · refine wq_astore_n (lv' := [(3, .ref q7), (0, vr Z 0 0), (1, vi a1), (2, vr Z 29 0)]) dL_best_12 rfl (by decide) rfl ?_
      refine wq_iconst dL_best_13 ?_
      exact wq_iret rfl rfl dL_best_14
    exact HX.none

theorem M_PR_why : MwV yX12_why cX12_why 6 (some .int) 2 := ⟨li_6 134 (by decide +kernel) (by decide +kernel), li_6 132 (by decide +kernel) (by decide +kernel), li_6 133 (by decide +kernel) (by decide +kernel), li_1 1 (by decide +kernel) (by decide +kernel), by decide +kernel⟩
theorem ln_RL_49 : Cond.methodLink RL 49 yX12_why ∈ lw_good := li_6 131 (by decide +kernel) (by decide +kernel)
noncomputable def f_L_why (a1 : Int) (a2 : Int) (I : Mem) : Option ((Int) × Mem) :=
bndX (f_PR_why a1 a2 I) (fun x3 J2 =>
ltI (sI J2 29 0 0 (w32 x3)) fun J4 =>
some (0, J4)) fun E8 J6 =>
if E8 = xIA then
some (1, J6)
else none
set_option maxRecDepth 20000 in
theorem R_L_why (Z : ZT) (a1 : Int) (a2 : Int) (I : Mem) (r : Int) (J : Mem) (hf : f_L_why a1 a2 I = some (r, J)) : RunsH Z yL_why cL_why 5 (some .int) 7 [vr Z 0 0, vi a1, vi a2, vr Z 29 0] I (some (vi r), J) := by
  refine RunsH.of (rv := fun x => some (vi x)) (by decide +kernel) (Nat.le_of_ble_eq_true rfl) hf (fun gr => ?_)
  unfold f_L_why
  refine WQ.loc [0, 1, 2, 3] (lv' := [(0, vr Z 0 0), (1, vi a1), (2, vi a2), (3, vr Z 29 0)]) rfl ?_
  refine wq_aload_n dL_why_0 3 rfl rfl ?_
  refine wq_iconst dL_why_1 ?_
  refine wq_aload_n dL_why_2 0 rfl rfl ?_
  refine wq_iload_n dL_why_3 1 rfl rfl ?_
  refine wq_iload_n dL_why_4 2 rfl rfl ?_
  refine wq_callX (rv := fun x => some (vi x)) M_PR_why (R_PR_why Z a1 a2 _) ob_0 rfl rfl (by decide) (by decide) (Nat.le_of_ble_eq_true rfl) ln_RL_49 dL_why_5 (fun gr1 x3 J2 => ?_) (fun E8 J6 => ?_)
  · refine wq_i2l dL_why_8 ?_
    refine wq_last dL_why_9 (fun J4 => ?_)
    refine wq_goto 17 dL_why_10 (by decide) ?_
    refine wq_iconst dL_why_17 ?_
    exact wq_iret rfl rfl dL_why_18
  · refine HX.here (tgt := 13) ⟨[], (0, 10, 13, 13), [], by decide +kernel, (fun z hz => by cases hz), rfl, rfl, by decide, hx_IA, hc_IA⟩ (fun gr5 q7 => ?_) ?_
    · refine wq_astore (lv' := [(4, .ref q7), (0, vr Z 0 0), (1, vi a1), (2, vi a2), (3, vr Z 29 0)]) dL_why_13 (by decide) rfl ?_
      refine wq_iconst dL_why_15 ?_
      exact wq_iret rfl rfl dL_why_16
    exact HX.none

theorem M_PR_gain : MwV yX12_gain cX12_gain 6 (some .int) 2 := ⟨li_6 142 (by decide +kernel) (by decide +kernel), li_6 140 (by decide +kernel) (by decide +kernel), li_6 141 (by decide +kernel) (by decide +kernel), li_1 1 (by decide +kernel) (by decide +kernel), by decide +kernel⟩
theorem ln_RL_52 : Cond.methodLink RL 52 yX12_gain ∈ lw_good := li_6 139 (by decide +kernel) (by decide +kernel)
noncomputable def f_L_gain (a1 : Int) (a2 : Int) (I : Mem) : Option ((Int) × Mem) :=
bndX (f_PR_gain a1 a2 I) (fun x3 J2 =>
ltI (sI J2 29 0 0 (w32 x3)) fun J4 =>
some (0, J4)) fun E8 J6 =>
if E8 = xIA then
some (1, J6)
else none
set_option maxRecDepth 20000 in
theorem R_L_gain (Z : ZT) (a1 : Int) (a2 : Int) (I : Mem) (r : Int) (J : Mem) (hf : f_L_gain a1 a2 I = some (r, J)) : RunsH Z yL_gain cL_gain 5 (some .int) 7 [vr Z 0 0, vi a1, vi a2, vr Z 29 0] I (some (vi r), J) := by
  refine RunsH.of (rv := fun x => some (vi x)) (by decide +kernel) (Nat.le_of_ble_eq_true rfl) hf (fun gr => ?_)
  unfold f_L_gain
  refine WQ.loc [0, 1, 2, 3] (lv' := [(0, vr Z 0 0), (1, vi a1), (2, vi a2), (3, vr Z 29 0)]) rfl ?_
  refine wq_aload_n dL_gain_0 3 rfl rfl ?_
  refine wq_iconst dL_gain_1 ?_
  refine wq_aload_n dL_gain_2 0 rfl rfl ?_
  refine wq_iload_n dL_gain_3 1 rfl rfl ?_
  refine wq_iload_n dL_gain_4 2 rfl rfl ?_
  refine wq_callX (rv := fun x => some (vi x)) M_PR_gain (R_PR_gain Z a1 a2 _) ob_0 rfl rfl (by decide) (by decide) (Nat.le_of_ble_eq_true rfl) ln_RL_52 dL_gain_5 (fun gr1 x3 J2 => ?_) (fun E8 J6 => ?_)
  · refine wq_i2l dL_gain_8 ?_
    refine wq_last dL_gain_9 (fun J4 => ?_)
    refine wq_goto 17 dL_gain_10 (by decide) ?_
    refine wq_iconst dL_gain_17 ?_
    exact wq_iret rfl rfl dL_gain_18
  · refine HX.here (tgt := 13) ⟨[], (0, 10, 13, 13), [], by decide +kernel, (fun z hz => by cases hz), rfl, rfl, by decide, hx_IA, hc_IA⟩ (fun gr5 q7 => ?_) ?_
    · refine wq_astore (lv' := [(4, .ref q7), (0, vr Z 0 0), (1, vi a1), (2, vi a2), (3, vr Z 29 0)]) dL_gain_13 (by decide) rfl ?_
      refine wq_iconst dL_gain_15 ?_
      exact wq_iret rfl rfl dL_gain_16
    exact HX.none

theorem M_PR_expand : MwV yX12_expand cX12_expand 2 (some .int) 1 := ⟨li_6 170 (by decide +kernel) (by decide +kernel), li_6 168 (by decide +kernel) (by decide +kernel), li_6 169 (by decide +kernel) (by decide +kernel), li_1 1 (by decide +kernel) (by decide +kernel), by decide +kernel⟩
theorem ln_RL_64 : Cond.methodLink RL 64 yX12_expand ∈ lw_good := li_6 167 (by decide +kernel) (by decide +kernel)
noncomputable def f_L_expand (a1 : Int) (I : Mem) : Option ((Int) × Mem) :=
bndX (f_PR_expand a1 I) (fun x3 J2 =>
ltI (sI J2 29 0 0 (w32 x3)) fun J4 =>
some (0, J4)) fun E8 J6 =>
if E8 = xIO then
some (1, J6)
else none
set_option maxRecDepth 20000 in
theorem R_L_expand (Z : ZT) (a1 : Int) (I : Mem) (r : Int) (J : Mem) (hf : f_L_expand a1 I = some (r, J)) : RunsH Z yL_expand cL_expand 4 (some .int) 7 [vr Z 0 0, vi a1, vr Z 29 0] I (some (vi r), J) := by
  refine RunsH.of (rv := fun x => some (vi x)) (by decide +kernel) (Nat.le_of_ble_eq_true rfl) hf (fun gr => ?_)
  unfold f_L_expand
  refine WQ.loc [0, 1, 2] (lv' := [(0, vr Z 0 0), (1, vi a1), (2, vr Z 29 0)]) rfl ?_
  refine wq_aload_n dL_expand_0 2 rfl rfl ?_
  refine wq_iconst dL_expand_1 ?_
  refine wq_aload_n dL_expand_2 0 rfl rfl ?_
  refine wq_iload_n dL_expand_3 1 rfl rfl ?_
  refine wq_callX (rv := fun x => some (vi x)) M_PR_expand (R_PR_expand Z a1 _) ob_0 rfl rfl (by decide) (by decide) (Nat.le_of_ble_eq_true rfl) ln_RL_64 dL_expand_4 (fun gr1 x3 J2 => ?_) (fun E8 J6 => ?_)
  · refine wq_i2l dL_expand_7 ?_
    refine wq_last dL_expand_8 (fun J4 => ?_)
    refine wq_goto 15 dL_expand_9 (by decide) ?_
    refine wq_iconst dL_expand_15 ?_
    exact wq_iret rfl rfl dL_expand_16
  · refine HX.here (tgt := 12) ⟨[], (0, 9, 12, 19), [], by decide +kernel, (fun z hz => by cases hz), rfl, rfl, by decide, hx_IO, hc_IO⟩ (fun gr5 q7 => ?_) ?_
    · refine wq_astore_n (lv' := [(3, .ref q7), (0, vr Z 0 0), (1, vi a1), (2, vr Z 29 0)]) dL_expand_12 rfl (by decide) rfl ?_
      refine wq_iconst dL_expand_13 ?_
      exact wq_iret rfl rfl dL_expand_14
    exact HX.none

theorem M_PR_append : MwV yX12_append cX12_append 2 (some .int) 1 := ⟨li_6 177 (by decide +kernel) (by decide +kernel), li_6 175 (by decide +kernel) (by decide +kernel), li_6 176 (by decide +kernel) (by decide +kernel), li_1 1 (by decide +kernel) (by decide +kernel), by decide +kernel⟩
theorem ln_RL_67 : Cond.methodLink RL 67 yX12_append ∈ lw_good := li_6 174 (by decide +kernel) (by decide +kernel)
noncomputable def f_L_append (a1 : Int) (I : Mem) : Option ((Int) × Mem) :=
bndX (f_PR_append a1 I) (fun x3 J2 =>
ltI (sI J2 29 0 0 (w32 x3)) fun J4 =>
some (0, J4)) fun E8 J6 =>
if E8 = xIA then
some (1, J6)
else none
set_option maxRecDepth 20000 in
theorem R_L_append (Z : ZT) (a1 : Int) (I : Mem) (r : Int) (J : Mem) (hf : f_L_append a1 I = some (r, J)) : RunsH Z yL_append cL_append 4 (some .int) 7 [vr Z 0 0, vi a1, vr Z 29 0] I (some (vi r), J) := by
  refine RunsH.of (rv := fun x => some (vi x)) (by decide +kernel) (Nat.le_of_ble_eq_true rfl) hf (fun gr => ?_)
  unfold f_L_append
  refine WQ.loc [0, 1, 2] (lv' := [(0, vr Z 0 0), (1, vi a1), (2, vr Z 29 0)]) rfl ?_
  refine wq_aload_n dL_append_0 2 rfl rfl ?_
  refine wq_iconst dL_append_1 ?_
  refine wq_aload_n dL_append_2 0 rfl rfl ?_
  refine wq_iload_n dL_append_3 1 rfl rfl ?_
  refine wq_callX (rv := fun x => some (vi x)) M_PR_append (R_PR_append Z a1 _) ob_0 rfl rfl (by decide) (by decide) (Nat.le_of_ble_eq_true rfl) ln_RL_67 dL_append_4 (fun gr1 x3 J2 => ?_) (fun E8 J6 => ?_)
  · refine wq_i2l dL_append_7 ?_
    refine wq_last dL_append_8 (fun J4 => ?_)
    refine wq_goto 15 dL_append_9 (by decide) ?_
    refine wq_iconst dL_append_15 ?_
    exact wq_iret rfl rfl dL_append_16
  · refine HX.here (tgt := 12) ⟨[], (0, 9, 12, 13), [], by decide +kernel, (fun z hz => by cases hz), rfl, rfl, by decide, hx_IA, hc_IA⟩ (fun gr5 q7 => ?_) ?_
    · refine wq_astore_n (lv' := [(3, .ref q7), (0, vr Z 0 0), (1, vi a1), (2, vr Z 29 0)]) dL_append_12 rfl (by decide) rfl ?_
      refine wq_iconst dL_append_13 ?_
      exact wq_iret rfl rfl dL_append_14
    exact HX.none

theorem M_PR_cut : MwV yX12_cut cX12_cut 2 (some .int) 1 := ⟨li_6 184 (by decide +kernel) (by decide +kernel), li_6 182 (by decide +kernel) (by decide +kernel), li_6 183 (by decide +kernel) (by decide +kernel), li_1 1 (by decide +kernel) (by decide +kernel), by decide +kernel⟩
theorem ln_RL_70 : Cond.methodLink RL 70 yX12_cut ∈ lw_good := li_6 181 (by decide +kernel) (by decide +kernel)
noncomputable def f_L_cut (a1 : Int) (I : Mem) : Option ((Int) × Mem) :=
bndX (f_PR_cut a1 I) (fun x3 J2 =>
ltI (sI J2 29 0 0 (w32 x3)) fun J4 =>
some (0, J4)) fun E8 J6 =>
if E8 = xIA then
some (1, J6)
else none
set_option maxRecDepth 20000 in
theorem R_L_cut (Z : ZT) (a1 : Int) (I : Mem) (r : Int) (J : Mem) (hf : f_L_cut a1 I = some (r, J)) : RunsH Z yL_cut cL_cut 4 (some .int) 7 [vr Z 0 0, vi a1, vr Z 29 0] I (some (vi r), J) := by
  refine RunsH.of (rv := fun x => some (vi x)) (by decide +kernel) (Nat.le_of_ble_eq_true rfl) hf (fun gr => ?_)
  unfold f_L_cut
  refine WQ.loc [0, 1, 2] (lv' := [(0, vr Z 0 0), (1, vi a1), (2, vr Z 29 0)]) rfl ?_
  refine wq_aload_n dL_cut_0 2 rfl rfl ?_
  refine wq_iconst dL_cut_1 ?_
  refine wq_aload_n dL_cut_2 0 rfl rfl ?_
  refine wq_iload_n dL_cut_3 1 rfl rfl ?_
  refine wq_callX (rv := fun x => some (vi x)) M_PR_cut (R_PR_cut Z a1 _) ob_0 rfl rfl (by decide) (by decide) (Nat.le_of_ble_eq_true rfl) ln_RL_70 dL_cut_4 (fun gr1 x3 J2 => ?_) (fun E8 J6 => ?_)
  · refine wq_i2l dL_cut_7 ?_
    refine wq_last dL_cut_8 (fun J4 => ?_)
    refine wq_goto 15 dL_cut_9 (by decide) ?_
    refine wq_iconst dL_cut_15 ?_
    exact wq_iret rfl rfl dL_cut_16
  · refine HX.here (tgt := 12) ⟨[], (0, 9, 12, 13), [], by decide +kernel, (fun z hz => by cases hz), rfl, rfl, by decide, hx_IA, hc_IA⟩ (fun gr5 q7 => ?_) ?_
    · refine wq_astore_n (lv' := [(3, .ref q7), (0, vr Z 0 0), (1, vi a1), (2, vr Z 29 0)]) dL_cut_12 rfl (by decide) rfl ?_
      refine wq_iconst dL_cut_13 ?_
      exact wq_iret rfl rfl dL_cut_14
    exact HX.none

theorem M_PR_set : MwV yX12_set cX12_set 4 (some .int) 2 := ⟨li_6 191 (by decide +kernel) (by decide +kernel), li_6 189 (by decide +kernel) (by decide +kernel), li_6 190 (by decide +kernel) (by decide +kernel), li_1 1 (by decide +kernel) (by decide +kernel), by decide +kernel⟩
theorem ln_RL_73 : Cond.methodLink RL 73 yX12_set ∈ lw_good := li_6 188 (by decide +kernel) (by decide +kernel)
noncomputable def f_L_set (a1 : Int) (a2 : Int) (I : Mem) : Option ((Int) × Mem) :=
bndX (f_PR_set a1 a2 I) (fun x3 J2 =>
ltI (sI J2 29 0 0 (w32 x3)) fun J4 =>
some (0, J4)) fun E8 J6 =>
if E8 = xIA then
some (1, J6)
else none
set_option maxRecDepth 20000 in
theorem R_L_set (Z : ZT) (a1 : Int) (a2 : Int) (I : Mem) (r : Int) (J : Mem) (hf : f_L_set a1 a2 I = some (r, J)) : RunsH Z yL_set cL_set 5 (some .int) 7 [vr Z 0 0, vi a1, vi a2, vr Z 29 0] I (some (vi r), J) := by
  refine RunsH.of (rv := fun x => some (vi x)) (by decide +kernel) (Nat.le_of_ble_eq_true rfl) hf (fun gr => ?_)
  unfold f_L_set
  refine WQ.loc [0, 1, 2, 3] (lv' := [(0, vr Z 0 0), (1, vi a1), (2, vi a2), (3, vr Z 29 0)]) rfl ?_
  refine wq_aload_n dL_set_0 3 rfl rfl ?_
  refine wq_iconst dL_set_1 ?_
  refine wq_aload_n dL_set_2 0 rfl rfl ?_
  refine wq_iload_n dL_set_3 1 rfl rfl ?_
  refine wq_iload_n dL_set_4 2 rfl rfl ?_
  refine wq_callX (rv := fun x => some (vi x)) M_PR_set (R_PR_set Z a1 a2 _) ob_0 rfl rfl (by decide) (by decide) (Nat.le_of_ble_eq_true rfl) ln_RL_73 dL_set_5 (fun gr1 x3 J2 => ?_) (fun E8 J6 => ?_)
  · refine wq_i2l dL_set_8 ?_
    refine wq_last dL_set_9 (fun J4 => ?_)
    refine wq_goto 17 dL_set_10 (by decide) ?_
    refine wq_iconst dL_set_17 ?_
    exact wq_iret rfl rfl dL_set_18
  · refine HX.here (tgt := 13) ⟨[], (0, 10, 13, 13), [], by decide +kernel, (fun z hz => by cases hz), rfl, rfl, by decide, hx_IA, hc_IA⟩ (fun gr5 q7 => ?_) ?_
    · refine wq_astore (lv' := [(4, .ref q7), (0, vr Z 0 0), (1, vi a1), (2, vi a2), (3, vr Z 29 0)]) dL_set_13 (by decide) rfl ?_
      refine wq_iconst dL_set_15 ?_
      exact wq_iret rfl rfl dL_set_16
    exact HX.none

theorem M_PR_undo : MwV yX12_undo cX12_undo 1 (some .int) 0 := ⟨li_6 199 (by decide +kernel) (by decide +kernel), li_6 197 (by decide +kernel) (by decide +kernel), li_6 198 (by decide +kernel) (by decide +kernel), li_1 1 (by decide +kernel) (by decide +kernel), by decide +kernel⟩
theorem ln_RL_76 : Cond.methodLink RL 76 yX12_undo ∈ lw_good := li_6 196 (by decide +kernel) (by decide +kernel)
noncomputable def f_L_undo  (I : Mem) : Option ((Int) × Mem) :=
bndX (f_PR_undo  I) (fun x3 J2 =>
ltI (sI J2 29 0 0 (w32 x3)) fun J4 =>
some (0, J4)) fun E8 J6 =>
if E8 = xNS then
some (1, J6)
else none
set_option maxRecDepth 20000 in
theorem R_L_undo (Z : ZT)  (I : Mem) (r : Int) (J : Mem) (hf : f_L_undo I = some (r, J)) : RunsH Z yL_undo cL_undo 3 (some .int) 7 [vr Z 0 0, vr Z 29 0] I (some (vi r), J) := by
  refine RunsH.of (rv := fun x => some (vi x)) (by decide +kernel) (Nat.le_of_ble_eq_true rfl) hf (fun gr => ?_)
  unfold f_L_undo
  refine WQ.loc [0, 1] (lv' := [(0, vr Z 0 0), (1, vr Z 29 0)]) rfl ?_
  refine wq_aload_n dL_undo_0 1 rfl rfl ?_
  refine wq_iconst dL_undo_1 ?_
  refine wq_aload_n dL_undo_2 0 rfl rfl ?_
  refine wq_callX (rv := fun x => some (vi x)) M_PR_undo (R_PR_undo Z _) ob_0 rfl rfl (by decide) (by decide) (Nat.le_of_ble_eq_true rfl) ln_RL_76 dL_undo_3 (fun gr1 x3 J2 => ?_) (fun E8 J6 => ?_)
  · refine wq_i2l dL_undo_6 ?_
    refine wq_last dL_undo_7 (fun J4 => ?_)
    refine wq_goto 14 dL_undo_8 (by decide) ?_
    refine wq_iconst dL_undo_14 ?_
    exact wq_iret rfl rfl dL_undo_15
  · refine HX.here (tgt := 11) ⟨[], (0, 8, 11, 80), [], by decide +kernel, (fun z hz => by cases hz), rfl, rfl, by decide, hx_NS, hc_NS⟩ (fun gr5 q7 => ?_) ?_
    · refine wq_astore_n (lv' := [(2, .ref q7), (0, vr Z 0 0), (1, vr Z 29 0)]) dL_undo_11 rfl (by decide) rfl ?_
      refine wq_iconst dL_undo_12 ?_
      exact wq_iret rfl rfl dL_undo_13
    exact HX.none

theorem M_PR_save : MwV yX12_save cX12_save 2 (some .int) 1 := ⟨li_6 225 (by decide +kernel) (by decide +kernel), li_6 223 (by decide +kernel) (by decide +kernel), li_6 224 (by decide +kernel) (by decide +kernel), li_1 1 (by decide +kernel) (by decide +kernel), by decide +kernel⟩
theorem ln_RL_82 : Cond.methodLink RL 82 yX12_save ∈ lw_good := li_6 222 (by decide +kernel) (by decide +kernel)
noncomputable def f_L_save (a1 : Int) (I : Mem) : Option ((Int) × Mem) :=
bndX (f_PR_save a1 I) (fun x3 J2 =>
ltI (sI J2 29 0 0 (w32 x3)) fun J4 =>
some (0, J4)) fun E8 J6 =>
if E8 = xIA then
some (1, J6)
else none
set_option maxRecDepth 20000 in
theorem R_L_save (Z : ZT) (a1 : Int) (I : Mem) (r : Int) (J : Mem) (hf : f_L_save a1 I = some (r, J)) : RunsH Z yL_save cL_save 4 (some .int) 7 [vr Z 0 0, vi a1, vr Z 29 0] I (some (vi r), J) := by
  refine RunsH.of (rv := fun x => some (vi x)) (by decide +kernel) (Nat.le_of_ble_eq_true rfl) hf (fun gr => ?_)
  unfold f_L_save
  refine WQ.loc [0, 1, 2] (lv' := [(0, vr Z 0 0), (1, vi a1), (2, vr Z 29 0)]) rfl ?_
  refine wq_aload_n dL_save_0 2 rfl rfl ?_
  refine wq_iconst dL_save_1 ?_
  refine wq_aload_n dL_save_2 0 rfl rfl ?_
  refine wq_iload_n dL_save_3 1 rfl rfl ?_
  refine wq_callX (rv := fun x => some (vi x)) M_PR_save (R_PR_save Z a1 _) ob_0 rfl rfl (by decide) (by decide) (Nat.le_of_ble_eq_true rfl) ln_RL_82 dL_save_4 (fun gr1 x3 J2 => ?_) (fun E8 J6 => ?_)
  · refine wq_i2l dL_save_7 ?_
    refine wq_last dL_save_8 (fun J4 => ?_)
    refine wq_goto 15 dL_save_9 (by decide) ?_
    refine wq_iconst dL_save_15 ?_
    exact wq_iret rfl rfl dL_save_16
  · refine HX.here (tgt := 12) ⟨[], (0, 9, 12, 13), [], by decide +kernel, (fun z hz => by cases hz), rfl, rfl, by decide, hx_IA, hc_IA⟩ (fun gr5 q7 => ?_) ?_
    · refine wq_astore_n (lv' := [(3, .ref q7), (0, vr Z 0 0), (1, vi a1), (2, vr Z 29 0)]) dL_save_12 rfl (by decide) rfl ?_
      refine wq_iconst dL_save_13 ?_
      exact wq_iret rfl rfl dL_save_14
    exact HX.none

theorem M_PR_restore : MwV yX12_restore cX12_restore 2 (some .int) 1 := ⟨li_6 236 (by decide +kernel) (by decide +kernel), li_6 234 (by decide +kernel) (by decide +kernel), li_6 235 (by decide +kernel) (by decide +kernel), li_1 1 (by decide +kernel) (by decide +kernel), by decide +kernel⟩
theorem ln_RL_85 : Cond.methodLink RL 85 yX12_restore ∈ lw_good := li_6 233 (by decide +kernel) (by decide +kernel)
noncomputable def f_L_restore (a1 : Int) (I : Mem) : Option ((Int) × Mem) :=
bndX (f_PR_restore a1 I) (fun x3 J2 =>
ltI (sI J2 29 0 0 (w32 x3)) fun J4 =>
some (0, J4)) fun E8 J6 =>
if E8 = xIA then
some (1, J6)
else if E8 = xNS then
some (2, J6)
else none
set_option maxRecDepth 20000 in
theorem R_L_restore (Z : ZT) (a1 : Int) (I : Mem) (r : Int) (J : Mem) (hf : f_L_restore a1 I = some (r, J)) : RunsH Z yL_restore cL_restore 4 (some .int) 7 [vr Z 0 0, vi a1, vr Z 29 0] I (some (vi r), J) := by
  refine RunsH.of (rv := fun x => some (vi x)) (by decide +kernel) (Nat.le_of_ble_eq_true rfl) hf (fun gr => ?_)
  unfold f_L_restore
  refine WQ.loc [0, 1, 2] (lv' := [(0, vr Z 0 0), (1, vi a1), (2, vr Z 29 0)]) rfl ?_
  refine wq_aload_n dL_restore_0 2 rfl rfl ?_
  refine wq_iconst dL_restore_1 ?_
  refine wq_aload_n dL_restore_2 0 rfl rfl ?_
  refine wq_iload_n dL_restore_3 1 rfl rfl ?_
  refine wq_callX (rv := fun x => some (vi x)) M_PR_restore (R_PR_restore Z a1 _) ob_0 rfl rfl (by decide) (by decide) (Nat.le_of_ble_eq_true rfl) ln_RL_85 dL_restore_4 (fun gr1 x3 J2 => ?_) (fun E8 J6 => ?_)
  · refine wq_i2l dL_restore_7 ?_
    refine wq_last dL_restore_8 (fun J4 => ?_)
    refine wq_goto 18 dL_restore_9 (by decide) ?_
    refine wq_iconst dL_restore_18 ?_
    exact wq_iret rfl rfl dL_restore_19
  · refine HX.here (tgt := 12) ⟨[], (0, 9, 12, 13), [(0, 9, 15, 80)], by decide +kernel, (fun z hz => by cases hz), rfl, rfl, by decide, hx_IA, hc_IA⟩ (fun gr5 q7 => ?_) ?_
    · refine wq_astore_n (lv' := [(3, .ref q7), (0, vr Z 0 0), (1, vi a1), (2, vr Z 29 0)]) dL_restore_12 rfl (by decide) rfl ?_
      refine wq_iconst dL_restore_13 ?_
      exact wq_iret rfl rfl dL_restore_14
    refine HX.here (tgt := 15) ⟨[(0, 9, 12, 13)], (0, 9, 15, 80), [], by decide +kernel, (fun z hz => by cases List.mem_singleton.mp hz; exact ⟨by decide, _, hx_IA, by decide +kernel⟩), rfl, rfl, by decide, hx_NS, hc_NS⟩ (fun gr5 q7 => ?_) ?_
    · refine wq_astore_n (lv' := [(3, .ref q7), (0, vr Z 0 0), (1, vi a1), (2, vr Z 29 0)]) dL_restore_15 rfl (by decide) rfl ?_
      refine wq_iconst dL_restore_16 ?_
      exact wq_iret rfl rfl dL_restore_17
    exact HX.none

theorem M_PR_sizeIn : MwV yX12_sizeIn cX12_sizeIn 2 (some .int) 1 := ⟨li_6 149 (by decide +kernel) (by decide +kernel), li_6 147 (by decide +kernel) (by decide +kernel), li_6 148 (by decide +kernel) (by decide +kernel), li_1 1 (by decide +kernel) (by decide +kernel), by decide +kernel⟩
theorem ln_RL_55 : Cond.methodLink RL 55 yX12_sizeIn ∈ lw_good := li_6 146 (by decide +kernel) (by decide +kernel)
noncomputable def f_L_sizeIn (a1 : Int) (I : Mem) : Option ((Int) × Mem) :=
bndX (f_PR_sizeIn a1 I) (fun x3 J2 =>
ltI (sI J2 29 0 0 (w32 x3)) fun J4 =>
some (0, J4)) fun E8 J6 =>
if E8 = xIA then
some (1, J6)
else none
set_option maxRecDepth 20000 in
theorem R_L_sizeIn (Z : ZT) (a1 : Int) (I : Mem) (r : Int) (J : Mem) (hf : f_L_sizeIn a1 I = some (r, J)) : RunsH Z yL_sizeIn cL_sizeIn 4 (some .int) 7 [vr Z 0 0, vi a1, vr Z 29 0] I (some (vi r), J) := by
  refine RunsH.of (rv := fun x => some (vi x)) (by decide +kernel) (Nat.le_of_ble_eq_true rfl) hf (fun gr => ?_)
  unfold f_L_sizeIn
  refine WQ.loc [0, 1, 2] (lv' := [(0, vr Z 0 0), (1, vi a1), (2, vr Z 29 0)]) rfl ?_
  refine wq_aload_n dL_sizeIn_0 2 rfl rfl ?_
  refine wq_iconst dL_sizeIn_1 ?_
  refine wq_aload_n dL_sizeIn_2 0 rfl rfl ?_
  refine wq_iload_n dL_sizeIn_3 1 rfl rfl ?_
  refine wq_callX (rv := fun x => some (vi x)) M_PR_sizeIn (R_PR_sizeIn Z a1 _) ob_0 rfl rfl (by decide) (by decide) (Nat.le_of_ble_eq_true rfl) ln_RL_55 dL_sizeIn_4 (fun gr1 x3 J2 => ?_) (fun E8 J6 => ?_)
  · refine wq_i2l dL_sizeIn_7 ?_
    refine wq_last dL_sizeIn_8 (fun J4 => ?_)
    refine wq_goto 15 dL_sizeIn_9 (by decide) ?_
    refine wq_iconst dL_sizeIn_15 ?_
    exact wq_iret rfl rfl dL_sizeIn_16
  · refine HX.here (tgt := 12) ⟨[], (0, 9, 12, 13), [], by decide +kernel, (fun z hz => by cases hz), rfl, rfl, by decide, hx_IA, hc_IA⟩ (fun gr5 q7 => ?_) ?_
    · refine wq_astore_n (lv' := [(3, .ref q7), (0, vr Z 0 0), (1, vi a1), (2, vr Z 29 0)]) dL_sizeIn_12 rfl (by decide) rfl ?_
      refine wq_iconst dL_sizeIn_13 ?_
      exact wq_iret rfl rfl dL_sizeIn_14
    exact HX.none

theorem M_PR_step : MwV yX12_step cX12_step 2 (some .int) 1 := ⟨li_6 156 (by decide +kernel) (by decide +kernel), li_6 154 (by decide +kernel) (by decide +kernel), li_6 155 (by decide +kernel) (by decide +kernel), li_1 1 (by decide +kernel) (by decide +kernel), by decide +kernel⟩
theorem ln_RL_58 : Cond.methodLink RL 58 yX12_step ∈ lw_good := li_6 153 (by decide +kernel) (by decide +kernel)
noncomputable def f_L_step (a1 : Int) (I : Mem) : Option ((Int) × Mem) :=
bndX (f_PR_step a1 I) (fun x3 J2 =>
ltI (sI J2 29 0 0 (w32 x3)) fun J4 =>
some (0, J4)) fun E8 J6 =>
if E8 = xIA then
some (1, J6)
else none
set_option maxRecDepth 20000 in
theorem R_L_step (Z : ZT) (a1 : Int) (I : Mem) (r : Int) (J : Mem) (hf : f_L_step a1 I = some (r, J)) : RunsH Z yL_step cL_step 4 (some .int) 7 [vr Z 0 0, vi a1, vr Z 29 0] I (some (vi r), J) := by
  refine RunsH.of (rv := fun x => some (vi x)) (by decide +kernel) (Nat.le_of_ble_eq_true rfl) hf (fun gr => ?_)
  unfold f_L_step
  refine WQ.loc [0, 1, 2] (lv' := [(0, vr Z 0 0), (1, vi a1), (2, vr Z 29 0)]) rfl ?_
  refine wq_aload_n dL_step_0 2 rfl rfl ?_
  refine wq_iconst dL_step_1 ?_
  refine wq_aload_n dL_step_2 0 rfl rfl ?_
  refine wq_iload_n dL_step_3 1 rfl rfl ?_
  refine wq_callX (rv := fun x => some (vi x)) M_PR_step (R_PR_step Z a1 _) ob_0 rfl rfl (by decide) (by decide) (Nat.le_of_ble_eq_true rfl) ln_RL_58 dL_step_4 (fun gr1 x3 J2 => ?_) (fun E8 J6 => ?_)
  · refine wq_i2l dL_step_7 ?_
    refine wq_last dL_step_8 (fun J4 => ?_)
    refine wq_goto 15 dL_step_9 (by decide) ?_
    refine wq_iconst dL_step_15 ?_
    exact wq_iret rfl rfl dL_step_16
  · refine HX.here (tgt := 12) ⟨[], (0, 9, 12, 13), [], by decide +kernel, (fun z hz => by cases hz), rfl, rfl, by decide, hx_IA, hc_IA⟩ (fun gr5 q7 => ?_) ?_
    · refine wq_astore_n (lv' := [(3, .ref q7), (0, vr Z 0 0), (1, vi a1), (2, vr Z 29 0)]) dL_step_12 rfl (by decide) rfl ?_
      refine wq_iconst dL_step_13 ?_
      exact wq_iret rfl rfl dL_step_14
    exact HX.none

theorem M_PR_make : MwV yX12_make cX12_make 4 (some .int) 2 := ⟨li_6 163 (by decide +kernel) (by decide +kernel), li_6 161 (by decide +kernel) (by decide +kernel), li_6 162 (by decide +kernel) (by decide +kernel), li_1 1 (by decide +kernel) (by decide +kernel), by decide +kernel⟩
theorem ln_RL_61 : Cond.methodLink RL 61 yX12_make ∈ lw_good := li_6 160 (by decide +kernel) (by decide +kernel)
noncomputable def f_L_make (a1 : Int) (a2 : Int) (I : Mem) : Option ((Int) × Mem) :=
bndX (f_PR_make a1 a2 I) (fun x3 J2 =>
ltI (sI J2 29 0 0 (w32 x3)) fun J4 =>
some (0, J4)) fun E8 J6 =>
if E8 = xIA then
some (1, J6)
else none
set_option maxRecDepth 20000 in
theorem R_L_make (Z : ZT) (a1 : Int) (a2 : Int) (I : Mem) (r : Int) (J : Mem) (hf : f_L_make a1 a2 I = some (r, J)) : RunsH Z yL_make cL_make 5 (some .int) 7 [vr Z 0 0, vi a1, vi a2, vr Z 29 0] I (some (vi r), J) := by
  refine RunsH.of (rv := fun x => some (vi x)) (by decide +kernel) (Nat.le_of_ble_eq_true rfl) hf (fun gr => ?_)
  unfold f_L_make
  refine WQ.loc [0, 1, 2, 3] (lv' := [(0, vr Z 0 0), (1, vi a1), (2, vi a2), (3, vr Z 29 0)]) rfl ?_
  refine wq_aload_n dL_make_0 3 rfl rfl ?_
  refine wq_iconst dL_make_1 ?_
  refine wq_aload_n dL_make_2 0 rfl rfl ?_
  refine wq_iload_n dL_make_3 1 rfl rfl ?_
  refine wq_iload_n dL_make_4 2 rfl rfl ?_
  refine wq_callX (rv := fun x => some (vi x)) M_PR_make (R_PR_make Z a1 a2 _) ob_0 rfl rfl (by decide) (by decide) (Nat.le_of_ble_eq_true rfl) ln_RL_61 dL_make_5 (fun gr1 x3 J2 => ?_) (fun E8 J6 => ?_)
  · refine wq_i2l dL_make_8 ?_
    refine wq_last dL_make_9 (fun J4 => ?_)
    refine wq_goto 17 dL_make_10 (by decide) ?_
    refine wq_iconst dL_make_17 ?_
    exact wq_iret rfl rfl dL_make_18
  · refine HX.here (tgt := 13) ⟨[], (0, 10, 13, 13), [], by decide +kernel, (fun z hz => by cases hz), rfl, rfl, by decide, hx_IA, hc_IA⟩ (fun gr5 q7 => ?_) ?_
    · refine wq_astore (lv' := [(4, .ref q7), (0, vr Z 0 0), (1, vi a1), (2, vi a2), (3, vr Z 29 0)]) dL_make_13 (by decide) rfl ?_
      refine wq_iconst dL_make_15 ?_
      exact wq_iret rfl rfl dL_make_16
    exact HX.none
end
