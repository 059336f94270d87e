/-! ===== what constructors make: cells one behind another ===== -/
def CHp (D : va_G) (B : Nat) (H0 : Heap) (n : Nat) (E : Nat → va_E) (H : Heap) : Prop :=
  B = H0.size ∧ H.size = B + n ∧ (∀ q : Nat, q < B → H[q]? = H0[q]?) ∧ ∀ j : Nat, j < n → va_at D cls (B + j, E j) H
def uE (E : Nat → va_E) (j : Nat) (e : va_E) : Nat → va_E := fun q => if q = j then e else E q
theorem uE_self (E : Nat → va_E) (j : Nat) (e : va_E) : uE E j e j = e := if_pos rfl
theorem uE_ne {E : Nat → va_E} {j q : Nat} {e : va_E} (h : q ≠ j) : uE E j e q = E q := if_neg h
theorem CHp.to {D : va_G} {B n : Nat} {H0 H : Heap} {E E' : Nat → va_E} (h : CHp D B H0 n E H) (he : ∀ j : Nat, j < n → E j = E' j) : CHp D B H0 n E' H :=
  ⟨h.1, h.2.1, h.2.2.1, fun j hj => by rw [← he j hj]; exact h.2.2.2 j hj⟩
theorem CHp.upd {D : va_G} {B n j : Nat} {H0 H H1 : Heap} {E : Nat → va_E} {e : va_E} (h : CHp D B H0 n E H) (hz : H1.size = H.size) (ho : ∀ q : Nat, q ≠ B + j → H1[q]? = H[q]?) (he : va_at D cls (B + j, e) H1) : CHp D B H0 n (uE E j e) H1 := by
  obtain ⟨h1, h2, h3, h4⟩ := h
  refine ⟨h1, by rw [hz]; exact h2, fun q hq => (ho q (by omega)).trans (h3 q hq), fun i hi => ?_⟩
  by_cases hij : i = j
  · subst hij; rw [uE_self]; exact he
  · rw [uE_ne hij]; exact (h4 i hi).kept (ho _ (by omega))
theorem CHp.app {D : va_G} {B n : Nat} {H0 H H1 : Heap} {E : Nat → va_E} {e : va_E} (h : CHp D B H0 n E H) (hz : H1.size = B + n + 1) (ho : ∀ q : Nat, q < B + n → H1[q]? = H[q]?) (he : va_at D cls (B + n, e) H1) : CHp D B H0 (n + 1) (uE E n e) H1 := by
  obtain ⟨h1, h2, h3, h4⟩ := h
  refine ⟨h1, by rw [hz]; omega, fun q hq => (ho q (by omega)).trans (h3 q hq), fun i hi => ?_⟩
  by_cases hij : i = n
  · subst hij; rw [uE_self]; exact he
  · rw [uE_ne hij]; exact (h4 i (by omega)).kept (ho _ (by omega))
def aoC : List String := [RX5, RX1, RX11]
def KC (Z : ZT) (U : State) : Prop := KK Z U ∧ ∀ C ∈ aoC, va_AO C U
theorem KC.warm {Z : ZT} {s U : State} (hW : s.WarmedH U.vm) (h : KC Z s) : KC Z U := ⟨h.1.warm hW, fun C hC => (h.2 C hC).moved hW.alike⟩
theorem KC.same {Z : ZT} {s U : State} (hv : U.vm = s.vm) (h : KC Z s) : KC Z U := ⟨h.1.same hv, fun C hC => (h.2 C hC).moved (by rw [hv]; exact Vm.Alike.refl s.vm)⟩
abbrev BB (p : Program) (s : State) (m : MethodId) (args : Array Value) (c : Code) (own : String) (cc : ByteArray) (nL : Nat) (Z : ZT) : Prop :=
  p.tables.exec = Jvm.exec ∧ c.code = cc ∧ s.vm.findClass own = some m.cls ∧ (∀ w ∈ lw_good, w.before args s = true) ∧ KC Z s ∧ c.maxLocals = nL
def PcC (Z : ZT) (av : List Value) (P : Heap → Prop) : Array Value → State → Prop := fun v U => v = av.toArray ∧ P U.heap ∧ KC Z U
def QcC (P : Heap → Prop) : Array Value → State → Outcome → State → Prop := fun _ _ oc t => oc = .returned none ∧ P t.heap
/-- a constructor's contract -/
def RunsC (Z : ZT) (y : MethodName) (cc : ByteArray) (maxL h : Nat) (av : List Value) (mc ms : Nat) (pre post : Heap → Prop) : Prop :=
  ∀ l : Launch, l.stackTraces = false → Met l y (wsAll y cc maxL none) (rmH h mc ms) (PcC Z av pre) (QcC post) mc ms (zN Z)
theorem RunsC.to {Z : ZT} {y : MethodName} {cc : ByteArray} {maxL h : Nat} {av : List Value} {mc ms : Nat} {pre pre' post post' : Heap → Prop} (hr : RunsC Z y cc maxL h av mc ms pre post) (h1 : pre' = pre) (h2 : post = post') : RunsC Z y cc maxL h av mc ms pre' post' := by
  subst h1 h2; exact hr
section CHR
variable {p : Program} {l : Launch} {e : Env} {R : Room} {s : State} {m : MethodId} {args : Array Value} {below : List Frame} {meth : Method} {c : Code} {H : Heap} {locs : List Loc} {cells slots : Nat} {Q : State → Prop} {cc : ByteArray} {pc nL : Nat} {ls : Array Slot} {rest : List Value} {own : String} {Z : ZT} {B : Nat} {H0 : Heap} {n : Nat} {E : Nat → va_E}
theorem ch_new {C : String} {T : u_T} {N ci index : Nat} (ty : Nat → FieldType) (fs : List Value) (b : BB p s m args c own cc nL Z) (hH : CHp (zD Z) B H0 n E H) (hin : ∀ w ∈ u_ws C T N, w ∈ lw_good) (hty : ∀ k, k < N → parseFieldDescriptor (T k).2.2.1 = some (ty k)) (hcl : Cond.classLink own index C ∈ lw_good) (hinst : Cond.instantiable C N ∈ lw_good) (hini : Cond.initialized C ∈ lw_good) (hc : cls[ci]? = some (C, T, N)) (hfs : ∀ j, j < N → defaultValue (ty j) = vp_V fs j) (hcells : cells + 1 ≤ R.cells) (hslots : slots + N ≤ R.slots) (d : decode cc pc = .ok (.new index, 3))
    (kk : ∀ H1 : Heap, CHp (zD Z) B H0 (n + 1) (uE E n (.inr (ci, fs))) H1 → W p l e R s m args below meth c H1 locs (cells + 1) (slots + N) Q (F0 m (pc + 3) ls (.ref (B + n) :: rest))) : W p l e R s m args below meth c H locs cells slots Q (F0 m pc ls rest) := by
  obtain ⟨hx, hb, hown, hts, hK, -⟩ := b
  have hKn := hK.1.1.1 ci _ hc
  refine W.newcK hx hb hown (hts _ hcl) (hts _ hinst) (hts _ hini) rfl d hcells hslots hKn.2.1 hH.2.1 fun H1 kC hkC e1 z1 o1 => ?_
  exact kk H1 (hH.app z1 o1 ⟨_, hc, (u_born ty hts hin hKn hkC e1 hty).to hfs⟩)
theorem ch_newa {atype : ArrayType} {t0 N' : Nat} {cA : ClassId} {ty : FieldType} {x : Int} (b : BB p s m args c own cc nL Z) (hH : CHp (zD Z) B H0 n E H) (harr : Cond.arrayClass (newarray.typeOf atype) ∈ lw_good) (hty : newarray.typeOf atype = ty) (ht : (tysOf Z)[t0]? = some (cA, ty)) (hra : ∀ U : State, va_RA U cA ty → U.vm.findClass ("[" ++ ty.toString) = some cA) (hdv : defaultValue ty = .int 0) (hn : w32 x = (N' : Int)) (hbytes : N' * componentBytes ty ≤ 536870912) (hcells : cells + 1 ≤ R.cells) (hslots : slots + N' ≤ R.slots) (d : decode cc pc = .ok (.newarray atype, 2))
    (kk : ∀ H1 : Heap, CHp (zD Z) B H0 (n + 1) (uE E n (arI cA N' (fun _ => 0))) H1 → W p l e R s m args below meth c H1 locs (cells + 1) (slots + N') Q (F0 m (pc + 2) ls (.ref (B + n) :: rest))) : W p l e R s m args below meth c H locs cells slots Q (F0 m pc ls (vi x :: rest)) := by
  subst hty
  obtain ⟨hx, hb, hown, hts, hK, -⟩ := b
  refine va_newaK hx hb (hts _ harr) rfl d rfl (w_nn hn (by omega)) ((w_nat hn).trans (Int.toNat_natCast N')) hbytes hcells hslots hH.2.1 (fun H1 cA1 e1 z1 o1 hAr hNm => ?_)
  have hq : cA1 = cA := Option.some.inj (hNm.symm.trans (hra s (hK.1.1.2 t0 _ ht).2))
  subst hq
  refine kk H1 (hH.app z1 o1 ?_)
  show H1[B + n]? = some (vp_cell _ _)
  rw [e1, hdv]
  rfl
theorem ch_newl {t0 N' : Nat} {cA : ClassId} {x : Int} (b : BB p s m args c own cc nL Z) (hH : CHp (zD Z) B H0 n E H) (harr : Cond.arrayClass (newarray.typeOf .long) ∈ lw_good) (ht : (tysOf Z)[t0]? = some (cA, .long)) (hn : w32 x = (N' : Int)) (hbytes : N' * componentBytes .long ≤ 536870912) (hcells : cells + 1 ≤ R.cells) (hslots : slots + N' ≤ R.slots) (d : decode cc pc = .ok (.newarray .long, 2))
    (kk : ∀ H1 : Heap, CHp (zD Z) B H0 (n + 1) (uE E n (.inl (cA, N', .inr (.inl fun _ => Int64.ofInt 0)))) H1 → W p l e R s m args below meth c H1 locs (cells + 1) (slots + N') Q (F0 m (pc + 2) ls (.ref (B + n) :: rest))) : W p l e R s m args below meth c H locs cells slots Q (F0 m pc ls (vi x :: rest)) := by
  obtain ⟨hx, hb, hown, hts, hK, -⟩ := b
  refine va_newaK hx hb (hts _ harr) rfl d rfl (w_nn hn (by omega)) ((w_nat hn).trans (Int.toNat_natCast N')) hbytes hcells hslots hH.2.1 (fun H1 cA1 e1 z1 o1 hAr hNm => ?_)
  have hq : cA1 = cA := Option.some.inj (hNm.symm.trans (hK.1.1.2 t0 _ ht).2)
  subst hq
  refine kk H1 (hH.app z1 o1 ?_)
  show H1[B + n]? = some (vp_cell _ _)
  rw [e1]
  rfl
theorem ch_newq {C : String} {t0 N' index : Nat} {cA : ClassId} {x : Int} (b : BB p s m args c own cc nL Z) (hH : CHp (zD Z) B H0 n E H) (hcl : Cond.classLink own index C ∈ lw_good) (hao : C ∈ aoC) (ht : (tysOf Z)[t0]? = some (cA, .object C)) (hn : w32 x = (N' : Int)) (hbytes : N' * 4 ≤ 536870912) (hcells : cells + 1 ≤ R.cells) (hslots : slots + N' ≤ R.slots) (d : decode cc pc = .ok (.anewarray index, 3))
    (kk : ∀ H1 : Heap, CHp (zD Z) B H0 (n + 1) (uE E n (.inl (cA, N', .inr (.inr (.inr (.inr fun _ => none)))))) H1 → W p l e R s m args below meth c H1 locs (cells + 1) (slots + N') Q (F0 m (pc + 3) ls (.ref (B + n) :: rest))) : W p l e R s m args below meth c H locs cells slots Q (F0 m pc ls (vi x :: rest)) := by
  obtain ⟨hx, hb, hown, hts, hK, -⟩ := b
  have hN : (Int32.ofInt x).toNatClampNeg = N' := (w_nat hn).trans (Int.toNat_natCast N')
  refine W.anew hx hb hown (hts _ hcl) (va_AO.use (hK.2 _ hao)) rfl d rfl (w_nn hn (by omega)) (by rw [hN]; exact hbytes) hcells (by rw [hN]; exact hslots) fun cA1 kA comp f1 f2 f3 f4 => ?_
  obtain ⟨kA', comp', g1, g2, g3, g4⟩ := (hK.1.1.2 t0 _ ht).2
  have hq : cA1 = cA := Option.some.inj (f1.symm.trans g4)
  subst hq
  rw [hN, hH.2.1]
  refine kk _ (hH.app (by rw [Array.size_push, hH.2.1]) (fun q hq => by rw [Array.getElem?_push, if_neg (by rw [hH.2.1]; omega)]) ?_)
  show (H.push _)[B + n]? = some (vp_cell _ _)
  rw [vp_cell_q, ← hH.2.1, Array.getElem?_push_size, ← arrV_new]
  rfl
theorem ch_putG {C fn fd : String} {T : u_T} {N ci index j k : Nat} {ty0 : Nat → FieldType} {fs : List Value} {v : Value} {fin : Bool} (b : BB p s m args c own cc nL Z) (hH : CHp (zD Z) B H0 n E H) (hj : j < n) (he : E j = .inr (ci, fs)) (hc : cls[ci]? = some (C, T, N)) (hin : ∀ w ∈ u_ws C T N, w ∈ lw_good) (hty : ∀ k, k < N → parseFieldDescriptor (T k).2.2.1 = some (ty0 k)) (hnm : ∀ a, a < N → ∀ b, b < N → a ≠ b → (T a).2.1 ≠ (T b).2.1) (hk : k < N) (hT : T k = (C, fn, fd, fin)) (hl : k < fs.length) (hn : narrow (ty0 k) v = v) (hf : fits (ty0 k) v = true) (hname : meth.name = "<init>") (hoc : C = own) (hlo : ∀ q ∈ locs, zN Z q.base) (hzB : zB Z ≤ B)
    (hln : Cond.fieldLink own index C fn fd ∈ lw_good) (d : decode cc pc = .ok (.putfield index, 3))
    (kk : ∀ (H1 : Heap) (locs1 : List Loc), CHp (zD Z) B H0 n (uE E j (.inr (ci, fs.set k v))) H1 → (∀ q ∈ locs1, zN Z q.base) → W p l e R s m args below meth c H1 locs1 cells slots Q (F0 m (pc + 3) ls rest)) : W p l e R s m args below meth c H locs cells slots Q (F0 m pc ls (v :: .ref (B + j) :: rest)) := by
  subst hoc
  obtain ⟨hx, hb, hown, hts, hKC, -⟩ := b
  have hK := hKC.1.1
  have hat := hH.2.2.2 j hj
  rw [he] at hat
  have e1 : (T k).1 = C := by rw [hT]
  have e2 : (T k).2.1 = fn := by rw [hT]
  have e3 : (T k).2.2.1 = fd := by rw [hT]
  have e4 : (T k).2.2.2 = fin := by rw [hT]
  have hap := va_apart (own := C) hts hin ty0 hty hnm hK hc
  obtain ⟨r, h1, cell, q1, q2, q3, q4⟩ := hat
  have hr : r = (C, T, N) := Option.some.inj (h1.symm.trans hc)
  subst hr
  obtain ⟨hS, hfc, kC, hkC, hkind⟩ := hK.1 ci _ hc
  obtain ⟨cf, kf, fi, fl, hif, hsl⟩ := hS k hk
  have hlay := hts _ (hin _ (u_in_lay hk))
  have hst := (u_facts hfc hkC (u_lays hts hin hk) hif).1
  have hlnk := hts _ hln
  rw [← e2, ← e3] at hlnk
  have hif' : s.fieldFound? C (T k).2.1 (T k).2.2.1 = some (cf, kf, fi, fl) := by rw [← e1]; exact hif
  have fin1 : ∀ H' : Heap, H'[B + j]? = some (cell.setSlot fl.slot v) → H'.size = H.size → (∀ q, q ≠ B + j → H'[q]? = H[q]?) → W p l e R s m args below meth c H' (locs ++ [⟨B + j, fl.slot⟩]) cells slots Q (F0 m (pc + 3) ls rest) := by
    intro H' p1 p2 p3
    rw [hsl] at p1
    refine kk H' _ (hH.upd p2 p3 ⟨_, hc, t_OB.to (V := updV (vp_V fs) k v) ⟨_, p1, q2, q3, t_set q4 hap hk v⟩ (fun j _ => vp_updV_set hl v j)⟩) (locs_put hlo (by omega))
  cases fin with
  | false =>
    unfold u_lay at hlay
    rw [if_neg (by rw [e4]; decide)] at hlay
    have h6 := u_store hfc hkC hkind hlay hif (hty k hk) hn hf
    exact W.putK hx hb (f := fl) (ref := C) ⟨hown, hlnk, ⟨_, _, _, hif'⟩, hst⟩ (by rw [q2]; exact h6) q1 q3 (by rw [hsl]; exact k2_hasslot (q4 k hk)) rfl rfl d fin1
  | true =>
    unfold u_lay at hlay
    rw [if_pos e4] at hlay
    have hcf : m.cls = cf := by
      obtain ⟨_, _, c', _, _, _, -, -, hf', -, -, -, hown2, -⟩ := Cond.laysFinal_spec hlay
      have e9 : c' = cf := by have := hif.symm.trans hf'; simp at this; exact this.1.symm
      rw [e1] at hown2
      rw [← e9]; exact Option.some.inj (hown.symm.trans hown2)
    have h6 := u_fits hfc hkC hkind (Or.inr hlay) hif (hty k hk) hn hf
    exact W.putFinK hx hb hown hlnk hif' hst hcf hname (by rw [q2]; exact h6) q1 q3 (by rw [hsl]; exact k2_hasslot (q4 k hk)) rfl rfl d fin1
theorem ch_get {C fn fd : String} {T : u_T} {N ci index j k : Nat} {fs : List Value} {v : Value} (b : BB p s m args c own cc nL Z) (hH : CHp (zD Z) B H0 n E H) (hj : j < n) (he : E j = .inr (ci, fs)) (hc : cls[ci]? = some (C, T, N)) (hin : ∀ w ∈ u_ws C T N, w ∈ lw_good) (hk : k < N) (hT : T k = (C, fn, fd, (T k).2.2.2)) (hv : fs[k]? = some v) (hln : Cond.fieldLink own index C fn fd ∈ lw_good) (d : decode cc pc = .ok (.getfield index, 3))
    (kk : W p l e R s m args below meth c H locs cells slots Q (F0 m (pc + 3) ls (v :: rest))) : W p l e R s m args below meth c H locs cells slots Q (F0 m pc ls (.ref (B + j) :: rest)) := by
  obtain ⟨hx, hb, hown, hts, hK, -⟩ := b
  have hat := hH.2.2.2 j hj
  rw [he] at hat
  have h1 : (T k).1 = C := by rw [hT]
  have h2 : (T k).2.1 = fn := by rw [hT]
  have h3 : (T k).2.2.1 = fd := by rw [hT]
  exact va_get (C := C) (T := T) (N := N) (ci := ci) (Ts := lw_good) hx hb hts hin hown hK.1.1 (va_P1 hat) 0 rfl hc k hk (ref := C) (by rw [h2, h3]; exact hts _ hln) (fun x hx => by rw [h1] at hx; exact hx) hv d kk
/-- an object of ours into an array of references -/
theorem ch_aast {j j2 t0 ci N' : Nat} {cA : ClassId} {r : vw_C} {vs : List Value} {f : Nat → Option Nat} {x x' : Int} (b : BB p s m args c own cc nL Z) (hH : CHp (zD Z) B H0 n E H) (hj : j < n) (he : E j = .inl (cA, N', .inr (.inr (.inr (.inr f))))) (hj2 : j2 < n) (he2 : E j2 = .inr (ci, vs)) (hc : cls[ci]? = some r) (ht : (tysOf Z)[t0]? = some (cA, .object r.1)) (hx' : w32 x = x') (hin : 0 ≤ x' ∧ x' < (N' : Int)) (hlo : ∀ q ∈ locs, zN Z q.base) (hzB : zB Z ≤ B) (d : decode cc pc = .ok (.aastore, 1))
    (kk : ∀ (H1 : Heap) (locs1 : List Loc), CHp (zD Z) B H0 n (uE E j (.inl (cA, N', .inr (.inr (.inr (.inr (va_up f x'.toNat (some (B + j2)))))))) ) H1 → (∀ q ∈ locs1, zN Z q.base) → W p l e R s m args below meth c H1 locs1 cells slots Q (F0 m (pc + 1) ls rest)) : W p l e R s m args below meth c H locs cells slots Q (F0 m pc ls (.ref (B + j2) :: vi x :: .ref (B + j) :: rest)) := by
  obtain ⟨hxx, hb, hown, hts, hK, -⟩ := b
  have hi : vp_in (Int32.ofInt x) N' := w_in hx' hin (by omega)
  have hlt : (Int32.ofInt x).toNatClampNeg < N' := Nat.not_le.mp fun q => hi (Or.inr q)
  have h0 : ¬ Int32.ofInt x < 0 := fun q => hi (Or.inl q)
  have hat := hH.2.2.2 j hj
  rw [he] at hat
  have hat : H[B + j]? = some (vp_cell cA (N', .inr (.inr (.inr (.inr f))))) := hat
  have hat2 := hH.2.2.2 j2 hj2
  rw [he2] at hat2
  obtain ⟨r', hr', cellV, g1, g2, g3, -⟩ := hat2
  have hcls := (hK.1.1.1 ci r hc).2
  obtain ⟨kA, comp, k1, k2, k3, -⟩ := (hK.1.1.2 t0 _ ht).2
  have hcomp : comp = (zD Z).1 ci := Option.some.inj (k3.symm.trans hcls.1)
  subst hcomp
  obtain ⟨kC, hkC, -⟩ := hcls.2
  refine W.aast hxx hb hat (fun q h => by cases h) (fun h => by cases h) k1 k2 rfl hkC ⟨h0, by show _ < (arrV _ _ _).slots.size; rw [arrV_size]; exact hlt⟩ g1 (fun q h => by rw [g3] at h; cases h) (by rw [g2]; exact hkC) (by rw [g2]; exact va_assign hcls) rfl rfl d fun H1 e1 z oq => ?_
  refine kk H1 _ (hH.upd z oq ?_) (locs_put hlo (by omega))
  show H1[B + j]? = some (vp_cell _ _)
  rw [e1, vp_cell_q, vp_cell_q, arrV_store, w_nat hx']
  congr 2
  funext q
  by_cases hq : q = x'.toNat
  · subst hq; simp [updV, va_up, va_rf]
  · simp [updV, va_up, hq]
/-- a word into the script's array -/
theorem ch_wast {j w N' : Nat} {f : Nat → Option Nat} {x x' : Int} (b : BB p s m args c own cc nL Z) (hZ : zB Z = B ∧ zH Z = H0) (hH : CHp (zD Z) B H0 n E H) (hj : j < n) (he : E j = .inl (zC Z 6, N', .inr (.inr (.inr (.inr f))))) (hw : w < 15) (hx' : w32 x = x') (hin : 0 ≤ x' ∧ x' < (N' : Int)) (hlo : ∀ q ∈ locs, zN Z q.base) (d : decode cc pc = .ok (.aastore, 1))
    (kk : ∀ (H1 : Heap) (locs1 : List Loc), CHp (zD Z) B H0 n (uE E j (.inl (zC Z 6, N', .inr (.inr (.inr (.inr (va_up f x'.toNat (some (zA Z 11 w)))))))) ) H1 → (∀ q ∈ locs1, zN Z q.base) → W p l e R s m args below meth c H1 locs1 cells slots Q (F0 m (pc + 1) ls rest)) : W p l e R s m args below meth c H locs cells slots Q (F0 m pc ls (vr Z 11 w :: vi x :: .ref (B + j) :: rest)) := by
  obtain ⟨hxx, hb, hown, hts, hK, -⟩ := b
  have hi : vp_in (Int32.ofInt x) N' := w_in hx' hin (by omega)
  have hlt : (Int32.ofInt x).toNatClampNeg < N' := Nat.not_le.mp fun q => hi (Or.inr q)
  have h0 : ¬ Int32.ofInt x < 0 := fun q => hi (Or.inl q)
  have hat := hH.2.2.2 j hj
  rw [he] at hat
  have hat : H[B + j]? = some (vp_cell (zC Z 6) (N', .inr (.inr (.inr (.inr f))))) := hat
  have hold : ∀ a : Nat, a < (zH Z).size → ¬ zN Z a → H[a]? = (zH Z)[a]? := fun a h1 h2 => by rw [hZ.2]; exact hH.2.2.1 a (by rw [← hZ.1]; exact Nat.not_le.mp h2)
  obtain ⟨cellV, g1, g2, g3, -⟩ := (hK.1.2.1.1 w hw).2.1.kept hold
  obtain ⟨kA, comp, k1', k2, k3, -⟩ := (hK.1.1.2 6 _ rfl).2
  obtain ⟨kC, hkC, -⟩ := Vm.findClass_spec k3
  have e9 : comp = cellV.cls := Option.some.inj (k3.symm.trans g3)
  refine W.aast hxx hb hat (fun q h => by cases h) (fun h => by cases h) k1' k2 rfl hkC ⟨h0, by show _ < (arrV _ _ _).slots.size; rw [arrV_size]; exact hlt⟩ g1 (fun q h => by rw [h] at g2; cases g2) (by rw [← e9]; exact hkC) (vb_asgS comp cellV.cls k3 g3) rfl rfl d fun H1 e1 z oq => ?_
  refine kk H1 _ (hH.upd z oq ?_) (locs_put hlo (by rw [hZ.1]; omega))
  show H1[B + j]? = some (vp_cell _ _)
  rw [e1, vp_cell_q, vp_cell_q, arrV_store, w_nat hx']
  congr 2
  funext q
  by_cases hq : q = x'.toNat
  · subst hq; simp [updV, va_up, va_rf]
  · simp [updV, va_up, hq]
theorem ch_gets {C fn fd : String} {v : Value} {index : Nat} (b : BB p s m args c own cc nL Z) (hZ : zB Z = B ∧ zH Z = H0) (hH : CHp (zD Z) B H0 n E H) (hS : ∀ U : State, Sta Z U → va_Z C fn fd v (zN Z) U (zH Z)) (hln : Cond.fieldLink own index C fn fd ∈ lw_good) (d : decode cc pc = .ok (.getstatic index, 3)) (kk : W p l e R s m args below meth c H locs cells slots Q (F0 m (pc + 3) ls (v :: rest))) : W p l e R s m args below meth c H locs cells slots Q (F0 m pc ls rest) := by
  obtain ⟨hxx, hb, hown, hts, hK, -⟩ := b
  have hold : ∀ a : Nat, a < (zH Z).size → ¬ zN Z a → H[a]? = (zH Z)[a]? := fun a h1 h2 => by rw [hZ.2]; exact hH.2.2.1 a (by rw [← hZ.1]; exact Nat.not_le.mp h2)
  obtain ⟨cf, kf, fi, f, a, cell, h1, h2, h3, h4, h5, h6, h7, h8⟩ := (hS _ hK.1.2).kept hold
  exact W.gets hxx hb hown (hts _ hln) h1 h2 h3 h4 h5 (fun e => by rw [e] at h6; cases h6) h7 rfl d kk
/-- an int into an array of ours -/
theorem ch_iast {j N' : Nat} {f : Nat → Int} {x x' v : Int} (b : BB p s m args c own cc nL Z) (hH : CHp (zD Z) B H0 n E H) (hj : j < n) (he : E j = arI (zC Z 0) N' f) (hx' : w32 x = x') (hin : 0 ≤ x' ∧ x' < (N' : Int)) (hlo : ∀ q ∈ locs, zN Z q.base) (hzB : zB Z ≤ B) (d : decode cc pc = .ok (.iastore, 1))
    (kk : ∀ (H1 : Heap) (locs1 : List Loc), CHp (zD Z) B H0 n (uE E j (arI (zC Z 0) N' (fun q => if q = x'.toNat then v else f q))) H1 → (∀ q ∈ locs1, zN Z q.base) → W p l e R s m args below meth c H1 locs1 cells slots Q (F0 m (pc + 1) ls rest)) : W p l e R s m args below meth c H locs cells slots Q (F0 m pc ls (vi v :: vi x :: .ref (B + j) :: rest)) := by
  obtain ⟨hxx, hb, hown, hts, hK, -⟩ := b
  have hi : vp_in (Int32.ofInt x) N' := w_in hx' hin (by omega)
  have hat := hH.2.2.2 j hj
  rw [he] at hat
  have hat : H[B + j]? = some (vp_cell (zC Z 0) (N', .inl fun j => Int32.ofInt (f j))) := hat
  refine W.iast hxx hb hat ((hK.1.1.2 0 _ rfl).1 N' (fun j => .int (Int32.ofInt (f j)))) (fun q => by cases q) (by show ¬ (_ < 0 ∨ (arrV _ _ _).slots.size ≤ _); rw [arrV_size]; exact hi) rfl rfl d fun H1 e1 z oq => ?_
  refine kk H1 _ (hH.upd z oq ?_) (locs_put hlo (by omega))
  show H1[B + j]? = some (vp_cell _ _)
  rw [e1, vp_cell_i, vp_cell_i, arrV_store, w_nat hx']
  congr 2
  funext q
  by_cases hq : q = x'.toNat
  · subst hq; simp [updV]
  · simp [updV, hq]
theorem ch_obj {index a : Nat} (b : BB p s m args c own cc nL Z) (hl : ls.size = nL) (hln : Cond.methodLink own index objectInit ∈ lw_good) (hfr : 1 ≤ R.frames) (hloc : (rest.map fun v => v.category).sum + 12 ≤ R.locals) (d : decode cc pc = .ok (.invokespecial index, 3))
    (kk : W p l e R s m args below meth c H locs cells slots Q (F0 m (pc + 3) ls rest)) : W p l e R s m args below meth c H locs cells slots Q (F0 m pc ls (.ref a :: rest)) := by
  obtain ⟨hxx, hb, hown, hts, hK, hml⟩ := b
  refine W.objInit hxx hb hown (hts _ hln) (hts _ (li_1 36 (by decide +kernel) (by decide +kernel))) (hts _ (li_1 37 (by decide +kernel) (by decide +kernel))) rfl (hl.trans hml.symm) rfl d hfr (by show 2 * 0 + _ + 12 ≤ _; omega) ?_
  exact W.eq (g2 := F0 m (pc + 3) ls rest) rfl kk
theorem ch_call {y' : MethodName} {cc' : ByteArray} {maxL' h' index nA a mc ms : Nat} {As st : List Value} {pre post : Heap → Prop} (b : BB p s m args c own cc nL Z) (hl : ls.size = nL) (hM : RunsC Z y' cc' maxL' h' (.ref a :: As) mc ms pre post) (hpre : pre H) (hfl : l.stackTraces = false) (hcode : Cond.code y' cc' maxL' none ∈ lw_good) (hlink : Cond.methodLink own index y' ∈ lw_good) (hinst : Cond.instanceMethod y' ∈ lw_good) (hini : Cond.initialized y'.cls ∈ lw_good) (hy : y'.name = "<init>")
    (hd : y'.cls ≠ "java/lang/invoke/MethodHandle" ∧ y'.cls ≠ "java/lang/invoke/VarHandle" ∧ (parseMethodDescriptor y'.desc).map (fun d => d.parameters.length) = some nA) (hn : As.length = nA) (hst : st = As.reverse ++ .ref a :: rest) (hR : h' + 1 ≤ R.frames ∧ 8 + (maxL' + 11) + 35 * h' ≤ R.locals) (hw : (rest.map fun v => v.category).sum ≤ 8) (hf : cells + mc ≤ R.cells ∧ slots + ms ≤ R.slots) (hlo : ∀ q ∈ locs, zN Z q.base) (d : decode cc pc = .ok (.invokespecial index, 3))
    (kk : ∀ (H1 : Heap) (locs1 : List Loc), post H1 → (∀ q ∈ locs1, zN Z q.base) → W p l e R s m args below meth c H1 locs1 (cells + mc) (slots + ms) Q (F0 m (pc + 3) ls rest)) : W p l e R s m args below meth c H locs cells slots Q (F0 m pc ls st) := by
  obtain ⟨hxx, hb, hown, hts, hK, hml⟩ := b
  have hr := va_runI (cc := cc) (nL := nL) (Ts := lw_good) (own := own) (As := As) (rest := rest) (H := H) (locs := locs) (cells := cells) (slots := slots) (e := e) (below := below) (meth := meth) (b := a) (g := F0 m pc ls st) ⟨hxx, hb, hml, hown, hts⟩ (hM l hfl) (cwI nA hts (goodAll hcode) rfl rfl rfl (hts _ hini) (hts _ hlink) (hts _ hinst) hy hd hR) ⟨fun a U g mk q => ⟨q.1, q.2.1, KC.same (s := U) (U := U.calling g mk a) rfl q.2.2⟩, fun U hU hW => ⟨rfl, by rw [hU]; exact hpre, hK.warm hW⟩⟩ rfl hn hl hst (lv_room hw) d hf
  intro T hT X
  obtain ⟨v, st₀, t, T', L, h0, X', hL, e1, e2, ⟨hv, hh⟩, st⟩ := hr T hT X
  cases hv
  obtain ⟨t2, a1, b1⟩ := kk T'.heap (locs ++ L) (by rw [e1]; exact hh) (fun q hq => by
    rcases List.mem_append.mp hq with h | h
    · exact hlo q h
    · exact hL q h) T' rfl X'
  exact ⟨t2, st t2 a1, b1⟩
theorem ch_callN {y' : MethodName} {cc' : ByteArray} {maxL' h' index nA a mc ms : Nat} {As st : List Value} {pre post : Heap → Prop} (b : BB p s m args c own cc nL Z) (hl : ls.size = nL) (hM : RunsC Z y' cc' maxL' h' (.ref a :: As) mc ms pre post) (hpre : pre H) (hfl : l.stackTraces = false) (hcode : Cond.code y' cc' maxL' none ∈ lw_good) {host : String} (hlink : Cond.methodLinkNest own index y' host ∈ lw_nw) (hinst : Cond.instanceMethod y' ∈ lw_good) (hini : Cond.initialized y'.cls ∈ lw_good) (hy : y'.name = "<init>")
    (hd : y'.cls ≠ "java/lang/invoke/MethodHandle" ∧ y'.cls ≠ "java/lang/invoke/VarHandle" ∧ (parseMethodDescriptor y'.desc).map (fun d => d.parameters.length) = some nA) (hn : As.length = nA) (hst : st = As.reverse ++ .ref a :: rest) (hR : h' + 1 ≤ R.frames ∧ 8 + (maxL' + 11) + 35 * h' ≤ R.locals) (hw : (rest.map fun v => v.category).sum ≤ 8) (hf : cells + mc ≤ R.cells ∧ slots + ms ≤ R.slots) (hlo : ∀ q ∈ locs, zN Z q.base) (d : decode cc pc = .ok (.invokespecial index, 3))
    (kk : ∀ (H1 : Heap) (locs1 : List Loc), post H1 → (∀ q ∈ locs1, zN Z q.base) → W p l e R s m args below meth c H1 locs1 (cells + mc) (slots + ms) Q (F0 m (pc + 3) ls rest)) : W p l e R s m args below meth c H locs cells slots Q (F0 m pc ls st) := by
  obtain ⟨hxx, hb, hown, hts, hK, hml⟩ := b
  have hr := va_runIN (cc := cc) (host := host) (nL := nL) (Ts := lw_good) (own := own) (As := As) (rest := rest) (H := H) (locs := locs) (cells := cells) (slots := slots) (e := e) (below := below) (meth := meth) (b := a) (g := F0 m pc ls st) ⟨hxx, hb, hml, hown, hts⟩ (hM l hfl) ⟨va_cnB nA hts (goodAll hcode) rfl rfl rfl (hK.1.2.2.2.2.2.2.2.2.2.2 _ hlink) (hts _ hini) hd hR, hy, hts _ hinst⟩ ⟨fun a U g mk q => ⟨q.1, q.2.1, KC.same (s := U) (U := U.calling g mk a) rfl q.2.2⟩, fun U hU hW => ⟨rfl, by rw [hU]; exact hpre, hK.warm hW⟩⟩ rfl hn hl hst (lv_room hw) d hf
  intro T hT X
  obtain ⟨v, st₀, t, T', L, h0, X', hL, e1, e2, ⟨hv, hh⟩, st⟩ := hr T hT X
  cases hv
  obtain ⟨t2, a1, b1⟩ := kk T'.heap (locs ++ L) (by rw [e1]; exact hh) (fun q hq => by
    rcases List.mem_append.mp hq with h | h
    · exact hlo q h
    · exact hL q h) T' rfl X'
  exact ⟨t2, st t2 a1, b1⟩
end CHR
/-- a constructor's entry -/
theorem RunsC.of {Z : ZT} {y : MethodName} {cc : ByteArray} {maxL h : Nat} {av : List Value} {mc ms : Nat} {pre post : Heap → Prop} (hy : (plainName y.cls) = true) (hname : y.name = "<init>") (hlen : (lg_sl av).length ≤ maxL)
    (k : ∀ (p : Program) (l : Launch) (e : Env) (s : State) (m : MethodId) (args : Array Value) (below : List Frame) (meth : Method) (c : Code) (ls : Array Slot), l.stackTraces = false → BB p s m args c y.cls cc maxL Z → pre s.heap → meth.sig.returnType = none → meth.locks = false → meth.name = "<init>" → lv_has ls maxL (lv_args 0 av) → W p l e (rmH h mc ms) s m args below meth c s.heap [] 0 0 (MQ below (QcC post) args s mc ms (zN Z)) (F0 m 0 ls [])) : RunsC Z y cc maxL h av mc ms pre post := by
  intro l hfl
  refine Met.ofW (cc := cc) (maxL := maxL) (ret := none) hy rfl ?_
  intro p e s m args below meth c s₁ B hml hv
  obtain ⟨rfl, hH, hKK⟩ := hv
  have hts : ∀ w ∈ lw_good, w.before av.toArray s = true := fun w hw => atoms_spec (ws := wsAll y cc maxL none) B.pre w (List.mem_cons_of_mem _ hw)
  have hown := findClass_of_methodNamed B.named
  have hl := lv_entry av (n := maxL) hlen
  rw [lg_entry_eq]
  exact k p l e s m av.toArray below meth c _ hfl ⟨B.exec, B.bytes, hown, hts, hKK, hml⟩ hH B.returns B.notSynchronized ((name_of_methodNamed B.named B.method).1.trans hname) hl
theorem ch_ret {p : Program} {l : Launch} {e : Env} {R : Room} {s : State} {m : MethodId} {args : Array Value} {below : List Frame} {meth : Method} {c : Code} {H : Heap} {locs : List Loc} {cells slots mc ms : Nat} {cc : ByteArray} {pc nL : Nat} {ls : Array Slot} {own : String} {Z : ZT} {post : Heap → Prop} (b : BB p s m args c own cc nL Z) (hr : meth.sig.returnType = none) (hlocks : meth.locks = false) (hlo : ∀ q ∈ locs, zN Z q.base) (hp : post H) (h1 : cells ≤ mc) (h2 : slots ≤ ms) (d : decode cc pc = .ok (.return_, 1)) : W p l e R s m args below meth c H locs cells slots (MQ below (QcC post) args s mc ms (zN Z)) (F0 m pc ls []) := by
  refine W.widen h1 h2 ?_
  exact W.vret (hlocks := hlocks) b.1 b.2.1 hr (fun t ht _ => ⟨rfl, by rw [ht]; exact hp⟩) hlo d
