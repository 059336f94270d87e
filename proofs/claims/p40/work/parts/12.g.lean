section
/-! ===== by program out of 05 .. 2x: the same, while the class's own objects alone are there ===== -/
def ksz_a : Nat → Nat
  | 1 => 12 | 2 => 516 | 11 => 0 | 12 => 516 | 13 => 12 | 14 => 12 | 15 => 12 | 16 => 4 | 18 => 6 | 21 => 6 | k => if k < 26 then 1 else 0
def HHA_a (Z : ZT) (gr : Nat → Nat) (I : Mem) (H : Heap) : Prop :=
  ((zH Z).size = zB Z ∧ zB Z ≤ H.size ∧ ∀ q : Nat, q < zB Z → H[q]? = (zH Z)[q]?) ∧
  (∀ k i k' i' : Nat, i < ksz_a k → i' < ksz_a k' → adG Z gr k i = adG Z gr k' i' → k = k' ∧ i = i') ∧
  (∀ k i : Nat, i < ksz_a k → zB Z ≤ adG Z gr k i) ∧
  ∀ k i : Nat, i < ksz_a k → va_at (zD Z) cls (adG Z gr k i, ent Z gr I k i) H
def HH_a (Z : ZT) (I : Mem) (H : Heap) : Prop := ∃ gr : Nat → Nat, HHA_a Z gr I H
theorem HHA_a.upd {Z : ZT} {gr : Nat → Nat} {I I' : Mem} {H H1 : Heap} {k i : Nat} (h : HHA_a Z gr I H) (hi : i < ksz_a k) (hz : H1.size = H.size) (ho : ∀ q : Nat, q ≠ adG Z gr k i → H1[q]? = H[q]?)
    (he : va_at (zD Z) cls (adG Z gr k i, ent Z gr I' k i) H1) (hI : ∀ k' i' : Nat, i' < ksz_a k' → ¬ (k' = k ∧ i' = i) → ent Z gr I' k' i' = ent Z gr I k' i') : HHA_a Z gr I' H1 := by
  obtain ⟨⟨h1, h2, h3⟩, h4, h5, h6⟩ := h
  refine ⟨⟨h1, by rw [hz]; exact h2, fun q hq => ?_⟩, h4, h5, fun k' i' hi' => ?_⟩
  · rw [ho q (fun e => by have := h5 k i hi; omega)]; exact h3 q hq
  · by_cases hk : k' = k ∧ i' = i
    · obtain ⟨rfl, rfl⟩ := hk; exact he
    · rw [hI k' i' hi' hk]
      exact (h6 k' i' hi').kept (ho _ (fun e => hk (h4 k' i' k i hi' hi e)))
theorem HHA_a.at {Z : ZT} {gr : Nat → Nat} {I : Mem} {H : Heap} (h : HHA_a Z gr I H) {k i : Nat} (hi : i < ksz_a k) : va_at (zD Z) cls (adG Z gr k i, ent Z gr I k i) H := h.2.2.2 k i hi
def Pcz_a (Z : ZT) (av : List Value) (I : Mem) : Array Value → State → Prop := fun v U => v = av.toArray ∧ HH_a Z I U.heap ∧ KK Z U
def Qcz_a (Z : ZT) (o : OV) : Array Value → State → Outcome → State → Prop := fun _ _ oc t => oc = .returned o.1 ∧ HH_a Z o.2 t.heap
/-- method y, at height h, with these arguments over this memory, ends with this answer and memory -/
def Runs_a (Z : ZT) (y : MethodName) (cc : ByteArray) (maxL : Nat) (ret : Option FieldType) (h : Nat) (av : List Value) (I : Mem) (o : OV) : Prop :=
  cle I o.2 ∧ ∀ l : Launch, l.stackTraces = false → Met l y (wsAll y cc maxL ret) (rmH h (dC I o.2) (dS I o.2)) (Pcz_a Z av I) (Qcz_a Z o) (dC I o.2) (dS I o.2) (zN Z)
/-- what a method's body stands on -/
def Bd_a (Z : ZT) (X : XT) (Y : YT) : Prop :=
  X.1.tables.exec = Jvm.exec ∧ X.2.2.2.2.2.2.2.2.code = Y.2.1 ∧ X.2.2.2.2.2.2.2.2.maxLocals = Y.2.2.1 ∧ X.2.2.2.1.vm.findClass Y.1.cls = some X.2.2.2.2.1.cls ∧ (∀ w ∈ lw_good, w.before X.2.2.2.2.2.1 X.2.2.2.1 = true) ∧ KK Z X.2.2.2.1 ∧ X.2.2.2.2.2.2.2.1.sig.returnType = Y.2.2.2.1 ∧ X.2.2.2.2.2.2.2.1.locks = false ∧ X.2.1.stackTraces = false ∧ X.2.2.2.2.2.2.2.2.exceptionTable.toList = tableOf (xtb Y.1) ∧ ∃ I1 : Mem, HH_a Z I1 X.2.2.2.1.heap
/-- what holds at the end -/
def Qz_a (Z : ZT) (X : XT) (I0 : Mem) (o : OT) : State → Prop := match o.1 with
  | .inl v => MQ X.2.2.2.2.2.2.1 (Qcz_a Z (v, o.2)) X.2.2.2.2.2.1 X.2.2.2.1 (dC I0 o.2) (dS I0 o.2) (zN Z)
  | .inr E => vx_MQ X.2.2.2.2.2.2.1 (fun _ _ _ _ => False) (fun E' _ t => E' = E ∧ HH_a Z o.2 t.heap) X.2.2.2.2.2.1 X.2.2.2.1 (dC I0 o.2) (dS I0 o.2) (zN Z)
/-- W over the context -/
abbrev WX_a (Z : ZT) (X : XT) (Y : YT) (I0 : Mem) (o : OT) (H : Heap) (locs : List Loc) (cells slots : Nat) (g : JFrame) : Prop :=
  W X.1 X.2.1 X.2.2.1 (rmH Y.2.2.2.2 (dC I0 o.2) (dS I0 o.2)) X.2.2.2.1 X.2.2.2.2.1 X.2.2.2.2.2.1 X.2.2.2.2.2.2.1 X.2.2.2.2.2.2.2.1 X.2.2.2.2.2.2.2.2 H locs cells slots (Qz_a Z X I0 o) g
def WP_a (Z : ZT) (Y : YT) (I0 : Mem) (o : OT) (gr : Nat → Nat) (pc : Nat) (lv : List (Nat × Value)) (st : List Value) (I : Mem) : Prop :=
  cle I o.2 ∧ (∀ X : XT, Bd_a Z X Y → cle I0 I → ∀ (H : Heap) (locs : List Loc) (ls : Array Slot), HHA_a Z gr I H → (∀ q ∈ locs, zN Z q.base) → lv_has ls Y.2.2.1 lv → WX_a Z X Y I0 o H locs (dC I0 I) (dS I0 I) (F0 X.2.2.2.2.1 pc ls st))
def WQ_a (Z : ZT) (Y : YT) (I0 : Mem) (gr : Nat → Nat) {α : Type} (pc : Nat) (lv : List (Nat × Value)) (st : List Value) (I : Mem) (e : Option (α × Mem)) (κ : α → Mem → Option OT) : Prop :=
  ∀ o : OT, bnd e κ = some o → WP_a Z Y I0 o gr pc lv st I
section WPS
variable {Z : ZT} {Y : YT} {I0 : Mem} {o : OT} {gr : Nat → Nat} {pc : Nat} {lv : List (Nat × Value)} {st : List Value} {I : Mem}
/-- a step of the machine alone -/
theorem WP_a.go {pc' : Nat} {lv' : List (Nat × Value)} {st' : List Value} (k : WP_a Z Y I0 o gr pc' lv' st' I)
    (h : ∀ X : XT, Bd_a Z X Y → ∀ (H : Heap) (locs : List Loc) (ls : Array Slot) (cells slots : Nat), HHA_a Z gr I H → lv_has ls Y.2.2.1 lv → (∀ ls' : Array Slot, lv_has ls' Y.2.2.1 lv' → WX_a Z X Y I0 o H locs cells slots (F0 X.2.2.2.2.1 pc' ls' st')) → WX_a Z X Y I0 o H locs cells slots (F0 X.2.2.2.2.1 pc ls st)) : WP_a Z Y I0 o gr pc lv st I :=
  ⟨k.1, fun X B hc H locs ls hH hlo hl => h X B H locs ls _ _ hH hl fun ls' hl' => k.2 X B hc H locs ls' hH hlo hl'⟩
variable {α : Type} {e : Option (α × Mem)} {κ : α → Mem → Option OT}
theorem WQ_a.go {pc' : Nat} {lv' : List (Nat × Value)} {st' : List Value}
    (h : ∀ X : XT, Bd_a Z X Y → ∀ (o : OT) (H : Heap) (locs : List Loc) (ls : Array Slot) (cells slots : Nat), HHA_a Z gr I H → lv_has ls Y.2.2.1 lv → (∀ ls' : Array Slot, lv_has ls' Y.2.2.1 lv' → WX_a Z X Y I0 o H locs cells slots (F0 X.2.2.2.2.1 pc' ls' st')) → WX_a Z X Y I0 o H locs cells slots (F0 X.2.2.2.2.1 pc ls st))
    (k : WQ_a Z Y I0 gr pc' lv' st' I e κ) : WQ_a Z Y I0 gr pc lv st I e κ :=
  fun o ho => (k o ho).go fun X B => h X B o
/-- a branch -/
theorem WQ_a.br {pc1 pc2 : Nat} {st' : List Value} {c : Prop} [Decidable c] {e1 e2 : Option (α × Mem)}
    (h : ∀ X : XT, Bd_a Z X Y → ∀ (o : OT) (H : Heap) (locs : List Loc) (ls : Array Slot) (cells slots : Nat), HHA_a Z gr I H → lv_has ls Y.2.2.1 lv → (c → WX_a Z X Y I0 o H locs cells slots (F0 X.2.2.2.2.1 pc1 ls st')) → (¬ c → WX_a Z X Y I0 o H locs cells slots (F0 X.2.2.2.2.1 pc2 ls st')) → WX_a Z X Y I0 o H locs cells slots (F0 X.2.2.2.2.1 pc ls st))
    (k1 : c → WQ_a Z Y I0 gr pc1 lv st' I e1 κ) (k2 : ¬ c → WQ_a Z Y I0 gr pc2 lv st' I e2 κ) : WQ_a Z Y I0 gr pc lv st I (if c then e1 else e2) κ := by
  intro o ho
  by_cases hc : c
  · rw [if_pos hc] at ho
    have k := k1 hc o ho
    exact ⟨k.1, fun X B hcl H locs ls hH hlo hl => h X B o H locs ls _ _ hH hl (fun _ => k.2 X B hcl H locs ls hH hlo hl) (fun q => absurd hc q)⟩
  · rw [if_neg hc] at ho
    have k := k2 hc o ho
    exact ⟨k.1, fun X B hcl H locs ls hH hlo hl => h X B o H locs ls _ _ hH hl (fun q => absurd q hc) (fun _ => k.2 X B hcl H locs ls hH hlo hl)⟩
theorem wq_grd_a {c : Prop} [Decidable c] (k : c → WQ_a Z Y I0 gr pc lv st I e κ) : WQ_a Z Y I0 gr pc lv st I (if c then e else none) κ := by
  intro o ho
  by_cases hc : c
  · rw [if_pos hc] at ho; exact k hc o ho
  · rw [if_neg hc] at ho; cases ho
theorem WQ_a.assoc {β : Type} {e : Option (β × Mem)} {f : β → Mem → Option (α × Mem)} (k : WQ_a Z Y I0 gr pc lv st I e (fun b J => bnd (f b J) κ)) : WQ_a Z Y I0 gr pc lv st I (bnd e f) κ := by
  intro o ho
  refine k o ?_
  cases e with
  | none => cases ho
  | some q => exact ho
theorem WQ_a.loc {lv' : List (Nat × Value)} (ks : List Nat) (hl : lv_pick lv ks = lv') (k : WQ_a Z Y I0 gr pc lv' st I e κ) : WQ_a Z Y I0 gr pc lv st I e κ :=
  WQ_a.go (fun _ _ _ _ _ _ _ _ _ h kk => kk _ (lv_sub h ks hl)) k
end WPS
section ROWS
variable {Z : ZT} {Y : YT} {I0 : Mem} {gr : Nat → Nat} {pc : Nat} {lv : List (Nat × Value)} {st : List Value} {I : Mem} {α : Type} {e e1 e2 : Option (α × Mem)} {κ : α → Mem → Option OT}
theorem wq_iconst_a {n : Int} (d : decode Y.2.1 pc = .ok (.iconst n, 1)) (k : WQ_a Z Y I0 gr (pc + 1) lv (vi n :: st) I e κ) : WQ_a Z Y I0 gr pc lv st I e κ :=
  WQ_a.go (fun _ B _ _ _ ls _ _ _ hl kk => lv_iconst B.1 B.2.1 d rfl (kk ls hl)) k
theorem wq_bipush_a {n : Int} (d : decode Y.2.1 pc = .ok (.bipush n, 2)) (hv : (Int8.ofInt n).toInt32 = Int32.ofInt n) (k : WQ_a Z Y I0 gr (pc + 2) lv (vi n :: st) I e κ) : WQ_a Z Y I0 gr pc lv st I e κ :=
  WQ_a.go (fun _ B _ _ _ ls _ _ _ hl kk => lv_bipush B.1 B.2.1 d hv (kk ls hl)) k
theorem wq_sipush_a {n : Int} (d : decode Y.2.1 pc = .ok (.sipush n, 3)) (hv : (Int16.ofInt n).toInt32 = Int32.ofInt n) (k : WQ_a Z Y I0 gr (pc + 3) lv (vi n :: st) I e κ) : WQ_a Z Y I0 gr pc lv st I e κ :=
  WQ_a.go (fun _ B _ _ _ ls _ _ _ hl kk => lv_sipush B.1 B.2.1 d hv (kk ls hl)) k
theorem wq_iload_n_a {j : Nat} {x : Int} {c : Fin 4} (d : decode Y.2.1 pc = .ok (.iload_n c, 1)) (j' : Nat) (hj : (c : Nat) = j) (hl : lv[j']? = some (j, vi x)) (k : WQ_a Z Y I0 gr (pc + 1) lv (vi x :: st) I e κ) : WQ_a Z Y I0 gr pc lv st I e κ :=
  WQ_a.go (fun _ B _ _ _ ls _ _ _ h kk => lv_iload_n B.1 B.2.1 d hj (lv_at h j' hl) (kk ls h)) k
theorem wq_aload_n_a {j x : Nat} {c : Fin 4} (d : decode Y.2.1 pc = .ok (.aload_n c, 1)) (j' : Nat) (hj : (c : Nat) = j) (hl : lv[j']? = some (j, .ref x)) (k : WQ_a Z Y I0 gr (pc + 1) lv (.ref x :: st) I e κ) : WQ_a Z Y I0 gr pc lv st I e κ :=
  WQ_a.go (fun _ B _ _ _ ls _ _ _ h kk => lv_aload_n B.1 B.2.1 d hj (lv_at h j' hl) (kk ls h)) k
theorem wq_istore_n_a {j : Nat} {x : Int} {lv' : List (Nat × Value)} {c : Fin 4} (d : decode Y.2.1 pc = .ok (.istore_n c, 1)) (hj : (c : Nat) = j) (hn : j < Y.2.2.1) (hl : stl j (vi x) lv = lv') (k : WQ_a Z Y I0 gr (pc + 1) lv' st I e κ) : WQ_a Z Y I0 gr pc lv (vi x :: st) I e κ :=
  WQ_a.go (fun _ B _ _ _ ls _ _ _ h kk => lv_istore_n B.1 B.2.1 d hj h hn hl (fun ls' h' => kk ls' h')) k
theorem wq_iinc_a {j : Nat} {n x : Int} {lv' : List (Nat × Value)} (d : decode Y.2.1 pc = .ok (.iinc j n, 3)) (j' : Nat) (hk : lv[j']? = some (j, vi x)) (hn : j < Y.2.2.1) (hl : stl j (vi (x + n)) lv = lv') (k : WQ_a Z Y I0 gr (pc + 3) lv' st I e κ) : WQ_a Z Y I0 gr pc lv st I e κ :=
  WQ_a.go (fun _ B _ _ _ ls _ _ _ h kk => lv_iinc B.1 B.2.1 d h (k := j') hk (i_add x n) hn hl (fun ls' h' => kk ls' h')) k
theorem wq_iadd_a {x y : Int} (d : decode Y.2.1 pc = .ok (.iadd, 1)) (k : WQ_a Z Y I0 gr (pc + 1) lv (vi (x + y) :: st) I e κ) : WQ_a Z Y I0 gr pc lv (vi y :: vi x :: st) I e κ :=
  WQ_a.go (fun _ B _ _ _ ls _ _ _ hl kk => lv_iadd B.1 B.2.1 d (by rw [i_add]; exact kk ls hl)) k
theorem wq_imul_a {x y : Int} (d : decode Y.2.1 pc = .ok (.imul, 1)) (k : WQ_a Z Y I0 gr (pc + 1) lv (vi (x * y) :: st) I e κ) : WQ_a Z Y I0 gr pc lv (vi y :: vi x :: st) I e κ :=
  WQ_a.go (fun _ B _ _ _ ls _ _ _ hl kk => lv_imul B.1 B.2.1 d (by rw [i_mul]; exact kk ls hl)) k
theorem wq_dup_a {v : Value} (d : decode Y.2.1 pc = .ok (.dup, 1)) (hv : v.category = 1) (k : WQ_a Z Y I0 gr (pc + 1) lv (v :: v :: st) I e κ) : WQ_a Z Y I0 gr pc lv (v :: st) I e κ :=
  WQ_a.go (fun _ B _ _ _ ls _ _ _ hl kk => lv_dup B.1 B.2.1 d hv (kk ls hl)) k
theorem wq_goto_a {off : Int} (tgt : Nat) (d : decode Y.2.1 pc = .ok (.goto off, 3)) (ht : (pc : Int) + off = (tgt : Int)) (k : WQ_a Z Y I0 gr tgt lv st I e κ) : WQ_a Z Y I0 gr pc lv st I e κ :=
  WQ_a.go (fun _ B _ _ _ ls _ _ _ hl kk => lv_goto B.1 B.2.1 d ht (kk ls hl)) k
theorem wq_if_eq_a {off x x' : Int} (tgt : Nat) (d : decode Y.2.1 pc = .ok (.ifCond .eq off, 3)) (ht : (pc : Int) + off = (tgt : Int)) (hx : w32 x = x') (k1 : x' = 0 → WQ_a Z Y I0 gr tgt lv st I e1 κ) (k2 : ¬ x' = 0 → WQ_a Z Y I0 gr (pc + 3) lv st I e2 κ) : WQ_a Z Y I0 gr pc lv (vi x :: st) I (if x' = 0 then e1 else e2) κ :=
  WQ_a.br (fun _ B _ _ _ ls _ _ _ _ h1 h2 => lv_if_eq B.1 B.2.1 d ht (fun q => h1 (by rw [← hx, ← w_0]; exact (w_eq x 0).mp q)) (fun q => h2 (fun r => q ((w_eq x 0).mpr (by rw [hx, r, w_0]))))) k1 k2
theorem wq_icmp_ge_a {off x y x' y' : Int} (tgt : Nat) (d : decode Y.2.1 pc = .ok (.if_icmp .ge off, 3)) (ht : (pc : Int) + off = (tgt : Int)) (hx : w32 x = x') (hy : w32 y = y') (k1 : x' < y' → WQ_a Z Y I0 gr (pc + 3) lv st I e1 κ) (k2 : ¬ x' < y' → WQ_a Z Y I0 gr tgt lv st I e2 κ) : WQ_a Z Y I0 gr pc lv (vi y :: vi x :: st) I (if x' < y' then e1 else e2) κ :=
  WQ_a.br (fun _ B _ _ _ ls _ _ _ _ h1 h2 => lv_icmp_ge B.1 B.2.1 d ht (fun q => h2 (by have := (w_le y x).mp q; rw [hx, hy] at this; exact this)) (fun q => h1 (by have := mt (w_le y x).mpr q; rw [hx, hy] at this; omega))) k1 k2
theorem wq_icmp_gt_a {off x y x' y' : Int} (tgt : Nat) (d : decode Y.2.1 pc = .ok (.if_icmp .gt off, 3)) (ht : (pc : Int) + off = (tgt : Int)) (hx : w32 x = x') (hy : w32 y = y') (k1 : y' < x' → WQ_a Z Y I0 gr tgt lv st I e1 κ) (k2 : ¬ y' < x' → WQ_a Z Y I0 gr (pc + 3) lv st I e2 κ) : WQ_a Z Y I0 gr pc lv (vi y :: vi x :: st) I (if y' < x' then e1 else e2) κ :=
  WQ_a.br (fun _ B _ _ _ ls _ _ _ _ h1 h2 => lv_icmp_gt B.1 B.2.1 d ht (fun q => h1 (by have := (w_lt y x).mp q; rw [hx, hy] at this; exact this)) (fun q => h2 (fun r => q ((w_lt y x).mpr (by rw [hx, hy]; exact r))))) k1 k2
theorem wq_icmp_le_a {off x y x' y' : Int} (tgt : Nat) (d : decode Y.2.1 pc = .ok (.if_icmp .le off, 3)) (ht : (pc : Int) + off = (tgt : Int)) (hx : w32 x = x') (hy : w32 y = y') (k1 : y' < x' → WQ_a Z Y I0 gr (pc + 3) lv st I e1 κ) (k2 : ¬ y' < x' → WQ_a Z Y I0 gr tgt lv st I e2 κ) : WQ_a Z Y I0 gr pc lv (vi y :: vi x :: st) I (if y' < x' then e1 else e2) κ :=
  WQ_a.br (fun _ B _ _ _ ls _ _ _ _ h1 h2 => lv_icmp_le B.1 B.2.1 d ht (fun q => h2 (by have := (w_le x y).mp q; rw [hx, hy] at this; exact this)) (fun q => h1 (by have := mt (w_le x y).mpr q; rw [hx, hy] at this; omega))) k1 k2
end ROWS
section MEMS
variable {Z : ZT} {Y : YT} {I0 : Mem} {gr : Nat → Nat} {pc : Nat} {lv : List (Nat × Value)} {st : List Value} {I : Mem} {α : Type} {e e1 e2 : Option (α × Mem)} {κ : α → Mem → Option OT}
theorem WQ_a.mem {J : Mem} {pc' : Nat} {lv' : List (Nat × Value)} {st' : List Value} (hc : ∀ s : Nat, J 30 0 s = I 30 0 s)
    (h : ∀ X : XT, Bd_a Z X Y → ∀ (o : OT) (H : Heap) (locs : List Loc) (ls : Array Slot) (cells slots : Nat), HHA_a Z gr I H → (∀ q ∈ locs, zN Z q.base) → lv_has ls Y.2.2.1 lv → (∀ (H1 : Heap) (locs1 : List Loc) (ls' : Array Slot), HHA_a Z gr J H1 → (∀ q ∈ locs1, zN Z q.base) → lv_has ls' Y.2.2.1 lv' → WX_a Z X Y I0 o H1 locs1 cells slots (F0 X.2.2.2.2.1 pc' ls' st')) → WX_a Z X Y I0 o H locs cells slots (F0 X.2.2.2.2.1 pc ls st))
    (k : WQ_a Z Y I0 gr pc' lv' st' J e κ) : WQ_a Z Y I0 gr pc lv st I e κ := by
  intro o ho
  have kk := k o ho
  refine ⟨⟨by rw [← hc]; exact kk.1.1, by rw [← hc]; exact kk.1.2⟩, fun X B hcl H locs ls hH hlo hl => ?_⟩
  have h1 := fun H1 locs1 ls' hH1 hlo1 hl' => kk.2 X B ⟨by rw [hc]; exact hcl.1, by rw [hc]; exact hcl.2⟩ H1 locs1 ls' hH1 hlo1 hl'
  rw [dC_eq hc, dS_eq hc] at h1
  exact h X B o H locs ls _ _ hH hlo hl h1
/-- a field is read -/
theorem wq_get_a {k i fk ci N index a : Nat} {C fn fd : String} {T : u_T} {fs : List Value} {v : Value} (he : ent Z gr I k i = .inr (ci, fs)) (hi : i < ksz_a k) (ha : adG Z gr k i = a) (hc : cls[ci]? = some (C, T, N)) (hin : ∀ w ∈ u_ws C T N, w ∈ lw_good) (hk : fk < N) (hT : T fk = (C, fn, fd, (T fk).2.2.2)) (hv : fs[fk]? = some v)
    (hln : Cond.fieldLink Y.1.cls index C fn fd ∈ lw_good) (d : decode Y.2.1 pc = .ok (.getfield index, 3)) (kk : WQ_a Z Y I0 gr (pc + 3) lv (v :: st) I e κ) : WQ_a Z Y I0 gr pc lv (.ref a :: st) I e κ := by
  refine WQ_a.go (fun X B o H locs ls cells slots hH hl k1 => ?_) kk
  have hat := hH.at hi
  rw [he, ha] at hat
  have h1 : (T fk).1 = C := by rw [hT]
  have h2 : (T fk).2.1 = fn := by rw [hT]
  have h3 : (T fk).2.2.1 = fd := by rw [hT]
  exact va_get (C := C) (T := T) (N := N) (ci := ci) (Ts := lw_good) B.1 B.2.1 (fun w hw => B.2.2.2.2.1 w hw) hin B.2.2.2.1 B.2.2.2.2.2.1.1 (va_P1 hat) 0 rfl hc fk hk (ref := C) (by rw [h2, h3]; exact B.2.2.2.2.1 _ hln) (fun x hx => by rw [h1] at hx; exact hx) hv d (k1 ls hl)
/-- a field of a number is written -/
theorem wq_put_a {k i fk ci N index a : Nat} {C fn fd : String} {T : u_T} {ty : Nat → FieldType} {fs : List Value} {x : Int} {f : Mem → Option (α × Mem)} {v : Value} (he : ent Z gr I k i = .inr (ci, fs)) (hset : ent Z gr (sI I k i fk x) k i = .inr (ci, fs.set fk v)) (hi : i < ksz_a k) (ha : adG Z gr k i = a) (hc : cls[ci]? = some (C, T, N)) (hin : ∀ w ∈ u_ws C T N, w ∈ lw_good)
    (hty : ∀ k, k < N → parseFieldDescriptor (T k).2.2.1 = some (ty k)) (hnm : ∀ a, a < N → ∀ b, b < N → a ≠ b → (T a).2.1 ≠ (T b).2.1) (hk : fk < N) (hT : T fk = (C, fn, fd, false)) (hl : fk < fs.length) (hn : narrow (ty fk) v = v) (hf : fits (ty fk) v = true) (h2 : ¬ (k = 2 ∧ fk = 2)) (h10 : ¬ (k = 10 ∧ fk = 2)) (h30 : k ≠ 30)
    (hln : Cond.fieldLink Y.1.cls index C fn fd ∈ lw_good) (d : decode Y.2.1 pc = .ok (.putfield index, 3)) (kk : ∀ J : Mem, WQ_a Z Y I0 gr (pc + 3) lv st J (f J) κ) : WQ_a Z Y I0 gr pc lv (v :: .ref a :: st) I (ltI (sI I k i fk x) f) κ := by
  refine WQ_a.mem (sI_30 h30) (fun X B o H locs ls cells slots hH hlo hl0 k1 => ?_) (kk _)
  have hat := hH.at hi
  rw [he, ha] at hat
  have e1 : (T fk).1 = C := by rw [hT]
  have e2 : (T fk).2.1 = fn := by rw [hT]
  have e3 : (T fk).2.2.1 = fd := by rw [hT]
  have e4 : (T fk).2.2.2 = false := by rw [hT]
  have hts : ∀ w ∈ lw_good, w.before X.2.2.2.2.2.1 X.2.2.2.1 = true := fun w hw => B.2.2.2.2.1 w hw
  have hK := B.2.2.2.2.2.1.1
  have hap := va_apart (own := Y.1.cls) hts hin ty hty hnm hK hc
  obtain ⟨r, h1, cell, q1, q2, q3, q4⟩ := hat
  have hr : r = (C, T, N) := Option.some.inj (h1.symm.trans hc)
  subst hr
  obtain ⟨hS, hfc, kC, hkC, hkind⟩ := hK.1 ci _ hc
  obtain ⟨cf, kf, fi, fl, hif, hsl⟩ := hS fk hk
  have hlay := hts _ (hin _ (u_in_lay hk))
  unfold u_lay at hlay
  rw [if_neg (by rw [e4]; decide)] at hlay
  have hst := (u_facts hfc hkC (u_lays hts hin hk) hif).1
  have h6 := u_store hfc hkC hkind hlay hif (hty fk hk) hn hf
  have hlnk := hts _ hln
  rw [← e2, ← e3] at hlnk
  have hif' : X.2.2.2.1.fieldFound? C (T fk).2.1 (T fk).2.2.1 = some (cf, kf, fi, fl) := by rw [← e1]; exact hif
  refine W.putK B.1 B.2.1 (f := fl) (ref := C) ⟨B.2.2.2.1, hlnk, ⟨_, _, _, hif'⟩, hst⟩ (by rw [q2]; exact h6) q1 q3 (by rw [hsl]; exact k2_hasslot (q4 fk hk)) rfl rfl d fun H' p1 p2 p3 => ?_
  rw [hsl] at p1 ⊢
  have hHn : HHA_a Z gr (sI I k i fk x) H' := by
    refine hH.upd hi p2 (by rw [ha]; exact p3) ?_ (fun k' i' hi' hne => sI_ent h2 h10 hne)
    rw [hset, ha]
    exact ⟨_, hc, t_OB.to (V := updV (vp_V fs) fk v) ⟨_, p1, q2, q3, t_set q4 hap hk v⟩ (fun j _ => vp_updV_set hl v j)⟩
  exact k1 H' _ ls hHn (locs_put hlo (by rw [← ha]; exact hH.2.2.1 k i hi)) hl0
/-- an array of references is read -/
theorem wq_aald_a {k i a n t0 : Nat} {C : String} {f : Nat → Nat} {j j' m : Int} {cA : ClassId} (he : ent Z gr I k i = arR cA n f) (ht : (tysOf Z)[t0]? = some (cA, .object C)) (hi : i < ksz_a k) (ha : adG Z gr k i = a) (hj : w32 j = j') (hin : 0 ≤ j' ∧ j' < m) (hm : m.toNat ≤ n) (d : decode Y.2.1 pc = .ok (.aaload, 1)) (kk : WQ_a Z Y I0 gr (pc + 1) lv (.ref (f j'.toNat) :: st) I e κ) : WQ_a Z Y I0 gr pc lv (vi j :: .ref a :: st) I e κ := by
  refine WQ_a.go (fun X B o H locs ls cells slots hH hl k1 => ?_) kk
  have hat := hH.at hi
  rw [he, ha] at hat
  refine va_aldq (cA := cA) (n := n) (f := fun j => some (f j)) B.1 B.2.1 B.2.2.2.2.2.1.1 (va_P1 hat) 0 t0 rfl ht (w_in hj hin hm) d ?_
  rw [w_nat hj]
  exact k1 ls hl
/-- an int array's element is written -/
theorem wq_iast_a {k i a n : Nat} {j j' m x : Int} {f : Mem → Option (α × Mem)} (he : ∀ J : Mem, (∀ i', J 2 i' 2 = I 2 i' 2) → ent Z gr J k i = arI (zC Z 0) n (J k i)) (hi : i < ksz_a k) (ha : adG Z gr k i = a) (hj : w32 j = j') (hin : 0 ≤ j' ∧ j' < m) (hm : m.toNat ≤ n) (h2 : k ≠ 2) (h10 : k ≠ 10) (h30 : k ≠ 30) (d : decode Y.2.1 pc = .ok (.iastore, 1)) (kk : ∀ J : Mem, WQ_a Z Y I0 gr (pc + 1) lv st J (f J) κ) : WQ_a Z Y I0 gr pc lv (vi x :: vi j :: .ref a :: st) I (ltI (sI I k i j'.toNat x) f) κ := by
  refine WQ_a.mem (sI_30 h30) (fun X B o H locs ls cells slots hH hlo hl k1 => ?_) (kk _)
  have hat := hH.at hi
  rw [he I (fun _ => rfl), ha] at hat
  have hat : H[a]? = some (vp_cell (zC Z 0) (n, .inl fun j => Int32.ofInt (I k i j))) := hat
  refine W.iast B.1 B.2.1 hat ((B.2.2.2.2.2.1.1.2 0 _ rfl).1 n (fun j => .int (Int32.ofInt (I k i j)))) (fun q => by cases q) (by show ¬ (_ < 0 ∨ (arrV _ _ _).slots.size ≤ _); rw [arrV_size]; exact w_in hj hin hm) rfl rfl d fun H1 e1 z oq => ?_
  have hHn : HHA_a Z gr (sI I k i j'.toNat x) H1 := by
    refine hH.upd hi z (by rw [ha]; exact oq) ?_ (fun k' i' hi' hne => sI_ent (fun q => h2 q.1) (fun q => h10 q.1) hne)
    rw [he _ (fun i' => sI_ne (fun q => h2 q.1.symm)), ha]
    show H1[a]? = some (vp_cell _ _)
    rw [e1, vp_cell_i, vp_cell_i, arrV_store, w_nat hj]
    congr 2
    funext q
    by_cases hq : q = j'.toNat
    · subst hq; simp [updV, sI]
    · simp [updV, hq, sI]
  exact k1 H1 _ ls hHn (locs_put hlo (by rw [← ha]; exact hH.2.2.1 k i hi)) hl
/-- an array's length -/
theorem wq_alen_a {k i a t0 : Nat} {ty : FieldType} {x : vp_A} {cA : ClassId} {m : Int} (he : ent Z gr I k i = .inl (cA, x)) (ht : (tysOf Z)[t0]? = some (cA, ty)) (hi : i < ksz_a k) (ha : adG Z gr k i = a) (hx : Int32.ofNat x.1 = Int32.ofInt m) (d : decode Y.2.1 pc = .ok (.arraylength, 1)) (kk : WQ_a Z Y I0 gr (pc + 1) lv (vi m :: st) I e κ) : WQ_a Z Y I0 gr pc lv (.ref a :: st) I e κ := by
  refine WQ_a.go (fun X B o H locs ls cells slots hH hl k1 => ?_) kk
  have hat := hH.at hi
  rw [he, ha] at hat
  exact va_alen (cA := cA) (x := x) B.1 B.2.1 B.2.2.2.2.2.1.1 (va_P1 hat) 0 t0 rfl ht hx d (k1 ls hl)
end MEMS
section CALLS
variable {Z : ZT} {Y : YT} {I0 : Mem} {gr : Nat → Nat} {pc : Nat} {lv : List (Nat × Value)} {st : List Value} {I : Mem} {α : Type} {e : Option (α × Mem)} {κ : α → Mem → Option OT}
theorem fb_Pcz_a {Z : ZT} {av : List Value} {I : Mem} : FrameBlind (Pcz_a Z av I) := fun a U g mk h => ⟨h.1, h.2.1, KK.same (s := U) (U := U.calling g mk a) rfl h.2.2⟩
theorem pc_at_a {Z : ZT} {X : XT} {Y : YT} (B : Bd_a Z X Y) {gr : Nat → Nat} {I : Mem} {H : Heap} {av : List Value} (hH : HHA_a Z gr I H) : ∀ U : State, U.heap = H → X.2.2.2.1.WarmedH U.vm → Pcz_a Z av I av.toArray U :=
  fun U hU hW => ⟨rfl, ⟨gr, by rw [hU]; exact hH⟩, B.2.2.2.2.2.1.warm hW⟩
/-- behind a call -/
theorem call_go_a {p : Program} {l : Launch} {e : Env} {R : Room} {s : State} {m : MethodId} {args : Array Value} {below : List Frame} {meth : Method} {c : Code} {H : Heap} {locs : List Loc} {cells slots mc ms : Nat} {Q : State → Prop} {pc : Nat} {ls : Array Slot} {rest st0 : List Value} {a : Array Value} {Z : ZT} {o1 : OV}
    (hr : va_Run p l e R s m args below meth c H locs cells slots mc ms (F0 m pc ls st0) rest (Qcz_a Z o1 a) (zN Z)) (hlo : ∀ q ∈ locs, zN Z q.base)
    (kk : ∀ (H1 : Heap) (locs1 : List Loc), HH_a Z o1.2 H1 → (∀ q ∈ locs1, zN Z q.base) → W p l e R s m args below meth c H1 locs1 (cells + mc) (slots + ms) Q (F0 m (pc + 3) ls (o1.1.toList ++ rest))) : W p l e R s m args below meth c H locs cells slots Q (F0 m pc ls st0) := by
  intro T hT X
  obtain ⟨v, st₀, t, T', L, h0, X', hL, e1, e2, ⟨hv, hh⟩, st⟩ := hr T hT X
  cases hv
  obtain ⟨t2, a1, b1⟩ := kk T'.heap (locs ++ L) (by rw [e1]; exact hh) (fun q hq => by
    rcases List.mem_append.mp hq with h | h
    · exact hlo q h
    · exact hL q h) T' rfl X'
  exact ⟨t2, st t2 a1, b1⟩
/-- a call's step, of any kind: from the road of the call itself -/
theorem WP_a.call {o : OT} {o1 : OV} {y' : MethodName} {cc' : ByteArray} {maxL' h' : Nat} {ret' : Option FieldType} {av rest : List Value} (hr : Runs_a Z y' cc' maxL' ret' h' av I o1)
    (h : ∀ X : XT, Bd_a Z X Y → ∀ (H : Heap) (locs : List Loc) (ls : Array Slot), HHA_a Z gr I H → ls.size = Y.2.2.1 → dC I0 I + dC I o1.2 ≤ dC I0 o.2 ∧ dS I0 I + dS I o1.2 ≤ dS I0 o.2 → va_Run X.1 X.2.1 X.2.2.1 (rmH Y.2.2.2.2 (dC I0 o.2) (dS I0 o.2)) X.2.2.2.1 X.2.2.2.2.1 X.2.2.2.2.2.1 X.2.2.2.2.2.2.1 X.2.2.2.2.2.2.2.1 X.2.2.2.2.2.2.2.2 H locs (dC I0 I) (dS I0 I) (dC I o1.2) (dS I o1.2) (F0 X.2.2.2.2.1 pc ls st) rest (Qcz_a Z o1 av.toArray) (zN Z))
    (k : ∀ gr' : Nat → Nat, WP_a Z Y I0 o gr' (pc + 3) lv (o1.1.toList ++ rest) o1.2) : WP_a Z Y I0 o gr pc lv st I := by
  have hc1 := hr.1
  have hc2 := (k gr).1
  refine ⟨hc1.trans hc2, fun X B hcl H locs ls hH hlo hl => ?_⟩
  have hle : dC I0 I + dC I o1.2 = dC I0 o1.2 ∧ dS I0 I + dS I o1.2 = dS I0 o1.2 := by
    unfold dC dS
    obtain ⟨q1, q2⟩ := hc1
    obtain ⟨q5, q6⟩ := hcl
    constructor <;> omega
  have hle2 : dC I0 o1.2 ≤ dC I0 o.2 ∧ dS I0 o1.2 ≤ dS I0 o.2 := by
    unfold dC dS
    obtain ⟨q1, q2⟩ := hc2
    constructor <;> omega
  refine call_go_a (h X B H locs ls hH hl.1 ⟨by rw [hle.1]; exact hle2.1, by rw [hle.2]; exact hle2.2⟩) hlo (fun H1 locs1 hH1 hlo1 => ?_)
  obtain ⟨gr', hH1⟩ := hH1
  have := (k gr').2 X B (hcl.trans hc1) H1 locs1 ls hH1 hlo1 hl
  rw [hle.1, hle.2]
  exact this
/-- invokevirtual of a method of its own class -/
theorem WP_a.callV {o : OT} {o1 : OV} {y' : MethodName} {cc' : ByteArray} {maxL' h' k i ci N index n a : Nat} {T : u_T} {ret' : Option FieldType} {fs As rest : List Value} (hr : Runs_a Z y' cc' maxL' ret' h' (.ref a :: As) I o1)
    (he : ent Z gr I k i = .inr (ci, fs)) (hi : i < ksz_a k) (ha : adG Z gr k i = a) (hc : cls[ci]? = some (y'.cls, T, N)) (hn : As.length = n) (hst : st = As.reverse ++ .ref a :: rest) (hh : h' < Y.2.2.2.2) (hm : maxL' ≤ 16) (hw : (rest.map fun v => v.category).sum ≤ 8)
    (hcode : Cond.code y' cc' maxL' ret' ∈ lw_good) (hlink : Cond.methodLink Y.1.cls index y' ∈ lw_good) (hinst : Cond.instanceMethod y' ∈ lw_good) (hsel : Cond.selects y'.cls y' y' ∈ lw_good) (hini : Cond.initialized y'.cls ∈ lw_good)
    (hd : y'.cls ≠ "java/lang/invoke/MethodHandle" ∧ y'.cls ≠ "java/lang/invoke/VarHandle" ∧ (parseMethodDescriptor y'.desc).map (fun d => d.parameters.length) = some n) (d : decode Y.2.1 pc = .ok (.invokevirtual index, 3))
    (k : ∀ gr' : Nat → Nat, WP_a Z Y I0 o gr' (pc + 3) lv (o1.1.toList ++ rest) o1.2) : WP_a Z Y I0 o gr pc lv st I := by
  refine WP_a.call hr (fun X B H locs ls hH hls hroom => ?_) k
  have hat := hH.at hi
  rw [he, ha] at hat
  have hrecv := va_recv (q0 := 0) B.2.2.2.2.2.1.1 (va_P1 hat) hc rfl
  have hG : GoodIn lw_good (wsV Y.1.cls index y'.cls y' (wsAll y' cc' maxL' ret')) := by
    intro w hw
    rcases List.mem_append.mp hw with hw | hw
    · have hm : w ∈ lw_good := by
        simp only [List.mem_cons, List.mem_nil_iff, or_false] at hw
        rcases hw with rfl | rfl | rfl | rfl <;> assumption
      exact ⟨hm, good_of_word (List.mem_filter.mp hm).2⟩
    · exact goodAll hcode w hw
  exact va_runV (cc := Y.2.1) (nL := Y.2.2.1) (Ts := lw_good) (own := Y.1.cls) (As := As) (n := n) ⟨B.1, B.2.1, B.2.2.1, B.2.2.2.1, B.2.2.2.2.1⟩ (hr.2 X.2.1 B.2.2.2.2.2.2.2.2.1) (cwV n B.2.2.2.2.1 hG rfl rfl rfl ⟨rfl, hd⟩ (room_ok hh hm)) ⟨fb_Pcz_a, hrecv, pc_at_a B hH⟩ rfl hn hls hst (lv_room hw) d hroom
theorem wq_callV_a {β : Type} {rv : β → Option Value} {f : Option (β × Mem)} {K : β → Mem → Option (α × Mem)} {y' : MethodName} {cc' : ByteArray} {maxL' h' k i ci N index n a : Nat} {T : u_T} {ret' : Option FieldType} {fs As rest : List Value} (hM : MwV y' cc' maxL' ret' n) (hr : ∀ (r : β) (J : Mem), f = some (r, J) → Runs_a Z y' cc' maxL' ret' h' (.ref a :: As) I (rv r, J))
    (he : ent Z gr I k i = .inr (ci, fs)) (hi : i < ksz_a k) (ha : adG Z gr k i = a) (hc : cls[ci]? = some (y'.cls, T, N)) (hn : As.length = n) (hst : st = As.reverse ++ .ref a :: rest) (hh : h' < Y.2.2.2.2) (hm : maxL' ≤ 16) (hw : (rest.map fun v => v.category).sum ≤ 8)
    (hlink : Cond.methodLink Y.1.cls index y' ∈ lw_good) (d : decode Y.2.1 pc = .ok (.invokevirtual index, 3))
    (kk : ∀ (gr' : Nat → Nat) (r : β) (J : Mem), WQ_a Z Y I0 gr' (pc + 3) lv ((rv r).toList ++ rest) J (K r J) κ) : WQ_a Z Y I0 gr pc lv st I (bnd f K) κ := by
  intro o ho
  cases hf : f with
  | none => rw [hf] at ho; cases ho
  | some q =>
    obtain ⟨r, J⟩ := q
    rw [hf] at ho
    exact WP_a.callV (hr r J hf) he hi ha hc hn hst hh hm hw hM.1 hlink hM.2.1 hM.2.2.1 hM.2.2.2.1 hM.2.2.2.2 d (fun gr' => kk gr' r J o ho)
theorem wq_zret_a {x : Int} {b : α} (hr : Y.2.2.2.1 = some .boolean) (hx : x = 0 ∨ x = 1) (h : κ b I = some (.inl (some (vi x)), I)) (d : decode Y.2.1 pc = .ok (.ireturn, 1)) : WQ_a Z Y I0 gr pc lv [vi x] I (some (b, I)) κ := by
  intro o ho
  have ho : some o = some (.inl (some (vi x)), I) := ho.symm.trans h
  cases ho
  refine ⟨cle.refl I, fun X B hcl H locs ls hH hlo hl => ?_⟩
  exact W.zret (hlocks := B.2.2.2.2.2.2.2.1) B.1 B.2.1 (B.2.2.2.2.2.2.1.trans hr) (by rcases hx with rfl | rfl <;> rfl) (fun t ht _ => ⟨rfl, gr, by rw [ht]; exact hH⟩) hlo d
theorem wq_vret_a {b : α} (hr : Y.2.2.2.1 = none) (h : κ b I = some (.inl none, I)) (d : decode Y.2.1 pc = .ok (.return_, 1)) : WQ_a Z Y I0 gr pc lv [] I (some (b, I)) κ := by
  intro o ho
  have ho : some o = some (.inl none, I) := ho.symm.trans h
  cases ho
  refine ⟨cle.refl I, fun X B hcl H locs ls hH hlo hl => ?_⟩
  exact W.vret (hlocks := B.2.2.2.2.2.2.2.1) B.1 B.2.1 (B.2.2.2.2.2.2.1.trans hr) (fun t ht _ => ⟨rfl, gr, by rw [ht]; exact hH⟩) hlo d
/-- a method's entry -/
theorem Runs_a.of {β : Type} {rv : β → Option Value} {r : β} {J : Mem} {f : Option (β × Mem)} {y : MethodName} {cc : ByteArray} {maxL h : Nat} {ret : Option FieldType} {av : List Value} (hy : (plainName y.cls && (xtb y).isEmpty) = true) (hlen : (lg_sl av).length ≤ maxL) (hf : f = some (r, J))
    (k : ∀ gr : Nat → Nat, WQ_a Z (y, cc, maxL, ret, h) I gr 0 (lv_args 0 av) [] I f (fun b K => some (.inl (rv b), K))) : Runs_a Z y cc maxL ret h av I (rv r, J) := by
  have k := fun gr => k gr (.inl (rv r), J) (by rw [hf]; rfl)
  refine ⟨(k (fun _ => 0)).1, fun l hfl => ?_⟩
  rw [Bool.and_eq_true] at hy
  refine Met.ofW (cc := cc) (maxL := maxL) (ret := ret) hy.1 rfl ?_
  intro p e s m args below meth c s₁ B hml hv
  have htb := tab_nil (ws := wsAll y cc maxL ret) B List.mem_cons_self hy.2
  obtain ⟨rfl, ⟨gr, hH⟩, hKK⟩ := hv
  have hts : ∀ w ∈ lw_good, w.before av.toArray s = true := fun w hw => atoms_spec (ws := wsAll y cc maxL ret) B.pre w (List.mem_cons_of_mem _ hw)
  have hown := findClass_of_methodNamed B.named
  have hl := lv_entry av (n := maxL) hlen
  rw [lg_entry_eq]
  have hk := (k gr).2 (p, l, e, s, m, av.toArray, below, meth, c) ⟨B.exec, B.bytes, hml, hown, hts, hKK, B.returns, B.notSynchronized, hfl, htb, I, gr, hH⟩ (cle.refl I) s.heap [] _ hH (fun q hq => by cases hq) hl
  have e1 : dC I I = 0 := by unfold dC; omega
  have e2 : dS I I = 0 := by unfold dS; omega
  rw [e1, e2] at hk
  exact hk
end CALLS
section LOOPS
variable {Z : ZT} {Y : YT} {I0 : Mem} {pc : Nat} {lv : List (Nat × Value)} {I : Mem}
/-- a loop, at its head: the locals are a picture of what it carries -/
theorem wq_loop_a {σ ρ : Type} {step : σ → Mem → Option ((σ ⊕ ρ) × Mem)} {κ : ρ → Mem → Option OT} (lvf : σ → List (Nat × Value))
    (hb : ∀ κ2 : σ ⊕ ρ → Mem → Option OT, (∀ (gr : Nat → Nat) (s : σ) (J : Mem), WQ_a Z Y I0 gr pc (lvf s) [] J (some (.inl s, J)) κ2) → (∀ (r : ρ) (J : Mem), κ2 (.inr r) J = κ r J) → ∀ (gr : Nat → Nat) (s : σ) (J : Mem), WQ_a Z Y I0 gr pc (lvf s) [] J (step s J) κ2) (gr : Nat → Nat) (s : σ) (h : lvf s = lv) : WQ_a Z Y I0 gr pc lv [] I (whl step s I) κ := by
  subst h
  have key : ∀ (n : Nat) (gr : Nat → Nat) (s : σ) (J : Mem) (q : ρ × Mem) (o : OT), whN step n s J = some q → κ q.1 q.2 = some o → WP_a Z Y I0 o gr pc (lvf s) [] J := by
    intro n
    induction n with
    | zero => intro gr s J q o h; cases h
    | succ n ih =>
      intro gr s J q o h ho
      have hb' := hb (fun x K => match x with
        | .inl s' => (match whN step n s' K with
          | none => none
          | some q => κ q.1 q.2)
        | .inr r => κ r K) ?_ (fun _ _ => rfl) gr s J o ?_
      · exact hb'
      · intro gr' s' K o' ho'
        cases hw : whN step n s' K with
        | none =>
          have : (match whN step n s' K with
            | none => none
            | some q => κ q.1 q.2) = some o' := ho'
          rw [hw] at this; cases this
        | some q' =>
          have : (match whN step n s' K with
            | none => none
            | some q => κ q.1 q.2) = some o' := ho'
          rw [hw] at this
          exact ih gr' s' K q' o' hw this
      · unfold whN at h
        cases hs : step s J with
        | none => rw [hs] at h; cases h
        | some x =>
          obtain ⟨x, K⟩ := x
          rw [hs] at h
          cases x with
          | inl s' =>
            have h : whN step n s' K = some q := h
            show (match whN step n s' K with
            | none => none
            | some q => κ q.1 q.2) = some o
            rw [h]; exact ho
          | inr r =>
            have h : some (r, K) = some q := h
            cases h
            exact ho
  intro o ho
  cases hw : whl step s I with
  | none => rw [hw] at ho; cases ho
  | some q =>
    rw [hw] at ho
    obtain ⟨n, hn⟩ := whl_iff.mp hw
    exact key n gr s I q o hn ho
end LOOPS
section PRIMS
variable {Z : ZT} {Y : YT} {I0 : Mem} {gr : Nat → Nat} {pc : Nat} {lv : List (Nat × Value)} {st : List Value} {I : Mem} {α : Type} {e e1 e2 : Option (α × Mem)} {κ : α → Mem → Option OT}
theorem WQ_a.lt {β : Type} {x : β} {f : β → Option (α × Mem)} (k : WQ_a Z Y I0 gr pc lv st I (f x) κ) : WQ_a Z Y I0 gr pc lv st I (ltI x f) κ := k
theorem wq_min_a {x y : Int} {index : Nat} (hh : 1 ≤ Y.2.2.2.2) (hw : (st.map fun v => v.category).sum ≤ 8) (hln : Cond.methodLink Y.1.cls index Lib.Math.min.name ∈ lw_good) (hst : Cond.static Lib.Math.min.name ∈ lw_good) (hin : Cond.initialized "java/lang/Math" ∈ lw_good) (hco : Cond.code Lib.Math.min.name Lib.Math.min.code 2 (some .int) ∈ lw_good) (d : decode Y.2.1 pc = .ok (.invokestatic index, 3)) (k : WQ_a Z Y I0 gr (pc + 3) lv (vi (imn x y) :: st) I e κ) : WQ_a Z Y I0 gr pc lv (vi y :: vi x :: st) I e κ := by
  intro o ho
  have k := k o ho
  refine ⟨k.1, fun X B hc H locs ls hH hlo hl => ?_⟩
  have hw1 := fun w (hw : w ∈ lw_good) => B.2.2.2.2.1 w hw
  have hle : dC I0 I ≤ dC I0 o.2 ∧ dS I0 I ≤ dS I0 o.2 := by
    unfold dC dS; obtain ⟨q1, q2⟩ := k.1; constructor <;> omega
  refine va_mmin B.1 B.2.1 (B.2.2.1.trans hl.1.symm) B.2.2.2.1 (hw1 _ hln) (hw1 _ hst) (hw1 _ hin) (hw1 _ hco) hh (lhs_sum hw hh) hle.1 hle.2 d ?_
  have h := k.2 X B hc H locs ls hH hlo hl
  have e1 : (if Int32.ofInt y < Int32.ofInt x then Int32.ofInt y else Int32.ofInt x) = Int32.ofInt (imn x y) := by
    unfold imn; by_cases q : w32 y < w32 x
    · rw [if_pos q, if_pos ((w_lt y x).mpr q)]
    · rw [if_neg q, if_neg (fun r => q ((w_lt y x).mp r))]
  rw [e1]; exact h
def Ob_a (Z : ZT) (gr : Nat → Nat) (I : Mem) (a : Nat) (C : String) : Prop := ∃ (k i ci N : Nat) (T : u_T) (fs : List Value), ent Z gr I k i = .inr (ci, fs) ∧ i < ksz_a k ∧ adG Z gr k i = a ∧ cls[ci]? = some (C, T, N)
theorem wq_cV_a {β : Type} {rv : β → Option Value} {f : Option (β × Mem)} {K : β → Mem → Option (α × Mem)} {y' : MethodName} {cc' : ByteArray} {maxL' h' index n a : Nat} {ret' : Option FieldType} {As rest : List Value} (hM : MwV y' cc' maxL' ret' n) (hr : ∀ (r : β) (J : Mem), f = some (r, J) → Runs_a Z y' cc' maxL' ret' h' (.ref a :: As) I (rv r, J))
    (hO : Ob_a Z gr I a y'.cls) (hn : As.length = n) (hst : st = As.reverse ++ .ref a :: rest) (hh : h' < Y.2.2.2.2) (hm : maxL' ≤ 16) (hw : (rest.map fun v => v.category).sum ≤ 8)
    (hlink : Cond.methodLink Y.1.cls index y' ∈ lw_good) (d : decode Y.2.1 pc = .ok (.invokevirtual index, 3))
    (kk : ∀ (gr' : Nat → Nat) (r : β) (J : Mem), WQ_a Z Y I0 gr' (pc + 3) lv ((rv r).toList ++ rest) J (K r J) κ) : WQ_a Z Y I0 gr pc lv st I (bnd f K) κ := by
  obtain ⟨k, i, ci, N, T, fs, h1, h2, h3, h4⟩ := hO
  exact wq_callV_a hM hr h1 h2 h3 h4 hn hst hh hm hw hlink d kk
theorem wq_cVi_a {f : Option (Int × Mem)} {K : Int → Mem → Option (α × Mem)} {y' : MethodName} {cc' : ByteArray} {maxL' h' index n a : Nat} {ret' : Option FieldType} {As rest : List Value} (hM : MwV y' cc' maxL' ret' n) (hr : ∀ (r : Int) (J : Mem), f = some (r, J) → Runs_a Z y' cc' maxL' ret' h' (.ref a :: As) I (some (vi r), J))
    (hO : Ob_a Z gr I a y'.cls) (hn : As.length = n) (hst : st = As.reverse ++ .ref a :: rest) (hh : h' < Y.2.2.2.2) (hm : maxL' ≤ 16) (hw : (rest.map fun v => v.category).sum ≤ 8)
    (hlink : Cond.methodLink Y.1.cls index y' ∈ lw_good) (d : decode Y.2.1 pc = .ok (.invokevirtual index, 3))
    (kk : ∀ (gr' : Nat → Nat) (r : Int) (J : Mem), WQ_a Z Y I0 gr' (pc + 3) lv (vi r :: rest) J (K r J) κ) : WQ_a Z Y I0 gr pc lv st I (bnd f K) κ := wq_cV_a (rv := fun r => some (vi r)) hM hr hO hn hst hh hm hw hlink d kk
theorem wq_cVv_a {f : Option (Unit × Mem)} {K : Unit → Mem → Option (α × Mem)} {y' : MethodName} {cc' : ByteArray} {maxL' h' index n a : Nat} {ret' : Option FieldType} {As rest : List Value} (hM : MwV y' cc' maxL' ret' n) (hr : ∀ (r : Unit) (J : Mem), f = some (r, J) → Runs_a Z y' cc' maxL' ret' h' (.ref a :: As) I (none, J))
    (hO : Ob_a Z gr I a y'.cls) (hn : As.length = n) (hst : st = As.reverse ++ .ref a :: rest) (hh : h' < Y.2.2.2.2) (hm : maxL' ≤ 16) (hw : (rest.map fun v => v.category).sum ≤ 8)
    (hlink : Cond.methodLink Y.1.cls index y' ∈ lw_good) (d : decode Y.2.1 pc = .ok (.invokevirtual index, 3))
    (kk : ∀ (gr' : Nat → Nat) (r : Unit) (J : Mem), WQ_a Z Y I0 gr' (pc + 3) lv rest J (K r J) κ) : WQ_a Z Y I0 gr pc lv st I (bnd f K) κ := wq_cV_a (rv := fun _ => none) hM hr hO hn hst hh hm hw hlink d kk
end PRIMS
section MORE
variable {Z : ZT} {Y : YT} {I0 : Mem} {gr : Nat → Nat} {pc : Nat} {lv : List (Nat × Value)} {st : List Value} {I : Mem} {α : Type} {e : Option (α × Mem)} {κ : α → Mem → Option OT}
theorem wq_loopS_a {σ ρ : Type} {step : σ → Mem → Option ((σ ⊕ ρ) × Mem)} {K : ρ → Mem → Option (α × Mem)} (lvf : σ → List (Nat × Value)) (xpc : Nat) (lvx : ρ → List (Nat × Value))
    (hb : ∀ κ2 : σ ⊕ ρ → Mem → Option OT, (∀ (gr : Nat → Nat) (s : σ) (J : Mem), WQ_a Z Y I0 gr pc (lvf s) [] J (some (.inl s, J)) κ2) → (∀ (gr : Nat → Nat) (r : ρ) (J : Mem), WQ_a Z Y I0 gr xpc (lvx r) [] J (some (.inr r, J)) κ2) → ∀ (gr : Nat → Nat) (s : σ) (J : Mem), WQ_a Z Y I0 gr pc (lvf s) [] J (step s J) κ2)
    (hx : ∀ (gr : Nat → Nat) (r : ρ) (J : Mem), WQ_a Z Y I0 gr xpc (lvx r) [] J (K r J) κ) (gr : Nat → Nat) (s : σ) (h : lvf s = lv) : WQ_a Z Y I0 gr pc lv [] I (bnd (whl step s I) K) κ := by
  refine WQ_a.assoc ?_
  refine wq_loop_a lvf (fun κ2 back hr gr s J => ?_) gr s h
  refine hb κ2 back (fun gr r J => ?_) gr s J
  intro o ho
  exact hx gr r J o ((hr r J).symm.trans ho)
end MORE
section WRAP
variable {Z : ZT} {Y : YT} {I0 : Mem} {gr : Nat → Nat} {pc : Nat} {lv : List (Nat × Value)} {st : List Value} {I : Mem} {α : Type} {e : Option (α × Mem)} {κ : α → Mem → Option OT}
theorem ob_1_a {i : Nat} (hi : i < 12) : Ob_a Z gr I (zA Z 1 i) RX1 := ⟨1, i, 1, 10, TX1, _, rfl, hi, rfl, rfl⟩
theorem g_1_0_a {i : Nat} (hi : i < 12) {index : Nat} (hln : Cond.fieldLink Y.1.cls index RX1 "start" "LPairRules$Row;" ∈ lw_good) (d : decode Y.2.1 pc = .ok (.getfield index, 3)) (kk : WQ_a Z Y I0 gr (pc + 3) lv (vr Z 2 (43 * i) :: st) I e κ) : WQ_a Z Y I0 gr pc lv (vr Z 1 i :: st) I e κ :=
  wq_get_a (k := 1) (i := i) (fk := 0) (ci := 1) (N := 10) (T := TX1) rfl hi rfl rfl in_1 (by decide) rfl rfl hln d kk
theorem g_1_1_a {i : Nat} (hi : i < 12) {index : Nat} (hln : Cond.fieldLink Y.1.cls index RX1 "told" "LPairRules$Row;" ∈ lw_good) (d : decode Y.2.1 pc = .ok (.getfield index, 3)) (kk : WQ_a Z Y I0 gr (pc + 3) lv (vr Z 2 (43 * i + 1) :: st) I e κ) : WQ_a Z Y I0 gr pc lv (vr Z 1 i :: st) I e κ :=
  wq_get_a (k := 1) (i := i) (fk := 1) (ci := 1) (N := 10) (T := TX1) rfl hi rfl rfl in_1 (by decide) rfl rfl hln d kk
theorem g_1_2_a {i : Nat} (hi : i < 12) {index : Nat} (hln : Cond.fieldLink Y.1.cls index RX1 "bodies" "[LPairRules$Row;" ∈ lw_good) (d : decode Y.2.1 pc = .ok (.getfield index, 3)) (kk : WQ_a Z Y I0 gr (pc + 3) lv (vr Z 13 i :: st) I e κ) : WQ_a Z Y I0 gr pc lv (vr Z 1 i :: st) I e κ :=
  wq_get_a (k := 1) (i := i) (fk := 2) (ci := 1) (N := 10) (T := TX1) rfl hi rfl rfl in_1 (by decide) rfl rfl hln d kk
theorem g_1_4_a {i : Nat} (hi : i < 12) {index : Nat} (hln : Cond.fieldLink Y.1.cls index RX1 "lengths" "[I" ∈ lw_good) (d : decode Y.2.1 pc = .ok (.getfield index, 3)) (kk : WQ_a Z Y I0 gr (pc + 3) lv (vr Z 14 i :: st) I e κ) : WQ_a Z Y I0 gr pc lv (vr Z 1 i :: st) I e κ :=
  wq_get_a (k := 1) (i := i) (fk := 4) (ci := 1) (N := 10) (T := TX1) rfl hi rfl rfl in_1 (by decide) rfl rfl hln d kk
theorem g_1_5_a {i : Nat} (hi : i < 12) {index : Nat} (hln : Cond.fieldLink Y.1.cls index RX1 "accounts" "[I" ∈ lw_good) (d : decode Y.2.1 pc = .ok (.getfield index, 3)) (kk : WQ_a Z Y I0 gr (pc + 3) lv (vr Z 15 i :: st) I e κ) : WQ_a Z Y I0 gr pc lv (vr Z 1 i :: st) I e κ :=
  wq_get_a (k := 1) (i := i) (fk := 5) (ci := 1) (N := 10) (T := TX1) rfl hi rfl rfl in_1 (by decide) rfl rfl hln d kk
theorem p_1_6_a {i : Nat} (hi : i < 12) {index : Nat} {x : Int} {f : Mem → Option (α × Mem)} (hln : Cond.fieldLink Y.1.cls index RX1 "least" "I" ∈ lw_good) (d : decode Y.2.1 pc = .ok (.putfield index, 3)) (kk : ∀ J : Mem, WQ_a Z Y I0 gr (pc + 3) lv st J (f J) κ) : WQ_a Z Y I0 gr pc lv (vi x :: vr Z 1 i :: st) I (ltI (sI I 1 i 6 x) f) κ :=
  wq_put_a (k := 1) (i := i) (fk := 6) (ci := 1) (N := 10) (T := TX1) (v := vi x) rfl (by simp [ent, sI]) hi rfl rfl in_1 tyX1_ok nmX1 (by decide) rfl (Nat.le_of_ble_eq_true rfl) rfl rfl (by decide) (by decide) (by decide) hln d kk
theorem p_1_7_a {i : Nat} (hi : i < 12) {index : Nat} {x : Int} {f : Mem → Option (α × Mem)} (hln : Cond.fieldLink Y.1.cls index RX1 "tie" "I" ∈ lw_good) (d : decode Y.2.1 pc = .ok (.putfield index, 3)) (kk : ∀ J : Mem, WQ_a Z Y I0 gr (pc + 3) lv st J (f J) κ) : WQ_a Z Y I0 gr pc lv (vi x :: vr Z 1 i :: st) I (ltI (sI I 1 i 7 x) f) κ :=
  wq_put_a (k := 1) (i := i) (fk := 7) (ci := 1) (N := 10) (T := TX1) (v := vi x) rfl (by simp [ent, sI]) hi rfl rfl in_1 tyX1_ok nmX1 (by decide) rfl (Nat.le_of_ble_eq_true rfl) rfl rfl (by decide) (by decide) (by decide) hln d kk
theorem p_1_8_a {i : Nat} (hi : i < 12) {index : Nat} {x : Int} {f : Mem → Option (α × Mem)} (hln : Cond.fieldLink Y.1.cls index RX1 "inlines" "I" ∈ lw_good) (d : decode Y.2.1 pc = .ok (.putfield index, 3)) (kk : ∀ J : Mem, WQ_a Z Y I0 gr (pc + 3) lv st J (f J) κ) : WQ_a Z Y I0 gr pc lv (vi x :: vr Z 1 i :: st) I (ltI (sI I 1 i 8 x) f) κ :=
  wq_put_a (k := 1) (i := i) (fk := 8) (ci := 1) (N := 10) (T := TX1) (v := vi x) rfl (by simp [ent, sI]) hi rfl rfl in_1 tyX1_ok nmX1 (by decide) rfl (Nat.le_of_ble_eq_true rfl) rfl rfl (by decide) (by decide) (by decide) hln d kk
theorem p_1_9_a {i : Nat} (hi : i < 12) {index : Nat} {x : Int} {f : Mem → Option (α × Mem)} (hln : Cond.fieldLink Y.1.cls index RX1 "rulesAtFirst" "I" ∈ lw_good) (d : decode Y.2.1 pc = .ok (.putfield index, 3)) (kk : ∀ J : Mem, WQ_a Z Y I0 gr (pc + 3) lv st J (f J) κ) : WQ_a Z Y I0 gr pc lv (vi x :: vr Z 1 i :: st) I (ltI (sI I 1 i 9 x) f) κ :=
  wq_put_a (k := 1) (i := i) (fk := 9) (ci := 1) (N := 10) (T := TX1) (v := vi x) rfl (by simp [ent, sI]) hi rfl rfl in_1 tyX1_ok nmX1 (by decide) rfl (Nat.le_of_ble_eq_true rfl) rfl rfl (by decide) (by decide) (by decide) hln d kk
theorem ob_2_a {i : Nat} (hi : i < 516) : Ob_a Z gr I (zA Z 2 i) RX5 := ⟨2, i, 2, 2, TX5, _, rfl, hi, rfl, rfl⟩
theorem g_2_0_a {i : Nat} (hi : i < 516) {index : Nat} (hln : Cond.fieldLink Y.1.cls index RX5 "cells" "[I" ∈ lw_good) (d : decode Y.2.1 pc = .ok (.getfield index, 3)) (kk : WQ_a Z Y I0 gr (pc + 3) lv (.ref (gr i) :: st) I e κ) : WQ_a Z Y I0 gr pc lv (vr Z 2 i :: st) I e κ :=
  wq_get_a (k := 2) (i := i) (fk := 0) (ci := 2) (N := 2) (T := TX5) rfl hi rfl rfl in_2 (by decide) rfl rfl hln d kk
theorem g_2_1_a {i : Nat} (hi : i < 516) {index : Nat} (hln : Cond.fieldLink Y.1.cls index RX5 "many" "I" ∈ lw_good) (d : decode Y.2.1 pc = .ok (.getfield index, 3)) (kk : WQ_a Z Y I0 gr (pc + 3) lv (vi (I 2 i 1) :: st) I e κ) : WQ_a Z Y I0 gr pc lv (vr Z 2 i :: st) I e κ :=
  wq_get_a (k := 2) (i := i) (fk := 1) (ci := 2) (N := 2) (T := TX5) rfl hi rfl rfl in_2 (by decide) rfl rfl hln d kk
theorem p_2_1_a {i : Nat} (hi : i < 516) {index : Nat} {x : Int} {f : Mem → Option (α × Mem)} (hln : Cond.fieldLink Y.1.cls index RX5 "many" "I" ∈ lw_good) (d : decode Y.2.1 pc = .ok (.putfield index, 3)) (kk : ∀ J : Mem, WQ_a Z Y I0 gr (pc + 3) lv st J (f J) κ) : WQ_a Z Y I0 gr pc lv (vi x :: vr Z 2 i :: st) I (ltI (sI I 2 i 1 x) f) κ :=
  wq_put_a (k := 2) (i := i) (fk := 1) (ci := 2) (N := 2) (T := TX5) (v := vi x) rfl (by simp [ent, sI]) hi rfl rfl in_2 tyX5_ok nmX5 (by decide) rfl (Nat.le_of_ble_eq_true rfl) rfl rfl (by decide) (by decide) (by decide) hln d kk
end WRAP
section GROW2
variable {Z : ZT} {Y : YT} {I0 : Mem} {gr : Nat → Nat} {pc : Nat} {lv : List (Nat × Value)} {st : List Value} {I : Mem} {α : Type} {e : Option (α × Mem)} {κ : α → Mem → Option OT}
/-- a new array in the place of a row's: from the making of it to behind the store -/
theorem wq_growR_a {r : Nat} {h : Nat} {n n' m' : Int} {lv' : List (Nat × Value)} {f : Mem → Option (α × Mem)} (hr : r < 516) (hY : Y = (yX5_makeRoom, cX5_makeRoom, 4, some .boolean, h)) (hh : 1 ≤ h) (h0 : lv[0]? = some (0, vr Z 2 r)) (hl' : stl 3 (.ref 0) lv = (3, .ref 0) :: lv') (hl0 : lv'[0]? = some (0, vr Z 2 r)) (hn : w32 n = n') (hm : w32 (I 2 r 1) = m') (hg : 0 ≤ n' ∧ n' ≤ 262144 ∧ 0 ≤ m' ∧ m' ≤ I 2 r 2 ∧ m' ≤ n')
    (kk : ∀ (gr' : Nat → Nat) (J : Mem), WQ_a Z Y I0 gr' 73 lv' [] J (f J) κ) : WQ_a Z Y I0 gr 51 lv [vi n] I (ltI (grw I 12 2 r n' m') f) κ := by
  subst hY
  intro o ho
  obtain ⟨J, hJ⟩ : ∃ J, J = grw I 12 2 r n' m' := ⟨_, rfl⟩
  have hk := fun gr' => kk gr' J o (by rw [hJ]; exact ho)
  obtain ⟨g1, g2, g3, g4, g5⟩ := hg
  have hJc : J 30 0 0 = I 30 0 0 + 1 := by rw [hJ]; rfl
  have hJs : J 30 0 1 = I 30 0 1 + n' := by rw [hJ]; rfl
  have hc1 : cle I J := ⟨by omega, by omega⟩
  have hc2 := (hk gr).1
  refine ⟨hc1.trans hc2, fun X B hcl H locs ls hH hlo hl => ?_⟩
  have hroom : dC I0 I + 1 = dC I0 J ∧ dS I0 I + n'.toNat = dS I0 J ∧ dC I0 J ≤ dC I0 o.2 ∧ dS I0 J ≤ dS I0 o.2 := by
    unfold dC dS
    obtain ⟨q1, q2⟩ := hcl
    obtain ⟨q3, q4⟩ := hc2
    refine ⟨?_, ?_, ?_, ?_⟩ <;> omega
  obtain ⟨r1, r2, r3, r4⟩ := hroom
  have hw1 := fun w (hw : w ∈ lw_good) => B.2.2.2.2.1 w hw
  have hK := B.2.2.2.2.2.1.1
  have hnn := w_nn hn g1
  have hob := hH.at (k := 2) (i := r) hr
  have hcc : H[gr r]? = some (vp_cell (zC Z 0) ((I 2 r 2).toNat, .inl fun j => Int32.ofInt (I 12 r j))) := hH.at (k := 12) (i := r) hr
  refine va_newaK (atype := .int) B.1 B.2.1 (hw1 _ (li_1 57 (by decide +kernel) (by decide +kernel))) rfl dX5_makeRoom_51 rfl hnn (w_nat hn) (by show n'.toNat * 4 ≤ _; omega) (by show dC I0 I + 1 ≤ dC I0 o.2; omega) (by show dS I0 I + n'.toNat ≤ dS I0 o.2; omega) rfl (fun H1 cA e1 z1 o1 hAr hNm => ?_)
  have hcA : cA = zC Z 0 := Option.some.inj (hNm.symm.trans (hK.2 0 _ rfl).2)
  subst hcA
  obtain ⟨a, ha⟩ : ∃ a : Nat, a = H.size := ⟨_, rfl⟩
  rw [← ha] at e1 z1 o1 ⊢
  have hat1 : va_at (zD Z) cls (zA Z 2 r, .inr (2, [.ref (gr r), vi (I 2 r 1)])) H1 := by
    have q : va_at (zD Z) cls (zA Z 2 r, .inr (2, [.ref (gr r), vi (I 2 r 1)])) H := hob
    exact q.kept (o1 _ (by rw [ha]; exact hob.lt))
  have hl1 : lv_has ls 4 lv := hl
  refine lv_astore_n (lv' := (3, .ref a) :: lv') B.1 B.2.1 dX5_makeRoom_53 rfl hl1 (by decide) (stl_ref hl') (fun ls hl => ?_)
  refine lv_aload_n B.1 B.2.1 dX5_makeRoom_54 rfl (lv_at hl 1 hl0) ?_
  refine va_get (C := RX5) (T := TX5) (N := 2) (ci := 2) (Ts := lw_good) B.1 B.2.1 hw1 in_2 B.2.2.2.1 hK (va_P1 hat1) 0 rfl rfl 0 (by decide) (ref := RX5) (hw1 _ ln_RX5_9) (fun x hx => hx) rfl dX5_makeRoom_55 ?_
  refine lv_iconst (v := Int32.ofInt 0) B.1 B.2.1 dX5_makeRoom_58 rfl ?_
  refine lv_aload_n B.1 B.2.1 dX5_makeRoom_59 rfl (lv_at hl 0 rfl) ?_
  refine lv_iconst (v := Int32.ofInt 0) B.1 B.2.1 dX5_makeRoom_60 rfl ?_
  refine lv_aload_n B.1 B.2.1 dX5_makeRoom_61 rfl (lv_at hl 1 hl0) ?_
  refine va_get (C := RX5) (T := TX5) (N := 2) (ci := 2) (Ts := lw_good) B.1 B.2.1 hw1 in_2 B.2.2.2.1 hK (va_P1 hat1) 0 rfl rfl 1 (by decide) (ref := RX5) (hw1 _ ln_RX5_15) (fun x hx => hx) rfl dX5_makeRoom_62 ?_
  have hne : ∀ k i : Nat, i < ksz_a k → adG Z gr k i ≠ a := fun k i hi q => by have := (hH.at hi).lt; rw [q, ha] at this; exact Nat.lt_irrefl _ this
  have hgne : gr r ≠ a := hne 12 r hr
  have hc0 : H1[gr r]? = some (vp_cell (zC Z 0) ((I 2 r 2).toNat, .inl fun j => Int32.ofInt (I 12 r j))) := (o1 _ (by rw [ha]; exact (hH.at (k := 12) (i := r) hr).lt)).trans hcc
  have hca : H1[a]? = some (vp_cell (zC Z 0) (n'.toNat, .inl fun _ => Int32.ofInt 0)) := e1
  have hz0 : (Int32.ofInt 0).toNatClampNeg = 0 := by decide
  have hA := (hK.2 0 _ rfl).1
  refine W_acopy B.1 B.2.1 (B.2.2.1.trans hl.1.symm) B.2.2.2.1 (hw1 _ ln_RX5_23) (hw1 _ ac_nat) (hw1 _ ac_stat) (hw1 _ ac_ini) hc0 hca hA hA rfl (by decide) (by decide) (w_nn hm g3) (by rw [hz0, w_nat hm]; omega) (by rw [hz0, w_nat hm]; omega) (fun _ _ => rfl) hh (ac_room (Nat.zero_le _) hh) dX5_makeRoom_65 (fun H2 L e2 z2 o2 hL => ?_)
  have hat2 : va_at (zD Z) cls (zA Z 2 r, .inr (2, [.ref (gr r), vi (I 2 r 1)])) H2 := hat1.kept (o2 _ (hne 2 r hr))
  refine lv_aload_n B.1 B.2.1 dX5_makeRoom_68 rfl (lv_at hl 1 hl0) ?_
  refine lv_aload_n B.1 B.2.1 dX5_makeRoom_69 rfl (lv_at hl 0 rfl) ?_
  -- the store
  have hap := va_apart (own := RX5) hw1 in_2 tyX5 tyX5_ok nmX5 hK (ci := 2) rfl
  obtain ⟨rr, h1, cell, q1, q2, q3, q4⟩ := hat2
  have hr9 : rr = (RX5, TX5, 2) := Option.some.inj (h1.symm.trans rfl)
  subst hr9
  obtain ⟨hS, hfc, kC, hkC, hkind⟩ := hK.1 2 _ rfl
  obtain ⟨cf, kf, fi, fl, hif, hsl⟩ := hS 0 (by decide)
  have hlay := hw1 _ (in_2 _ (u_in_lay (k := 0) (by decide)))
  unfold u_lay at hlay
  rw [if_neg (by decide)] at hlay
  have hst := (u_facts hfc hkC (u_lays hw1 in_2 (k := 0) (by decide)) hif).1
  have h6 := u_store (v := .ref a) hfc hkC hkind hlay hif (tyX5_ok 0 (by decide)) rfl rfl
  refine W.putK B.1 B.2.1 (f := fl) (ref := RX5) ⟨B.2.2.2.1, hw1 _ ln_RX5_9, ⟨_, _, _, hif⟩, hst⟩ (by rw [q2]; exact h6) q1 q3 (by rw [hsl]; exact k2_hasslot (q4 0 (by decide))) rfl rfl dX5_makeRoom_70 fun H3 p1 p2 p3 => ?_
  rw [hsl] at p1 ⊢
  have hat3 : va_at (zD Z) cls (zA Z 2 r, .inr (2, [.ref a, vi (I 2 r 1)])) H3 :=
    ⟨_, rfl, t_OB.to (V := updV (vp_V [.ref (gr r), vi (I 2 r 1)]) 0 (.ref a)) ⟨_, p1, q2, q3, t_set q4 hap (by decide) (.ref a)⟩ (fun j _ => vp_updV_set (k := 0) (Nat.le_of_ble_eq_true rfl) (.ref a) j)⟩
  have haB : zB Z ≤ a := by rw [ha]; exact hH.1.2.1
  have hoa : zA Z 2 r ≠ a := hne 2 r hr
  obtain ⟨gr', hgr1, hgr2⟩ : ∃ gr' : Nat → Nat, gr' r = a ∧ ∀ x : Nat, x ≠ r → gr' x = gr x := ⟨fun x => if x = r then a else gr x, if_pos rfl, fun x hx => if_neg hx⟩
  have hHn : HHA_a Z gr' J H3 := by
    obtain ⟨⟨b1, b2, b3⟩, b4, b5, b6⟩ := hH
    have hadr : ∀ k i : Nat, i < ksz_a k → ¬ (k = 12 ∧ i = r) → adG Z gr' k i = adG Z gr k i := fun k i hi q => by
      unfold adG
      by_cases h12 : k = 12
      · rw [if_pos h12, if_pos h12]
        rw [h12] at hi
        have hi : i < 516 := hi
        exact hgr2 i (by exact fun e => q ⟨h12, e⟩)
      · rw [if_neg h12, if_neg h12]
        by_cases h25 : k = 25
        · rw [if_pos h25, if_pos h25]
          rw [h25] at hi
          have hi : i < 1 := hi
          exact hgr2 516 (by omega)
        · rw [if_neg h25, if_neg h25]
    have hadc : adG Z gr' 12 r = a := hgr1
    refine ⟨⟨b1, by rw [p2, z2, z1, ha]; omega, fun q hq => ?_⟩, ?_, ?_, ?_⟩
    · have hqo : q ≠ zA Z 2 r := fun e => by
        have h9 : zB Z ≤ zA Z 2 r := b5 2 r hr
        omega
      rw [p3 q hqo, o2 q (by omega), o1 q (by omega), b3 q hq]
    · intro k i k' i' hi hi' he
      by_cases hq : k = 12 ∧ i = r
      · by_cases hq' : k' = 12 ∧ i' = r
        · exact ⟨hq.1.trans hq'.1.symm, hq.2.trans hq'.2.symm⟩
        · rw [hq.1, hq.2, hadc, hadr k' i' hi' hq'] at he
          exact absurd he.symm (hne k' i' hi')
      · by_cases hq' : k' = 12 ∧ i' = r
        · rw [hq'.1, hq'.2, hadc, hadr k i hi hq] at he
          exact absurd he (hne k i hi)
        · rw [hadr k i hi hq, hadr k' i' hi' hq'] at he
          exact b4 k i k' i' hi hi' he
    · intro k i hi
      by_cases hq : k = 12 ∧ i = r
      · rw [hq.1, hq.2, hadc]; exact haB
      · rw [hadr k i hi hq]; exact b5 k i hi
    · intro k i hi
      by_cases hq : k = 12 ∧ i = r
      · rw [hq.1, hq.2, hadc]
        show H3[a]? = some (vp_cell (zC Z 0) ((J 2 r 2).toNat, .inl fun j => Int32.ofInt (J 12 r j)))
        rw [p3 a (Ne.symm hoa), e2]
        have x1 : J 2 r 2 = n' := by rw [hJ]; unfold grw; rw [if_neg (fun q => absurd q.1 (by decide)), if_pos ⟨rfl, rfl, rfl⟩]
        rw [x1]
        congr 4
        funext q
        rw [hz0, w_nat hm, hJ]
        unfold va_cpy grw
        by_cases hq : q < m'.toNat
        · rw [if_pos (show 0 ≤ q ∧ q < 0 + m'.toNat from ⟨Nat.zero_le _, by omega⟩), if_pos ⟨rfl, rfl⟩, if_pos hq]
          show Int32.ofInt (I 12 r (0 + (q - 0))) = _
          rw [Nat.zero_add, Nat.sub_zero]
        · rw [if_neg (fun z => hq (by omega)), if_pos ⟨rfl, rfl⟩, if_neg hq]
      · by_cases hq2 : k = 2 ∧ i = r
        · have x1 : J 2 r 1 = I 2 r 1 := by rw [hJ]; unfold grw; rw [if_neg (fun q => absurd q.1 (by decide)), if_neg (fun q => absurd q.2.2 (by decide)), if_neg (fun q => absurd q.1 (by decide)), if_neg (fun q => absurd q.1 (by decide))]
          have x2 : ent Z gr' J 2 r = .inr (2, [.ref a, vi (I 2 r 1)]) := by
            show (.inr (2, [.ref (gr' r), vi (J 2 r 1)]) : va_E) = _
            rw [hgr1, x1]
          rw [hq2.1, hq2.2, x2]
          exact hat3
        · have h30 : k ≠ 30 := fun q => by rw [q] at hi; exact absurd hi (by simp [ksz_a])
          have x3 : ∀ s : Nat, J k i s = I k i s := fun s => by
            rw [hJ]; unfold grw; rw [if_neg hq, if_neg (fun q => hq2 ⟨q.1, q.2.1⟩), if_neg (fun q => h30 q.1), if_neg (fun q => h30 q.1)]
          have x4 : ∀ i' : Nat, ¬ (2 = 2 ∧ i' = r) → J 2 i' 2 = I 2 i' 2 := fun i' h => by
            rw [hJ]; unfold grw; rw [if_neg (fun q => absurd q.1 (by decide)), if_neg (fun q => h ⟨q.1.symm, q.2.1⟩), if_neg (fun q => absurd q.1 (by decide)), if_neg (fun q => absurd q.1 (by decide))]
          have x5 : ¬ (2 = 10) → J 10 0 2 = I 10 0 2 := fun h => by
            rw [hJ]; unfold grw; rw [if_neg (fun q => absurd q.1 (by decide)), if_neg (fun q => h q.1.symm), if_neg (fun q => absurd q.1 (by decide)), if_neg (fun q => absurd q.1 (by decide))]
          have x6 : ent Z gr' J k i = ent Z gr J k i := by
            by_cases h2 : k = 2
            · subst h2
              have hi9 : i < 516 := hi
              show (.inr (2, [.ref (gr' i), vi (J 2 i 1)]) : va_E) = .inr (2, [.ref (gr i), vi (J 2 i 1)])
              rw [hgr2 i (by exact fun e => hq2 ⟨rfl, e⟩)]
            · by_cases h10 : k = 10
              · subst h10
                have hi9 : i < 1 := hi
                show (.inr (10, [.ref (gr' 516), vi (J 10 i 1)]) : va_E) = .inr (10, [.ref (gr 516), vi (J 10 i 1)])
                rw [hgr2 516 (by omega)]
              · unfold ent
                split <;> first | rfl | exact absurd rfl h2 | exact absurd rfl h10
          have x7 : ent Z gr J k i = ent Z gr I k i := ent_congr x3 (fun h12 => x4 i (fun q => hq ⟨h12, q.2⟩)) (fun h25 => x5 (by decide))
          rw [x6, x7, hadr k i hi hq]
          have hlt := (b6 k i hi).lt
          exact (b6 k i hi).kept ((p3 _ (fun q => hq2 (b4 k i 2 r hi hr q))).trans ((o2 _ (hne k i hi)).trans (o1 _ (by rw [ha]; exact hlt))))
  have hfin := (hk gr').2 X B (hcl.trans hc1) H3 ((locs ++ L) ++ [⟨zA Z 2 r, (zD Z).2 2 0⟩]) ls hHn ?_ (lv_tl hl)
  · rw [← r1, ← r2] at hfin
    exact hfin
  · intro q hq
    rcases List.mem_append.mp hq with h | h
    · rcases List.mem_append.mp h with h | h
      · exact hlo q h
      · rw [hL q h]; exact haB
    · cases List.mem_singleton.mp h
      exact hH.2.2.1 2 r hr
end GROW2
set_option maxRecDepth 20000 in
theorem R_Row_clear_a (Z : ZT) (t : Nat) (I : Mem) (r : Unit) (J : Mem) (hf : f_Row_clear t I = some (r, J)) : Runs_a Z yX5_clear cX5_clear 1 (none) 1 [vr Z 2 t] I (none, J) := by
  refine Runs_a.of (rv := fun _ => none) (by decide +kernel) (Nat.le_of_ble_eq_true rfl) hf (fun gr => ?_)
  unfold f_Row_clear
  refine WQ_a.loc [0] (lv' := [(0, vr Z 2 t)]) rfl ?_
  refine wq_grd_a (fun ht => ?_)
  refine wq_aload_n_a dX5_clear_0 0 rfl rfl ?_
  refine wq_iconst_a dX5_clear_1 ?_
  refine p_2_1_a ht ln_RX5_15 dX5_clear_2 (fun J1 => ?_)
  exact wq_vret_a rfl rfl dX5_clear_5
set_option maxRecDepth 20000 in
theorem R_Row_makeRoom_a (Z : ZT) (t : Nat) (a1 : Int) (I : Mem) (r : Int) (J : Mem) (hf : f_Row_makeRoom t a1 I = some (r, J)) : Runs_a Z yX5_makeRoom cX5_makeRoom 4 (some .boolean) 1 [vr Z 2 t, vi a1] I (some (vi r), J) := by
  refine Runs_a.of (rv := fun x => some (vi x)) (by decide +kernel) (Nat.le_of_ble_eq_true rfl) hf (fun gr => ?_)
  unfold f_Row_makeRoom
  refine WQ_a.loc [0, 1] (lv' := [(0, vr Z 2 t), (1, vi a1)]) rfl ?_
  refine wq_grd_a (fun ht => ?_)
  refine wq_iload_n_a dX5_makeRoom_0 1 rfl rfl ?_
  refine wq_aload_n_a dX5_makeRoom_1 0 rfl rfl ?_
  refine g_2_0_a ht ln_RX5_9 dX5_makeRoom_2 ?_
  refine wq_grd_a (fun g1 => ?_)
  refine wq_alen_a (k := 12) (i := t) (t0 := 0) rfl rfl ht rfl (alen_ok g1) dX5_makeRoom_5 ?_
  refine wq_icmp_gt_a 11 dX5_makeRoom_6 (by decide) rfl rfl (fun c20 => ?_) (fun c20 => ?_)
  · refine wq_iload_n_a dX5_makeRoom_11 1 rfl rfl ?_
    refine wq_sipush_a dX5_makeRoom_12 (by decide) ?_
    refine wq_icmp_le_a 20 dX5_makeRoom_15 (by decide) rfl rfl (fun c19 => ?_) (fun c19 => ?_)
    · refine wq_iconst_a dX5_makeRoom_18 ?_
      exact wq_zret_a rfl (by decide) rfl dX5_makeRoom_19
    · refine wq_iconst_a dX5_makeRoom_20 ?_
      refine wq_istore_n_a (lv' := [(2, vi 4), (0, vr Z 2 t), (1, vi a1)]) dX5_makeRoom_21 rfl (by decide) rfl ?_
      refine wq_iconst_a dX5_makeRoom_22 ?_
      refine wq_istore_n_a (lv' := [(3, vi 0), (2, vi 4), (0, vr Z 2 t), (1, vi a1)]) dX5_makeRoom_23 rfl (by decide) rfl ?_
      refine WQ_a.loc [2, 3, 1, 0] (lv' := [(0, vr Z 2 t), (1, vi a1), (2, vi 4), (3, vi 0)]) rfl ?_
      refine wq_loopS_a (fun s10 => [(0, vr Z 2 t), (1, vi a1), (2, vi s10.1), (3, vi s10.2)]) 50 (fun r13 => [(0, vr Z 2 t), (2, vi r13)]) (fun κ4 bk5 ex6 gr9 s10 J8 => ?_) (fun gr15 r13 J14 => ?_) gr _ rfl
      · unfold f_Row_makeRoom_w24
        refine wq_iload_n_a dX5_makeRoom_24 3 rfl rfl ?_
        refine wq_iconst_a dX5_makeRoom_25 ?_
        refine wq_icmp_ge_a 50 dX5_makeRoom_26 (by decide) rfl rfl (fun c12 => ?_) (fun c12 => ?_)
        · refine wq_iload_n_a dX5_makeRoom_29 2 rfl rfl ?_
          refine wq_iload_n_a dX5_makeRoom_30 1 rfl rfl ?_
          refine wq_icmp_ge_a 50 dX5_makeRoom_31 (by decide) rfl rfl (fun c11 => ?_) (fun c11 => ?_)
          · refine wq_iconst_a dX5_makeRoom_34 ?_
            refine wq_iload_n_a dX5_makeRoom_35 2 rfl rfl ?_
            refine wq_imul_a dX5_makeRoom_36 ?_
            refine wq_sipush_a dX5_makeRoom_37 (by decide) ?_
            refine wq_min_a (by decide) (Nat.le_of_ble_eq_true rfl) ln_RX5_37 mt_min_s mt_i mt_min_c dX5_makeRoom_40 ?_
            refine wq_istore_n_a (lv' := [(2, vi (imn (4 * s10.1) 400)), (0, vr Z 2 t), (1, vi a1), (3, vi s10.2)]) dX5_makeRoom_43 rfl (by decide) rfl ?_
            refine wq_iinc_a (lv' := [(3, vi (s10.2 + 1)), (2, vi (imn (4 * s10.1) 400)), (0, vr Z 2 t), (1, vi a1)]) dX5_makeRoom_44 3 rfl (by decide) rfl ?_
            refine wq_goto_a 24 dX5_makeRoom_47 (by decide) ?_
            exact WQ_a.loc [2, 3, 1, 0] rfl (bk5 _ _ _)
          · exact WQ_a.loc [0, 2] rfl (ex6 _ _ _)
        · exact WQ_a.loc [0, 2] rfl (ex6 _ _ _)
      · refine wq_iload_n_a dX5_makeRoom_50 1 rfl rfl ?_
        refine WQ_a.loc [0] (lv' := [(0, vr Z 2 t)]) rfl ?_
        refine wq_grd_a (fun g16 => ?_)
        refine wq_growR_a (lv' := [(0, vr Z 2 t)]) ht rfl (by decide) rfl rfl rfl rfl rfl g16 (fun gr18 J17 => ?_)
        refine wq_iconst_a dX5_makeRoom_73 ?_
        exact wq_zret_a rfl (by decide) rfl dX5_makeRoom_74
  · refine wq_iconst_a dX5_makeRoom_9 ?_
    exact wq_zret_a rfl (by decide) rfl dX5_makeRoom_10
set_option maxRecDepth 20000 in
theorem R_G_clear_a (Z : ZT) (t : Nat) (I : Mem) (r : Unit) (J : Mem) (hf : f_G_clear t I = some (r, J)) : Runs_a Z yX1_clear cX1_clear 2 (none) 2 [vr Z 1 t] I (none, J) := by
  refine Runs_a.of (rv := fun _ => none) (by decide +kernel) (Nat.le_of_ble_eq_true rfl) hf (fun gr => ?_)
  unfold f_G_clear
  refine WQ_a.loc [0] (lv' := [(0, vr Z 1 t)]) rfl ?_
  refine wq_grd_a (fun ht => ?_)
  refine wq_aload_n_a dX1_clear_0 0 rfl rfl ?_
  refine g_1_0_a ht ln_RX1_12 dX1_clear_1 ?_
  refine wq_cVv_a M_Row_clear (R_Row_clear_a Z (43 * t) _) (ob_2_a (by omega)) rfl rfl (by decide) (by decide) (Nat.le_of_ble_eq_true rfl) ln_RX1_42 dX1_clear_4 (fun gr1 _ J2 => ?_)
  refine wq_aload_n_a dX1_clear_7 0 rfl rfl ?_
  refine g_1_1_a ht ln_RX1_18 dX1_clear_8 ?_
  refine wq_cVv_a M_Row_clear (R_Row_clear_a Z (43 * t + 1) _) (ob_2_a (by omega)) rfl rfl (by decide) (by decide) (Nat.le_of_ble_eq_true rfl) ln_RX1_42 dX1_clear_11 (fun gr4 _ J5 => ?_)
  refine wq_iconst_a dX1_clear_14 ?_
  refine wq_istore_n_a (lv' := [(1, vi 0), (0, vr Z 1 t)]) dX1_clear_15 rfl (by decide) rfl ?_
  refine WQ_a.loc [1, 0] (lv' := [(0, vr Z 1 t), (1, vi 0)]) rfl ?_
  refine wq_loopS_a (fun s20 => [(0, vr Z 1 t), (1, vi s20)]) 44 (fun _ => [(0, vr Z 1 t)]) (fun κ14 bk15 ex16 gr19 s20 J18 => ?_) (fun gr30 r28 J29 => ?_) gr4 _ rfl
  · unfold f_G_clear_w16
    refine wq_iload_n_a dX1_clear_16 1 rfl rfl ?_
    refine wq_bipush_a dX1_clear_17 (by decide) ?_
    refine wq_icmp_ge_a 44 dX1_clear_19 (by decide) rfl rfl (fun c27 => ?_) (fun c27 => ?_)
    · refine wq_aload_n_a dX1_clear_22 0 rfl rfl ?_
      refine g_1_2_a ht ln_RX1_21 dX1_clear_23 ?_
      refine wq_iload_n_a dX1_clear_26 1 rfl rfl ?_
      refine wq_grd_a (fun g21 => ?_)
      refine wq_aald_a (k := 13) (i := t) (t0 := 4) rfl rfl ht rfl rfl (m := 40) g21 (Nat.le_refl _) dX1_clear_27 ?_
      have hb22 : (43 * t + 3 + (w32 s20).toNat) < 516 := by omega
      refine wq_cVv_a M_Row_clear (R_Row_clear_a Z (43 * t + 3 + (w32 s20).toNat) _) (ob_2_a hb22) rfl rfl (by decide) (by decide) (Nat.le_of_ble_eq_true rfl) ln_RX1_42 dX1_clear_28 (fun gr23 _ J24 => ?_)
      refine wq_aload_n_a dX1_clear_31 0 rfl rfl ?_
      refine g_1_4_a ht ln_RX1_28 dX1_clear_32 ?_
      refine wq_iload_n_a dX1_clear_35 1 rfl rfl ?_
      refine wq_iconst_a dX1_clear_36 ?_
      refine wq_iast_a (k := 14) (i := t) (fun _ _ => rfl) ht rfl rfl (m := 40) g21 (Nat.le_refl _) (by decide) (by decide) (by decide) dX1_clear_37 (fun J26 => ?_)
      refine wq_iinc_a (lv' := [(1, vi (s20 + 1)), (0, vr Z 1 t)]) dX1_clear_38 1 rfl (by decide) rfl ?_
      refine wq_goto_a 16 dX1_clear_41 (by decide) ?_
      exact WQ_a.loc [1, 0] rfl (bk15 _ _ _)
    · exact WQ_a.loc [0] rfl (ex16 _ _ _)
  · refine wq_iconst_a dX1_clear_44 ?_
    refine wq_istore_n_a (lv' := [(1, vi 0), (0, vr Z 1 t)]) dX1_clear_45 rfl (by decide) rfl ?_
    refine WQ_a.loc [1, 0] (lv' := [(0, vr Z 1 t), (1, vi 0)]) rfl ?_
    refine wq_loopS_a (fun s40 => [(0, vr Z 1 t), (1, vi s40)]) 65 (fun _ => [(0, vr Z 1 t)]) (fun κ34 bk35 ex36 gr39 s40 J38 => ?_) (fun gr46 r44 J45 => ?_) gr30 _ rfl
    · unfold f_G_clear_w46
      refine wq_iload_n_a dX1_clear_46 1 rfl rfl ?_
      refine wq_bipush_a dX1_clear_47 (by decide) ?_
      refine wq_icmp_ge_a 65 dX1_clear_49 (by decide) rfl rfl (fun c43 => ?_) (fun c43 => ?_)
      · refine wq_aload_n_a dX1_clear_52 0 rfl rfl ?_
        refine g_1_5_a ht ln_RX1_32 dX1_clear_53 ?_
        refine wq_iload_n_a dX1_clear_56 1 rfl rfl ?_
        refine wq_iconst_a dX1_clear_57 ?_
        refine wq_grd_a (fun g41 => ?_)
        refine wq_iast_a (k := 15) (i := t) (fun _ _ => rfl) ht rfl rfl (m := 9) g41 (Nat.le_refl _) (by decide) (by decide) (by decide) dX1_clear_58 (fun J42 => ?_)
        refine wq_iinc_a (lv' := [(1, vi (s40 + 1)), (0, vr Z 1 t)]) dX1_clear_59 1 rfl (by decide) rfl ?_
        refine wq_goto_a 46 dX1_clear_62 (by decide) ?_
        exact WQ_a.loc [1, 0] rfl (bk35 _ _ _)
      · exact WQ_a.loc [0] rfl (ex36 _ _ _)
    · refine wq_aload_n_a dX1_clear_65 0 rfl rfl ?_
      refine wq_iconst_a dX1_clear_66 ?_
      refine p_1_6_a ht ln_RX1_35 dX1_clear_67 (fun J47 => ?_)
      refine wq_aload_n_a dX1_clear_70 0 rfl rfl ?_
      refine wq_iconst_a dX1_clear_71 ?_
      refine p_1_7_a ht ln_RX1_45 dX1_clear_72 (fun J48 => ?_)
      refine wq_aload_n_a dX1_clear_75 0 rfl rfl ?_
      refine wq_iconst_a dX1_clear_76 ?_
      refine p_1_8_a ht ln_RX1_39 dX1_clear_77 (fun J49 => ?_)
      refine wq_aload_n_a dX1_clear_80 0 rfl rfl ?_
      refine wq_iconst_a dX1_clear_81 ?_
      refine p_1_9_a ht ln_RX1_48 dX1_clear_82 (fun J50 => ?_)
      exact wq_vret_a rfl rfl dX1_clear_85
set_option maxRecDepth 20000 in
theorem R_Row_put_a (Z : ZT) (t : Nat) (a1 : Int) (I : Mem) (r : Unit) (J : Mem) (hf : f_Row_put t a1 I = some (r, J)) : Runs_a Z yX5_put cX5_put 2 (none) 2 [vr Z 2 t, vi a1] I (none, J) := by
  refine Runs_a.of (rv := fun _ => none) (by decide +kernel) (Nat.le_of_ble_eq_true rfl) hf (fun gr => ?_)
  unfold f_Row_put
  refine WQ_a.loc [0, 1] (lv' := [(0, vr Z 2 t), (1, vi a1)]) rfl ?_
  refine wq_grd_a (fun ht => ?_)
  refine wq_aload_n_a dX5_put_0 0 rfl rfl ?_
  refine wq_aload_n_a dX5_put_1 0 rfl rfl ?_
  refine g_2_1_a ht ln_RX5_15 dX5_put_2 ?_
  refine wq_iconst_a dX5_put_5 ?_
  refine wq_iadd_a dX5_put_6 ?_
  refine wq_cVi_a M_Row_makeRoom (R_Row_makeRoom_a Z t ((I 2 t 1) + 1) _) (ob_2_a ht) rfl rfl (by decide) (by decide) (Nat.le_of_ble_eq_true rfl) ln_RX5_19 dX5_put_7 (fun gr1 x3 J2 => ?_)
  refine wq_if_eq_a 33 dX5_put_10 (by decide) rfl (fun c7 => ?_) (fun c7 => ?_)
  · exact wq_vret_a rfl rfl dX5_put_33
  · refine wq_aload_n_a dX5_put_13 0 rfl rfl ?_
    refine g_2_0_a ht ln_RX5_9 dX5_put_14 ?_
    refine wq_aload_n_a dX5_put_17 0 rfl rfl ?_
    refine g_2_1_a ht ln_RX5_15 dX5_put_18 ?_
    refine wq_iload_n_a dX5_put_21 1 rfl rfl ?_
    refine wq_grd_a (fun g4 => ?_)
    refine wq_iast_a (k := 12) (i := t) (fun K hK => by show arI _ (K 2 _ 2).toNat _ = _; rw [hK]) ht rfl rfl (m := (J2 2 t 2)) g4 (Nat.le_refl _) (by decide) (by decide) (by decide) dX5_put_22 (fun J5 => ?_)
    refine wq_aload_n_a dX5_put_23 0 rfl rfl ?_
    refine wq_dup_a dX5_put_24 rfl ?_
    refine g_2_1_a ht ln_RX5_15 dX5_put_25 ?_
    refine wq_iconst_a dX5_put_28 ?_
    refine wq_iadd_a dX5_put_29 ?_
    refine p_2_1_a ht ln_RX5_15 dX5_put_30 (fun J6 => ?_)
    exact wq_vret_a rfl rfl dX5_put_33
set_option maxRecDepth 20000 in
theorem R_G_becomeLetterA_a (Z : ZT) (t : Nat) (I : Mem) (r : Unit) (J : Mem) (hf : f_G_becomeLetterA t I = some (r, J)) : Runs_a Z yX1_becomeLetterA cX1_becomeLetterA 1 (none) 3 [vr Z 1 t] I (none, J) := by
  refine Runs_a.of (rv := fun _ => none) (by decide +kernel) (Nat.le_of_ble_eq_true rfl) hf (fun gr => ?_)
  unfold f_G_becomeLetterA
  refine WQ_a.loc [0] (lv' := [(0, vr Z 1 t)]) rfl ?_
  refine wq_grd_a (fun ht => ?_)
  refine wq_aload_n_a dX1_becomeLetterA_0 0 rfl rfl ?_
  refine wq_cVv_a M_G_clear (R_G_clear_a Z t _) (ob_1_a ht) rfl rfl (by decide) (by decide) (Nat.le_of_ble_eq_true rfl) ln_RX1_51 dX1_becomeLetterA_1 (fun gr1 _ J2 => ?_)
  refine wq_aload_n_a dX1_becomeLetterA_4 0 rfl rfl ?_
  refine g_1_0_a ht ln_RX1_12 dX1_becomeLetterA_5 ?_
  refine wq_iconst_a dX1_becomeLetterA_8 ?_
  refine wq_cVv_a M_Row_put (R_Row_put_a Z (43 * t) 0 _) (ob_2_a (by omega)) rfl rfl (by decide) (by decide) (Nat.le_of_ble_eq_true rfl) ln_RX1_52 dX1_becomeLetterA_9 (fun gr4 _ J5 => ?_)
  refine wq_aload_n_a dX1_becomeLetterA_12 0 rfl rfl ?_
  refine g_1_1_a ht ln_RX1_18 dX1_becomeLetterA_13 ?_
  refine wq_iconst_a dX1_becomeLetterA_16 ?_
  refine wq_cVv_a M_Row_put (R_Row_put_a Z (43 * t + 1) 0 _) (ob_2_a (by omega)) rfl rfl (by decide) (by decide) (Nat.le_of_ble_eq_true rfl) ln_RX1_52 dX1_becomeLetterA_17 (fun gr7 _ J8 => ?_)
  exact wq_vret_a rfl rfl dX1_becomeLetterA_20
end
section
/-! ===== by program out of 05 .. 2x: the same, while the array of the law is not yet there ===== -/
def ksz_b : Nat → Nat
  | 1 => 12 | 2 => 516 | 11 => 0 | 12 => 516 | 13 => 12 | 14 => 12 | 15 => 12 | 16 => 4 | 18 => 6 | 21 => 6 | 27 => 23 | k => if k < 29 then 1 else 0
def HHA_b (Z : ZT) (gr : Nat → Nat) (I : Mem) (H : Heap) : Prop :=
  ((zH Z).size = zB Z ∧ zB Z ≤ H.size ∧ ∀ q : Nat, q < zB Z → H[q]? = (zH Z)[q]?) ∧
  (∀ k i k' i' : Nat, i < ksz_b k → i' < ksz_b k' → adG Z gr k i = adG Z gr k' i' → k = k' ∧ i = i') ∧
  (∀ k i : Nat, i < ksz_b k → zB Z ≤ adG Z gr k i) ∧
  ∀ k i : Nat, i < ksz_b k → va_at (zD Z) cls (adG Z gr k i, ent Z gr I k i) H
def HH_b (Z : ZT) (I : Mem) (H : Heap) : Prop := ∃ gr : Nat → Nat, HHA_b Z gr I H
theorem HHA_b.upd {Z : ZT} {gr : Nat → Nat} {I I' : Mem} {H H1 : Heap} {k i : Nat} (h : HHA_b Z gr I H) (hi : i < ksz_b k) (hz : H1.size = H.size) (ho : ∀ q : Nat, q ≠ adG Z gr k i → H1[q]? = H[q]?)
    (he : va_at (zD Z) cls (adG Z gr k i, ent Z gr I' k i) H1) (hI : ∀ k' i' : Nat, i' < ksz_b k' → ¬ (k' = k ∧ i' = i) → ent Z gr I' k' i' = ent Z gr I k' i') : HHA_b Z gr I' H1 := by
  obtain ⟨⟨h1, h2, h3⟩, h4, h5, h6⟩ := h
  refine ⟨⟨h1, by rw [hz]; exact h2, fun q hq => ?_⟩, h4, h5, fun k' i' hi' => ?_⟩
  · rw [ho q (fun e => by have := h5 k i hi; omega)]; exact h3 q hq
  · by_cases hk : k' = k ∧ i' = i
    · obtain ⟨rfl, rfl⟩ := hk; exact he
    · rw [hI k' i' hi' hk]
      exact (h6 k' i' hi').kept (ho _ (fun e => hk (h4 k' i' k i hi' hi e)))
theorem HHA_b.at {Z : ZT} {gr : Nat → Nat} {I : Mem} {H : Heap} (h : HHA_b Z gr I H) {k i : Nat} (hi : i < ksz_b k) : va_at (zD Z) cls (adG Z gr k i, ent Z gr I k i) H := h.2.2.2 k i hi
def Pcz_b (Z : ZT) (av : List Value) (I : Mem) : Array Value → State → Prop := fun v U => v = av.toArray ∧ HH_b Z I U.heap ∧ KK Z U
def Qcz_b (Z : ZT) (o : OV) : Array Value → State → Outcome → State → Prop := fun _ _ oc t => oc = .returned o.1 ∧ HH_b Z o.2 t.heap
/-- method y, at height h, with these arguments over this memory, ends with this answer and memory -/
def Runs_b (Z : ZT) (y : MethodName) (cc : ByteArray) (maxL : Nat) (ret : Option FieldType) (h : Nat) (av : List Value) (I : Mem) (o : OV) : Prop :=
  cle I o.2 ∧ ∀ l : Launch, l.stackTraces = false → Met l y (wsAll y cc maxL ret) (rmH h (dC I o.2) (dS I o.2)) (Pcz_b Z av I) (Qcz_b Z o) (dC I o.2) (dS I o.2) (zN Z)
/-- what a method's body stands on -/
def Bd_b (Z : ZT) (X : XT) (Y : YT) : Prop :=
  X.1.tables.exec = Jvm.exec ∧ X.2.2.2.2.2.2.2.2.code = Y.2.1 ∧ X.2.2.2.2.2.2.2.2.maxLocals = Y.2.2.1 ∧ X.2.2.2.1.vm.findClass Y.1.cls = some X.2.2.2.2.1.cls ∧ (∀ w ∈ lw_good, w.before X.2.2.2.2.2.1 X.2.2.2.1 = true) ∧ KK Z X.2.2.2.1 ∧ X.2.2.2.2.2.2.2.1.sig.returnType = Y.2.2.2.1 ∧ X.2.2.2.2.2.2.2.1.locks = false ∧ X.2.1.stackTraces = false ∧ X.2.2.2.2.2.2.2.2.exceptionTable.toList = tableOf (xtb Y.1) ∧ ∃ I1 : Mem, HH_b Z I1 X.2.2.2.1.heap
/-- what holds at the end -/
def Qz_b (Z : ZT) (X : XT) (I0 : Mem) (o : OT) : State → Prop := match o.1 with
  | .inl v => MQ X.2.2.2.2.2.2.1 (Qcz_b Z (v, o.2)) X.2.2.2.2.2.1 X.2.2.2.1 (dC I0 o.2) (dS I0 o.2) (zN Z)
  | .inr E => vx_MQ X.2.2.2.2.2.2.1 (fun _ _ _ _ => False) (fun E' _ t => E' = E ∧ HH_b Z o.2 t.heap) X.2.2.2.2.2.1 X.2.2.2.1 (dC I0 o.2) (dS I0 o.2) (zN Z)
/-- W over the context -/
abbrev WX_b (Z : ZT) (X : XT) (Y : YT) (I0 : Mem) (o : OT) (H : Heap) (locs : List Loc) (cells slots : Nat) (g : JFrame) : Prop :=
  W X.1 X.2.1 X.2.2.1 (rmH Y.2.2.2.2 (dC I0 o.2) (dS I0 o.2)) X.2.2.2.1 X.2.2.2.2.1 X.2.2.2.2.2.1 X.2.2.2.2.2.2.1 X.2.2.2.2.2.2.2.1 X.2.2.2.2.2.2.2.2 H locs cells slots (Qz_b Z X I0 o) g
def WP_b (Z : ZT) (Y : YT) (I0 : Mem) (o : OT) (gr : Nat → Nat) (pc : Nat) (lv : List (Nat × Value)) (st : List Value) (I : Mem) : Prop :=
  cle I o.2 ∧ (∀ X : XT, Bd_b Z X Y → cle I0 I → ∀ (H : Heap) (locs : List Loc) (ls : Array Slot), HHA_b Z gr I H → (∀ q ∈ locs, zN Z q.base) → lv_has ls Y.2.2.1 lv → WX_b Z X Y I0 o H locs (dC I0 I) (dS I0 I) (F0 X.2.2.2.2.1 pc ls st))
def WQ_b (Z : ZT) (Y : YT) (I0 : Mem) (gr : Nat → Nat) {α : Type} (pc : Nat) (lv : List (Nat × Value)) (st : List Value) (I : Mem) (e : Option (α × Mem)) (κ : α → Mem → Option OT) : Prop :=
  ∀ o : OT, bnd e κ = some o → WP_b Z Y I0 o gr pc lv st I
section WPS
variable {Z : ZT} {Y : YT} {I0 : Mem} {o : OT} {gr : Nat → Nat} {pc : Nat} {lv : List (Nat × Value)} {st : List Value} {I : Mem}
/-- a step of the machine alone -/
theorem WP_b.go {pc' : Nat} {lv' : List (Nat × Value)} {st' : List Value} (k : WP_b Z Y I0 o gr pc' lv' st' I)
    (h : ∀ X : XT, Bd_b Z X Y → ∀ (H : Heap) (locs : List Loc) (ls : Array Slot) (cells slots : Nat), HHA_b Z gr I H → lv_has ls Y.2.2.1 lv → (∀ ls' : Array Slot, lv_has ls' Y.2.2.1 lv' → WX_b Z X Y I0 o H locs cells slots (F0 X.2.2.2.2.1 pc' ls' st')) → WX_b Z X Y I0 o H locs cells slots (F0 X.2.2.2.2.1 pc ls st)) : WP_b Z Y I0 o gr pc lv st I :=
  ⟨k.1, fun X B hc H locs ls hH hlo hl => h X B H locs ls _ _ hH hl fun ls' hl' => k.2 X B hc H locs ls' hH hlo hl'⟩
variable {α : Type} {e : Option (α × Mem)} {κ : α → Mem → Option OT}
theorem WQ_b.go {pc' : Nat} {lv' : List (Nat × Value)} {st' : List Value}
    (h : ∀ X : XT, Bd_b Z X Y → ∀ (o : OT) (H : Heap) (locs : List Loc) (ls : Array Slot) (cells slots : Nat), HHA_b Z gr I H → lv_has ls Y.2.2.1 lv → (∀ ls' : Array Slot, lv_has ls' Y.2.2.1 lv' → WX_b Z X Y I0 o H locs cells slots (F0 X.2.2.2.2.1 pc' ls' st')) → WX_b Z X Y I0 o H locs cells slots (F0 X.2.2.2.2.1 pc ls st))
    (k : WQ_b Z Y I0 gr pc' lv' st' I e κ) : WQ_b Z Y I0 gr pc lv st I e κ :=
  fun o ho => (k o ho).go fun X B => h X B o
/-- a branch -/
theorem WQ_b.br {pc1 pc2 : Nat} {st' : List Value} {c : Prop} [Decidable c] {e1 e2 : Option (α × Mem)}
    (h : ∀ X : XT, Bd_b Z X Y → ∀ (o : OT) (H : Heap) (locs : List Loc) (ls : Array Slot) (cells slots : Nat), HHA_b Z gr I H → lv_has ls Y.2.2.1 lv → (c → WX_b Z X Y I0 o H locs cells slots (F0 X.2.2.2.2.1 pc1 ls st')) → (¬ c → WX_b Z X Y I0 o H locs cells slots (F0 X.2.2.2.2.1 pc2 ls st')) → WX_b Z X Y I0 o H locs cells slots (F0 X.2.2.2.2.1 pc ls st))
    (k1 : c → WQ_b Z Y I0 gr pc1 lv st' I e1 κ) (k2 : ¬ c → WQ_b Z Y I0 gr pc2 lv st' I e2 κ) : WQ_b Z Y I0 gr pc lv st I (if c then e1 else e2) κ := by
  intro o ho
  by_cases hc : c
  · rw [if_pos hc] at ho
    have k := k1 hc o ho
    exact ⟨k.1, fun X B hcl H locs ls hH hlo hl => h X B o H locs ls _ _ hH hl (fun _ => k.2 X B hcl H locs ls hH hlo hl) (fun q => absurd hc q)⟩
  · rw [if_neg hc] at ho
    have k := k2 hc o ho
    exact ⟨k.1, fun X B hcl H locs ls hH hlo hl => h X B o H locs ls _ _ hH hl (fun q => absurd q hc) (fun _ => k.2 X B hcl H locs ls hH hlo hl)⟩
theorem wq_grd_b {c : Prop} [Decidable c] (k : c → WQ_b Z Y I0 gr pc lv st I e κ) : WQ_b Z Y I0 gr pc lv st I (if c then e else none) κ := by
  intro o ho
  by_cases hc : c
  · rw [if_pos hc] at ho; exact k hc o ho
  · rw [if_neg hc] at ho; cases ho
theorem WQ_b.assoc {β : Type} {e : Option (β × Mem)} {f : β → Mem → Option (α × Mem)} (k : WQ_b Z Y I0 gr pc lv st I e (fun b J => bnd (f b J) κ)) : WQ_b Z Y I0 gr pc lv st I (bnd e f) κ := by
  intro o ho
  refine k o ?_
  cases e with
  | none => cases ho
  | some q => exact ho
theorem WQ_b.loc {lv' : List (Nat × Value)} (ks : List Nat) (hl : lv_pick lv ks = lv') (k : WQ_b Z Y I0 gr pc lv' st I e κ) : WQ_b Z Y I0 gr pc lv st I e κ :=
  WQ_b.go (fun _ _ _ _ _ _ _ _ _ h kk => kk _ (lv_sub h ks hl)) k
end WPS
section ROWS
variable {Z : ZT} {Y : YT} {I0 : Mem} {gr : Nat → Nat} {pc : Nat} {lv : List (Nat × Value)} {st : List Value} {I : Mem} {α : Type} {e e1 e2 : Option (α × Mem)} {κ : α → Mem → Option OT}
theorem wq_iconst_b {n : Int} (d : decode Y.2.1 pc = .ok (.iconst n, 1)) (k : WQ_b Z Y I0 gr (pc + 1) lv (vi n :: st) I e κ) : WQ_b Z Y I0 gr pc lv st I e κ :=
  WQ_b.go (fun _ B _ _ _ ls _ _ _ hl kk => lv_iconst B.1 B.2.1 d rfl (kk ls hl)) k
theorem wq_bipush_b {n : Int} (d : decode Y.2.1 pc = .ok (.bipush n, 2)) (hv : (Int8.ofInt n).toInt32 = Int32.ofInt n) (k : WQ_b Z Y I0 gr (pc + 2) lv (vi n :: st) I e κ) : WQ_b Z Y I0 gr pc lv st I e κ :=
  WQ_b.go (fun _ B _ _ _ ls _ _ _ hl kk => lv_bipush B.1 B.2.1 d hv (kk ls hl)) k
theorem wq_sipush_b {n : Int} (d : decode Y.2.1 pc = .ok (.sipush n, 3)) (hv : (Int16.ofInt n).toInt32 = Int32.ofInt n) (k : WQ_b Z Y I0 gr (pc + 3) lv (vi n :: st) I e κ) : WQ_b Z Y I0 gr pc lv st I e κ :=
  WQ_b.go (fun _ B _ _ _ ls _ _ _ hl kk => lv_sipush B.1 B.2.1 d hv (kk ls hl)) k
theorem wq_iload_n_b {j : Nat} {x : Int} {c : Fin 4} (d : decode Y.2.1 pc = .ok (.iload_n c, 1)) (j' : Nat) (hj : (c : Nat) = j) (hl : lv[j']? = some (j, vi x)) (k : WQ_b Z Y I0 gr (pc + 1) lv (vi x :: st) I e κ) : WQ_b Z Y I0 gr pc lv st I e κ :=
  WQ_b.go (fun _ B _ _ _ ls _ _ _ h kk => lv_iload_n B.1 B.2.1 d hj (lv_at h j' hl) (kk ls h)) k
theorem wq_iload_b {j : Nat} {x : Int} (d : decode Y.2.1 pc = .ok (.iload j, 2)) (j' : Nat) (hl : lv[j']? = some (j, vi x)) (k : WQ_b Z Y I0 gr (pc + 2) lv (vi x :: st) I e κ) : WQ_b Z Y I0 gr pc lv st I e κ :=
  WQ_b.go (fun _ B _ _ _ ls _ _ _ h kk => lv_iload B.1 B.2.1 d (lv_at h j' hl) (kk ls h)) k
theorem wq_aload_n_b {j x : Nat} {c : Fin 4} (d : decode Y.2.1 pc = .ok (.aload_n c, 1)) (j' : Nat) (hj : (c : Nat) = j) (hl : lv[j']? = some (j, .ref x)) (k : WQ_b Z Y I0 gr (pc + 1) lv (.ref x :: st) I e κ) : WQ_b Z Y I0 gr pc lv st I e κ :=
  WQ_b.go (fun _ B _ _ _ ls _ _ _ h kk => lv_aload_n B.1 B.2.1 d hj (lv_at h j' hl) (kk ls h)) k
theorem wq_istore_n_b {j : Nat} {x : Int} {lv' : List (Nat × Value)} {c : Fin 4} (d : decode Y.2.1 pc = .ok (.istore_n c, 1)) (hj : (c : Nat) = j) (hn : j < Y.2.2.1) (hl : stl j (vi x) lv = lv') (k : WQ_b Z Y I0 gr (pc + 1) lv' st I e κ) : WQ_b Z Y I0 gr pc lv (vi x :: st) I e κ :=
  WQ_b.go (fun _ B _ _ _ ls _ _ _ h kk => lv_istore_n B.1 B.2.1 d hj h hn hl (fun ls' h' => kk ls' h')) k
theorem wq_istore_b {j : Nat} {x : Int} {lv' : List (Nat × Value)} (d : decode Y.2.1 pc = .ok (.istore j, 2)) (hn : j < Y.2.2.1) (hl : stl j (vi x) lv = lv') (k : WQ_b Z Y I0 gr (pc + 2) lv' st I e κ) : WQ_b Z Y I0 gr pc lv (vi x :: st) I e κ :=
  WQ_b.go (fun _ B _ _ _ ls _ _ _ h kk => lv_istore B.1 B.2.1 d h hn hl (fun ls' h' => kk ls' h')) k
theorem wq_iinc_b {j : Nat} {n x : Int} {lv' : List (Nat × Value)} (d : decode Y.2.1 pc = .ok (.iinc j n, 3)) (j' : Nat) (hk : lv[j']? = some (j, vi x)) (hn : j < Y.2.2.1) (hl : stl j (vi (x + n)) lv = lv') (k : WQ_b Z Y I0 gr (pc + 3) lv' st I e κ) : WQ_b Z Y I0 gr pc lv st I e κ :=
  WQ_b.go (fun _ B _ _ _ ls _ _ _ h kk => lv_iinc B.1 B.2.1 d h (k := j') hk (i_add x n) hn hl (fun ls' h' => kk ls' h')) k
theorem wq_iadd_b {x y : Int} (d : decode Y.2.1 pc = .ok (.iadd, 1)) (k : WQ_b Z Y I0 gr (pc + 1) lv (vi (x + y) :: st) I e κ) : WQ_b Z Y I0 gr pc lv (vi y :: vi x :: st) I e κ :=
  WQ_b.go (fun _ B _ _ _ ls _ _ _ hl kk => lv_iadd B.1 B.2.1 d (by rw [i_add]; exact kk ls hl)) k
theorem wq_isub_b {x y : Int} (d : decode Y.2.1 pc = .ok (.isub, 1)) (k : WQ_b Z Y I0 gr (pc + 1) lv (vi (x - y) :: st) I e κ) : WQ_b Z Y I0 gr pc lv (vi y :: vi x :: st) I e κ :=
  WQ_b.go (fun _ B _ _ _ ls _ _ _ hl kk => lv_isub B.1 B.2.1 d (by rw [i_sub]; exact kk ls hl)) k
theorem wq_imul_b {x y : Int} (d : decode Y.2.1 pc = .ok (.imul, 1)) (k : WQ_b Z Y I0 gr (pc + 1) lv (vi (x * y) :: st) I e κ) : WQ_b Z Y I0 gr pc lv (vi y :: vi x :: st) I e κ :=
  WQ_b.go (fun _ B _ _ _ ls _ _ _ hl kk => lv_imul B.1 B.2.1 d (by rw [i_mul]; exact kk ls hl)) k
theorem wq_dup2_b {u v : Value} (d : decode Y.2.1 pc = .ok (.dup2, 1)) (hu : u.category = 1) (hv : v.category = 1) (k : WQ_b Z Y I0 gr (pc + 1) lv (u :: v :: u :: v :: st) I e κ) : WQ_b Z Y I0 gr pc lv (u :: v :: st) I e κ :=
  WQ_b.go (fun _ B _ _ _ ls _ _ _ hl kk => lv_dup2_11 B.1 B.2.1 d hu hv (kk ls hl)) k
theorem wq_goto_b {off : Int} (tgt : Nat) (d : decode Y.2.1 pc = .ok (.goto off, 3)) (ht : (pc : Int) + off = (tgt : Int)) (k : WQ_b Z Y I0 gr tgt lv st I e κ) : WQ_b Z Y I0 gr pc lv st I e κ :=
  WQ_b.go (fun _ B _ _ _ ls _ _ _ hl kk => lv_goto B.1 B.2.1 d ht (kk ls hl)) k
theorem wq_if_eq_b {off x x' : Int} (tgt : Nat) (d : decode Y.2.1 pc = .ok (.ifCond .eq off, 3)) (ht : (pc : Int) + off = (tgt : Int)) (hx : w32 x = x') (k1 : x' = 0 → WQ_b Z Y I0 gr tgt lv st I e1 κ) (k2 : ¬ x' = 0 → WQ_b Z Y I0 gr (pc + 3) lv st I e2 κ) : WQ_b Z Y I0 gr pc lv (vi x :: st) I (if x' = 0 then e1 else e2) κ :=
  WQ_b.br (fun _ B _ _ _ ls _ _ _ _ h1 h2 => lv_if_eq B.1 B.2.1 d ht (fun q => h1 (by rw [← hx, ← w_0]; exact (w_eq x 0).mp q)) (fun q => h2 (fun r => q ((w_eq x 0).mpr (by rw [hx, r, w_0]))))) k1 k2
theorem wq_if_lt_b {off x x' : Int} (tgt : Nat) (d : decode Y.2.1 pc = .ok (.ifCond .lt off, 3)) (ht : (pc : Int) + off = (tgt : Int)) (hx : w32 x = x') (k1 : x' < 0 → WQ_b Z Y I0 gr tgt lv st I e1 κ) (k2 : ¬ x' < 0 → WQ_b Z Y I0 gr (pc + 3) lv st I e2 κ) : WQ_b Z Y I0 gr pc lv (vi x :: st) I (if x' < 0 then e1 else e2) κ :=
  WQ_b.br (fun _ B _ _ _ ls _ _ _ _ h1 h2 => lv_if_lt B.1 B.2.1 d ht (fun q => h1 (by have := (w_lt x 0).mp q; rw [hx, w_0] at this; exact this)) (fun q => h2 (fun r => q ((w_lt x 0).mpr (by rw [hx, w_0]; exact r))))) k1 k2
theorem wq_if_le_b {off x x' : Int} (tgt : Nat) (d : decode Y.2.1 pc = .ok (.ifCond .le off, 3)) (ht : (pc : Int) + off = (tgt : Int)) (hx : w32 x = x') (k1 : 0 < x' → WQ_b Z Y I0 gr (pc + 3) lv st I e1 κ) (k2 : ¬ 0 < x' → WQ_b Z Y I0 gr tgt lv st I e2 κ) : WQ_b Z Y I0 gr pc lv (vi x :: st) I (if 0 < x' then e1 else e2) κ :=
  WQ_b.br (fun _ B _ _ _ ls _ _ _ _ h1 h2 => lv_if_le B.1 B.2.1 d ht (fun q => h2 (by have := (w_le x 0).mp q; rw [hx, w_0] at this; exact this)) (fun q => h1 (by have := mt (w_le x 0).mpr q; rw [hx, w_0] at this; omega))) k1 k2
theorem wq_icmp_ne_b {off x y x' y' : Int} (tgt : Nat) (d : decode Y.2.1 pc = .ok (.if_icmp .ne off, 3)) (ht : (pc : Int) + off = (tgt : Int)) (hx : w32 x = x') (hy : w32 y = y') (k1 : x' = y' → WQ_b Z Y I0 gr (pc + 3) lv st I e1 κ) (k2 : ¬ x' = y' → WQ_b Z Y I0 gr tgt lv st I e2 κ) : WQ_b Z Y I0 gr pc lv (vi y :: vi x :: st) I (if x' = y' then e1 else e2) κ :=
  WQ_b.br (fun _ B _ _ _ ls _ _ _ _ h1 h2 => lv_icmp_ne B.1 B.2.1 d ht (fun q => h2 (fun r => q ((w_eq x y).mpr (by rw [hx, r, hy])))) (fun q => h1 (by rw [← hx, ← hy]; exact (w_eq x y).mp q))) k1 k2
theorem wq_icmp_ge_b {off x y x' y' : Int} (tgt : Nat) (d : decode Y.2.1 pc = .ok (.if_icmp .ge off, 3)) (ht : (pc : Int) + off = (tgt : Int)) (hx : w32 x = x') (hy : w32 y = y') (k1 : x' < y' → WQ_b Z Y I0 gr (pc + 3) lv st I e1 κ) (k2 : ¬ x' < y' → WQ_b Z Y I0 gr tgt lv st I e2 κ) : WQ_b Z Y I0 gr pc lv (vi y :: vi x :: st) I (if x' < y' then e1 else e2) κ :=
  WQ_b.br (fun _ B _ _ _ ls _ _ _ _ h1 h2 => lv_icmp_ge B.1 B.2.1 d ht (fun q => h2 (by have := (w_le y x).mp q; rw [hx, hy] at this; exact this)) (fun q => h1 (by have := mt (w_le y x).mpr q; rw [hx, hy] at this; omega))) k1 k2
end ROWS
section MEMS
variable {Z : ZT} {Y : YT} {I0 : Mem} {gr : Nat → Nat} {pc : Nat} {lv : List (Nat × Value)} {st : List Value} {I : Mem} {α : Type} {e e1 e2 : Option (α × Mem)} {κ : α → Mem → Option OT}
theorem WQ_b.mem {J : Mem} {pc' : Nat} {lv' : List (Nat × Value)} {st' : List Value} (hc : ∀ s : Nat, J 30 0 s = I 30 0 s)
    (h : ∀ X : XT, Bd_b Z X Y → ∀ (o : OT) (H : Heap) (locs : List Loc) (ls : Array Slot) (cells slots : Nat), HHA_b Z gr I H → (∀ q ∈ locs, zN Z q.base) → lv_has ls Y.2.2.1 lv → (∀ (H1 : Heap) (locs1 : List Loc) (ls' : Array Slot), HHA_b Z gr J H1 → (∀ q ∈ locs1, zN Z q.base) → lv_has ls' Y.2.2.1 lv' → WX_b Z X Y I0 o H1 locs1 cells slots (F0 X.2.2.2.2.1 pc' ls' st')) → WX_b Z X Y I0 o H locs cells slots (F0 X.2.2.2.2.1 pc ls st))
    (k : WQ_b Z Y I0 gr pc' lv' st' J e κ) : WQ_b Z Y I0 gr pc lv st I e κ := by
  intro o ho
  have kk := k o ho
  refine ⟨⟨by rw [← hc]; exact kk.1.1, by rw [← hc]; exact kk.1.2⟩, fun X B hcl H locs ls hH hlo hl => ?_⟩
  have h1 := fun H1 locs1 ls' hH1 hlo1 hl' => kk.2 X B ⟨by rw [hc]; exact hcl.1, by rw [hc]; exact hcl.2⟩ H1 locs1 ls' hH1 hlo1 hl'
  rw [dC_eq hc, dS_eq hc] at h1
  exact h X B o H locs ls _ _ hH hlo hl h1
/-- a field is read -/
theorem wq_get_b {k i fk ci N index a : Nat} {C fn fd : String} {T : u_T} {fs : List Value} {v : Value} (he : ent Z gr I k i = .inr (ci, fs)) (hi : i < ksz_b k) (ha : adG Z gr k i = a) (hc : cls[ci]? = some (C, T, N)) (hin : ∀ w ∈ u_ws C T N, w ∈ lw_good) (hk : fk < N) (hT : T fk = (C, fn, fd, (T fk).2.2.2)) (hv : fs[fk]? = some v)
    (hln : Cond.fieldLink Y.1.cls index C fn fd ∈ lw_good) (d : decode Y.2.1 pc = .ok (.getfield index, 3)) (kk : WQ_b Z Y I0 gr (pc + 3) lv (v :: st) I e κ) : WQ_b Z Y I0 gr pc lv (.ref a :: st) I e κ := by
  refine WQ_b.go (fun X B o H locs ls cells slots hH hl k1 => ?_) kk
  have hat := hH.at hi
  rw [he, ha] at hat
  have h1 : (T fk).1 = C := by rw [hT]
  have h2 : (T fk).2.1 = fn := by rw [hT]
  have h3 : (T fk).2.2.1 = fd := by rw [hT]
  exact va_get (C := C) (T := T) (N := N) (ci := ci) (Ts := lw_good) B.1 B.2.1 (fun w hw => B.2.2.2.2.1 w hw) hin B.2.2.2.1 B.2.2.2.2.2.1.1 (va_P1 hat) 0 rfl hc fk hk (ref := C) (by rw [h2, h3]; exact B.2.2.2.2.1 _ hln) (fun x hx => by rw [h1] at hx; exact hx) hv d (k1 ls hl)
/-- an int array's element is read -/
theorem wq_iald_b {k i a n : Nat} {f : Nat → Int} {j j' m : Int} (he : ent Z gr I k i = arI (zC Z 0) n f) (hi : i < ksz_b k) (ha : adG Z gr k i = a) (hj : w32 j = j') (hin : 0 ≤ j' ∧ j' < m) (hm : m.toNat ≤ n) (d : decode Y.2.1 pc = .ok (.iaload, 1)) (kk : WQ_b Z Y I0 gr (pc + 1) lv (vi (f j'.toNat) :: st) I e κ) : WQ_b Z Y I0 gr pc lv (vi j :: .ref a :: st) I e κ := by
  refine WQ_b.go (fun X B o H locs ls cells slots hH hl k1 => ?_) kk
  have hat := hH.at hi
  rw [he, ha] at hat
  refine va_iald (cA := zC Z 0) (n := n) (f := fun j => Int32.ofInt (f j)) B.1 B.2.1 B.2.2.2.2.2.1.1 (va_P1 hat) 0 0 rfl rfl (w_in hj hin hm) d ?_
  rw [w_nat hj]
  exact k1 ls hl
/-- an int array's element is written -/
theorem wq_iast_b {k i a n : Nat} {j j' m x : Int} {f : Mem → Option (α × Mem)} (he : ∀ J : Mem, (∀ i', J 2 i' 2 = I 2 i' 2) → ent Z gr J k i = arI (zC Z 0) n (J k i)) (hi : i < ksz_b k) (ha : adG Z gr k i = a) (hj : w32 j = j') (hin : 0 ≤ j' ∧ j' < m) (hm : m.toNat ≤ n) (h2 : k ≠ 2) (h10 : k ≠ 10) (h30 : k ≠ 30) (d : decode Y.2.1 pc = .ok (.iastore, 1)) (kk : ∀ J : Mem, WQ_b Z Y I0 gr (pc + 1) lv st J (f J) κ) : WQ_b Z Y I0 gr pc lv (vi x :: vi j :: .ref a :: st) I (ltI (sI I k i j'.toNat x) f) κ := by
  refine WQ_b.mem (sI_30 h30) (fun X B o H locs ls cells slots hH hlo hl k1 => ?_) (kk _)
  have hat := hH.at hi
  rw [he I (fun _ => rfl), ha] at hat
  have hat : H[a]? = some (vp_cell (zC Z 0) (n, .inl fun j => Int32.ofInt (I k i j))) := hat
  refine W.iast B.1 B.2.1 hat ((B.2.2.2.2.2.1.1.2 0 _ rfl).1 n (fun j => .int (Int32.ofInt (I k i j)))) (fun q => by cases q) (by show ¬ (_ < 0 ∨ (arrV _ _ _).slots.size ≤ _); rw [arrV_size]; exact w_in hj hin hm) rfl rfl d fun H1 e1 z oq => ?_
  have hHn : HHA_b Z gr (sI I k i j'.toNat x) H1 := by
    refine hH.upd hi z (by rw [ha]; exact oq) ?_ (fun k' i' hi' hne => sI_ent (fun q => h2 q.1) (fun q => h10 q.1) hne)
    rw [he _ (fun i' => sI_ne (fun q => h2 q.1.symm)), ha]
    show H1[a]? = some (vp_cell _ _)
    rw [e1, vp_cell_i, vp_cell_i, arrV_store, w_nat hj]
    congr 2
    funext q
    by_cases hq : q = j'.toNat
    · subst hq; simp [updV, sI]
    · simp [updV, hq, sI]
  exact k1 H1 _ ls hHn (locs_put hlo (by rw [← ha]; exact hH.2.2.1 k i hi)) hl
end MEMS
section CALLS
variable {Z : ZT} {Y : YT} {I0 : Mem} {gr : Nat → Nat} {pc : Nat} {lv : List (Nat × Value)} {st : List Value} {I : Mem} {α : Type} {e : Option (α × Mem)} {κ : α → Mem → Option OT}
theorem fb_Pcz_b {Z : ZT} {av : List Value} {I : Mem} : FrameBlind (Pcz_b Z av I) := fun a U g mk h => ⟨h.1, h.2.1, KK.same (s := U) (U := U.calling g mk a) rfl h.2.2⟩
theorem pc_at_b {Z : ZT} {X : XT} {Y : YT} (B : Bd_b Z X Y) {gr : Nat → Nat} {I : Mem} {H : Heap} {av : List Value} (hH : HHA_b Z gr I H) : ∀ U : State, U.heap = H → X.2.2.2.1.WarmedH U.vm → Pcz_b Z av I av.toArray U :=
  fun U hU hW => ⟨rfl, ⟨gr, by rw [hU]; exact hH⟩, B.2.2.2.2.2.1.warm hW⟩
/-- behind a call -/
theorem call_go_b {p : Program} {l : Launch} {e : Env} {R : Room} {s : State} {m : MethodId} {args : Array Value} {below : List Frame} {meth : Method} {c : Code} {H : Heap} {locs : List Loc} {cells slots mc ms : Nat} {Q : State → Prop} {pc : Nat} {ls : Array Slot} {rest st0 : List Value} {a : Array Value} {Z : ZT} {o1 : OV}
    (hr : va_Run p l e R s m args below meth c H locs cells slots mc ms (F0 m pc ls st0) rest (Qcz_b Z o1 a) (zN Z)) (hlo : ∀ q ∈ locs, zN Z q.base)
    (kk : ∀ (H1 : Heap) (locs1 : List Loc), HH_b Z o1.2 H1 → (∀ q ∈ locs1, zN Z q.base) → W p l e R s m args below meth c H1 locs1 (cells + mc) (slots + ms) Q (F0 m (pc + 3) ls (o1.1.toList ++ rest))) : W p l e R s m args below meth c H locs cells slots Q (F0 m pc ls st0) := by
  intro T hT X
  obtain ⟨v, st₀, t, T', L, h0, X', hL, e1, e2, ⟨hv, hh⟩, st⟩ := hr T hT X
  cases hv
  obtain ⟨t2, a1, b1⟩ := kk T'.heap (locs ++ L) (by rw [e1]; exact hh) (fun q hq => by
    rcases List.mem_append.mp hq with h | h
    · exact hlo q h
    · exact hL q h) T' rfl X'
  exact ⟨t2, st t2 a1, b1⟩
/-- a call's step, of any kind: from the road of the call itself -/
theorem WP_b.call {o : OT} {o1 : OV} {y' : MethodName} {cc' : ByteArray} {maxL' h' : Nat} {ret' : Option FieldType} {av rest : List Value} (hr : Runs_b Z y' cc' maxL' ret' h' av I o1)
    (h : ∀ X : XT, Bd_b Z X Y → ∀ (H : Heap) (locs : List Loc) (ls : Array Slot), HHA_b Z gr I H → ls.size = Y.2.2.1 → dC I0 I + dC I o1.2 ≤ dC I0 o.2 ∧ dS I0 I + dS I o1.2 ≤ dS I0 o.2 → va_Run X.1 X.2.1 X.2.2.1 (rmH Y.2.2.2.2 (dC I0 o.2) (dS I0 o.2)) X.2.2.2.1 X.2.2.2.2.1 X.2.2.2.2.2.1 X.2.2.2.2.2.2.1 X.2.2.2.2.2.2.2.1 X.2.2.2.2.2.2.2.2 H locs (dC I0 I) (dS I0 I) (dC I o1.2) (dS I o1.2) (F0 X.2.2.2.2.1 pc ls st) rest (Qcz_b Z o1 av.toArray) (zN Z))
    (k : ∀ gr' : Nat → Nat, WP_b Z Y I0 o gr' (pc + 3) lv (o1.1.toList ++ rest) o1.2) : WP_b Z Y I0 o gr pc lv st I := by
  have hc1 := hr.1
  have hc2 := (k gr).1
  refine ⟨hc1.trans hc2, fun X B hcl H locs ls hH hlo hl => ?_⟩
  have hle : dC I0 I + dC I o1.2 = dC I0 o1.2 ∧ dS I0 I + dS I o1.2 = dS I0 o1.2 := by
    unfold dC dS
    obtain ⟨q1, q2⟩ := hc1
    obtain ⟨q5, q6⟩ := hcl
    constructor <;> omega
  have hle2 : dC I0 o1.2 ≤ dC I0 o.2 ∧ dS I0 o1.2 ≤ dS I0 o.2 := by
    unfold dC dS
    obtain ⟨q1, q2⟩ := hc2
    constructor <;> omega
  refine call_go_b (h X B H locs ls hH hl.1 ⟨by rw [hle.1]; exact hle2.1, by rw [hle.2]; exact hle2.2⟩) hlo (fun H1 locs1 hH1 hlo1 => ?_)
  obtain ⟨gr', hH1⟩ := hH1
  have := (k gr').2 X B (hcl.trans hc1) H1 locs1 ls hH1 hlo1 hl
  rw [hle.1, hle.2]
  exact this
/-- invokevirtual of a method of its own class -/
theorem WP_b.callV {o : OT} {o1 : OV} {y' : MethodName} {cc' : ByteArray} {maxL' h' k i ci N index n a : Nat} {T : u_T} {ret' : Option FieldType} {fs As rest : List Value} (hr : Runs_b Z y' cc' maxL' ret' h' (.ref a :: As) I o1)
    (he : ent Z gr I k i = .inr (ci, fs)) (hi : i < ksz_b k) (ha : adG Z gr k i = a) (hc : cls[ci]? = some (y'.cls, T, N)) (hn : As.length = n) (hst : st = As.reverse ++ .ref a :: rest) (hh : h' < Y.2.2.2.2) (hm : maxL' ≤ 16) (hw : (rest.map fun v => v.category).sum ≤ 8)
    (hcode : Cond.code y' cc' maxL' ret' ∈ lw_good) (hlink : Cond.methodLink Y.1.cls index y' ∈ lw_good) (hinst : Cond.instanceMethod y' ∈ lw_good) (hsel : Cond.selects y'.cls y' y' ∈ lw_good) (hini : Cond.initialized y'.cls ∈ lw_good)
    (hd : y'.cls ≠ "java/lang/invoke/MethodHandle" ∧ y'.cls ≠ "java/lang/invoke/VarHandle" ∧ (parseMethodDescriptor y'.desc).map (fun d => d.parameters.length) = some n) (d : decode Y.2.1 pc = .ok (.invokevirtual index, 3))
    (k : ∀ gr' : Nat → Nat, WP_b Z Y I0 o gr' (pc + 3) lv (o1.1.toList ++ rest) o1.2) : WP_b Z Y I0 o gr pc lv st I := by
  refine WP_b.call hr (fun X B H locs ls hH hls hroom => ?_) k
  have hat := hH.at hi
  rw [he, ha] at hat
  have hrecv := va_recv (q0 := 0) B.2.2.2.2.2.1.1 (va_P1 hat) hc rfl
  have hG : GoodIn lw_good (wsV Y.1.cls index y'.cls y' (wsAll y' cc' maxL' ret')) := by
    intro w hw
    rcases List.mem_append.mp hw with hw | hw
    · have hm : w ∈ lw_good := by
        simp only [List.mem_cons, List.mem_nil_iff, or_false] at hw
        rcases hw with rfl | rfl | rfl | rfl <;> assumption
      exact ⟨hm, good_of_word (List.mem_filter.mp hm).2⟩
    · exact goodAll hcode w hw
  exact va_runV (cc := Y.2.1) (nL := Y.2.2.1) (Ts := lw_good) (own := Y.1.cls) (As := As) (n := n) ⟨B.1, B.2.1, B.2.2.1, B.2.2.2.1, B.2.2.2.2.1⟩ (hr.2 X.2.1 B.2.2.2.2.2.2.2.2.1) (cwV n B.2.2.2.2.1 hG rfl rfl rfl ⟨rfl, hd⟩ (room_ok hh hm)) ⟨fb_Pcz_b, hrecv, pc_at_b B hH⟩ rfl hn hls hst (lv_room hw) d hroom
/-- invokestatic, in the same class -/
theorem WP_b.callS {o : OT} {o1 : OV} {y' : MethodName} {cc' : ByteArray} {maxL' h' index n : Nat} {ret' : Option FieldType} {As rest : List Value} (hr : Runs_b Z y' cc' maxL' ret' h' As I o1)
    (hn : As.length = n) (hst : st = As.reverse ++ rest) (hh : h' < Y.2.2.2.2) (hm : maxL' ≤ 16) (hw : (rest.map fun v => v.category).sum ≤ 8)
    (hcode : Cond.code y' cc' maxL' ret' ∈ lw_good) (hlink : Cond.methodLink Y.1.cls index y' ∈ lw_good) (hstat : Cond.static y' ∈ lw_good) (hini : Cond.initialized Y.1.cls ∈ lw_good)
    (hd : y'.cls = Y.1.cls ∧ y'.cls ≠ "java/lang/invoke/MethodHandle" ∧ y'.cls ≠ "java/lang/invoke/VarHandle" ∧ (parseMethodDescriptor y'.desc).map (fun d => d.parameters.length) = some n) (d : decode Y.2.1 pc = .ok (.invokestatic index, 3))
    (k : ∀ gr' : Nat → Nat, WP_b Z Y I0 o gr' (pc + 3) lv (o1.1.toList ++ rest) o1.2) : WP_b Z Y I0 o gr pc lv st I := by
  refine WP_b.call hr (fun X B H locs ls hH hls hroom => ?_) k
  have hG : GoodIn lw_good (wsS Y.1.cls index y' (wsAll y' cc' maxL' ret')) := by
    intro w hw
    rcases List.mem_append.mp hw with hw | hw
    · have hm : w ∈ lw_good := by
        simp only [List.mem_cons, List.mem_nil_iff, or_false] at hw
        rcases hw with rfl | rfl | rfl <;> assumption
      exact ⟨hm, good_of_word (List.mem_filter.mp hm).2⟩
    · exact goodAll hcode w hw
  exact va_runS (cc := Y.2.1) (nL := Y.2.2.1) (Ts := lw_good) (own := Y.1.cls) (As := As) (n := n) ⟨B.1, B.2.1, B.2.2.1, B.2.2.2.1, B.2.2.2.2.1⟩ (hr.2 X.2.1 B.2.2.2.2.2.2.2.2.1) (cwS n B.2.2.2.2.1 hG rfl rfl rfl hd (room_ok hh hm)) ⟨fb_Pcz_b, pc_at_b B hH⟩ rfl hn hls hst (lv_room hw) d hroom
theorem wq_callV_b {β : Type} {rv : β → Option Value} {f : Option (β × Mem)} {K : β → Mem → Option (α × Mem)} {y' : MethodName} {cc' : ByteArray} {maxL' h' k i ci N index n a : Nat} {T : u_T} {ret' : Option FieldType} {fs As rest : List Value} (hM : MwV y' cc' maxL' ret' n) (hr : ∀ (r : β) (J : Mem), f = some (r, J) → Runs_b Z y' cc' maxL' ret' h' (.ref a :: As) I (rv r, J))
    (he : ent Z gr I k i = .inr (ci, fs)) (hi : i < ksz_b k) (ha : adG Z gr k i = a) (hc : cls[ci]? = some (y'.cls, T, N)) (hn : As.length = n) (hst : st = As.reverse ++ .ref a :: rest) (hh : h' < Y.2.2.2.2) (hm : maxL' ≤ 16) (hw : (rest.map fun v => v.category).sum ≤ 8)
    (hlink : Cond.methodLink Y.1.cls index y' ∈ lw_good) (d : decode Y.2.1 pc = .ok (.invokevirtual index, 3))
    (kk : ∀ (gr' : Nat → Nat) (r : β) (J : Mem), WQ_b Z Y I0 gr' (pc + 3) lv ((rv r).toList ++ rest) J (K r J) κ) : WQ_b Z Y I0 gr pc lv st I (bnd f K) κ := by
  intro o ho
  cases hf : f with
  | none => rw [hf] at ho; cases ho
  | some q =>
    obtain ⟨r, J⟩ := q
    rw [hf] at ho
    exact WP_b.callV (hr r J hf) he hi ha hc hn hst hh hm hw hM.1 hlink hM.2.1 hM.2.2.1 hM.2.2.2.1 hM.2.2.2.2 d (fun gr' => kk gr' r J o ho)
theorem wq_callS_b {β : Type} {rv : β → Option Value} {f : Option (β × Mem)} {K : β → Mem → Option (α × Mem)} {y' : MethodName} {cc' : ByteArray} {maxL' h' index n : Nat} {ret' : Option FieldType} {As rest : List Value} (hM : MwS y' cc' maxL' ret' n) (hr : ∀ (r : β) (J : Mem), f = some (r, J) → Runs_b Z y' cc' maxL' ret' h' As I (rv r, J))
    (hcl : y'.cls = Y.1.cls) (hn : As.length = n) (hst : st = As.reverse ++ rest) (hh : h' < Y.2.2.2.2) (hm : maxL' ≤ 16) (hw : (rest.map fun v => v.category).sum ≤ 8)
    (hlink : Cond.methodLink Y.1.cls index y' ∈ lw_good) (d : decode Y.2.1 pc = .ok (.invokestatic index, 3))
    (kk : ∀ (gr' : Nat → Nat) (r : β) (J : Mem), WQ_b Z Y I0 gr' (pc + 3) lv ((rv r).toList ++ rest) J (K r J) κ) : WQ_b Z Y I0 gr pc lv st I (bnd f K) κ := by
  intro o ho
  cases hf : f with
  | none => rw [hf] at ho; cases ho
  | some q =>
    obtain ⟨r, J⟩ := q
    rw [hf] at ho
    exact WP_b.callS (hr r J hf) hn hst hh hm hw hM.1 hlink hM.2.1 (by rw [← hcl]; exact hM.2.2.1) ⟨hcl, hM.2.2.2⟩ d (fun gr' => kk gr' r J o ho)
theorem wq_iret_b {x : Int} {b : α} (hr : Y.2.2.2.1 = some .int) (h : κ b I = some (.inl (some (vi x)), I)) (d : decode Y.2.1 pc = .ok (.ireturn, 1)) : WQ_b Z Y I0 gr pc lv [vi x] I (some (b, I)) κ := by
  intro o ho
  have ho : some o = some (.inl (some (vi x)), I) := ho.symm.trans h
  cases ho
  refine ⟨cle.refl I, fun X B hcl H locs ls hH hlo hl => ?_⟩
  exact W.iret (hlocks := B.2.2.2.2.2.2.2.1) B.1 B.2.1 (B.2.2.2.2.2.2.1.trans hr) (fun t ht _ => ⟨rfl, gr, by rw [ht]; exact hH⟩) hlo d
theorem wq_zret_b {x : Int} {b : α} (hr : Y.2.2.2.1 = some .boolean) (hx : x = 0 ∨ x = 1) (h : κ b I = some (.inl (some (vi x)), I)) (d : decode Y.2.1 pc = .ok (.ireturn, 1)) : WQ_b Z Y I0 gr pc lv [vi x] I (some (b, I)) κ := by
  intro o ho
  have ho : some o = some (.inl (some (vi x)), I) := ho.symm.trans h
  cases ho
  refine ⟨cle.refl I, fun X B hcl H locs ls hH hlo hl => ?_⟩
  exact W.zret (hlocks := B.2.2.2.2.2.2.2.1) B.1 B.2.1 (B.2.2.2.2.2.2.1.trans hr) (by rcases hx with rfl | rfl <;> rfl) (fun t ht _ => ⟨rfl, gr, by rw [ht]; exact hH⟩) hlo d
theorem wq_vret_b {b : α} (hr : Y.2.2.2.1 = none) (h : κ b I = some (.inl none, I)) (d : decode Y.2.1 pc = .ok (.return_, 1)) : WQ_b Z Y I0 gr pc lv [] I (some (b, I)) κ := by
  intro o ho
  have ho : some o = some (.inl none, I) := ho.symm.trans h
  cases ho
  refine ⟨cle.refl I, fun X B hcl H locs ls hH hlo hl => ?_⟩
  exact W.vret (hlocks := B.2.2.2.2.2.2.2.1) B.1 B.2.1 (B.2.2.2.2.2.2.1.trans hr) (fun t ht _ => ⟨rfl, gr, by rw [ht]; exact hH⟩) hlo d
/-- a method's entry -/
theorem Runs_b.of {β : Type} {rv : β → Option Value} {r : β} {J : Mem} {f : Option (β × Mem)} {y : MethodName} {cc : ByteArray} {maxL h : Nat} {ret : Option FieldType} {av : List Value} (hy : (plainName y.cls && (xtb y).isEmpty) = true) (hlen : (lg_sl av).length ≤ maxL) (hf : f = some (r, J))
    (k : ∀ gr : Nat → Nat, WQ_b Z (y, cc, maxL, ret, h) I gr 0 (lv_args 0 av) [] I f (fun b K => some (.inl (rv b), K))) : Runs_b Z y cc maxL ret h av I (rv r, J) := by
  have k := fun gr => k gr (.inl (rv r), J) (by rw [hf]; rfl)
  refine ⟨(k (fun _ => 0)).1, fun l hfl => ?_⟩
  rw [Bool.and_eq_true] at hy
  refine Met.ofW (cc := cc) (maxL := maxL) (ret := ret) hy.1 rfl ?_
  intro p e s m args below meth c s₁ B hml hv
  have htb := tab_nil (ws := wsAll y cc maxL ret) B List.mem_cons_self hy.2
  obtain ⟨rfl, ⟨gr, hH⟩, hKK⟩ := hv
  have hts : ∀ w ∈ lw_good, w.before av.toArray s = true := fun w hw => atoms_spec (ws := wsAll y cc maxL ret) B.pre w (List.mem_cons_of_mem _ hw)
  have hown := findClass_of_methodNamed B.named
  have hl := lv_entry av (n := maxL) hlen
  rw [lg_entry_eq]
  have hk := (k gr).2 (p, l, e, s, m, av.toArray, below, meth, c) ⟨B.exec, B.bytes, hml, hown, hts, hKK, B.returns, B.notSynchronized, hfl, htb, I, gr, hH⟩ (cle.refl I) s.heap [] _ hH (fun q hq => by cases hq) hl
  have e1 : dC I I = 0 := by unfold dC; omega
  have e2 : dS I I = 0 := by unfold dS; omega
  rw [e1, e2] at hk
  exact hk
end CALLS
section LOOPS
variable {Z : ZT} {Y : YT} {I0 : Mem} {pc : Nat} {lv : List (Nat × Value)} {I : Mem}
/-- a loop, at its head: the locals are a picture of what it carries -/
theorem wq_loop_b {σ ρ : Type} {step : σ → Mem → Option ((σ ⊕ ρ) × Mem)} {κ : ρ → Mem → Option OT} (lvf : σ → List (Nat × Value))
    (hb : ∀ κ2 : σ ⊕ ρ → Mem → Option OT, (∀ (gr : Nat → Nat) (s : σ) (J : Mem), WQ_b Z Y I0 gr pc (lvf s) [] J (some (.inl s, J)) κ2) → (∀ (r : ρ) (J : Mem), κ2 (.inr r) J = κ r J) → ∀ (gr : Nat → Nat) (s : σ) (J : Mem), WQ_b Z Y I0 gr pc (lvf s) [] J (step s J) κ2) (gr : Nat → Nat) (s : σ) (h : lvf s = lv) : WQ_b Z Y I0 gr pc lv [] I (whl step s I) κ := by
  subst h
  have key : ∀ (n : Nat) (gr : Nat → Nat) (s : σ) (J : Mem) (q : ρ × Mem) (o : OT), whN step n s J = some q → κ q.1 q.2 = some o → WP_b Z Y I0 o gr pc (lvf s) [] J := by
    intro n
    induction n with
    | zero => intro gr s J q o h; cases h
    | succ n ih =>
      intro gr s J q o h ho
      have hb' := hb (fun x K => match x with
        | .inl s' => (match whN step n s' K with
          | none => none
          | some q => κ q.1 q.2)
        | .inr r => κ r K) ?_ (fun _ _ => rfl) gr s J o ?_
      · exact hb'
      · intro gr' s' K o' ho'
        cases hw : whN step n s' K with
        | none =>
          have : (match whN step n s' K with
            | none => none
            | some q => κ q.1 q.2) = some o' := ho'
          rw [hw] at this; cases this
        | some q' =>
          have : (match whN step n s' K with
            | none => none
            | some q => κ q.1 q.2) = some o' := ho'
          rw [hw] at this
          exact ih gr' s' K q' o' hw this
      · unfold whN at h
        cases hs : step s J with
        | none => rw [hs] at h; cases h
        | some x =>
          obtain ⟨x, K⟩ := x
          rw [hs] at h
          cases x with
          | inl s' =>
            have h : whN step n s' K = some q := h
            show (match whN step n s' K with
            | none => none
            | some q => κ q.1 q.2) = some o
            rw [h]; exact ho
          | inr r =>
            have h : some (r, K) = some q := h
            cases h
            exact ho
  intro o ho
  cases hw : whl step s I with
  | none => rw [hw] at ho; cases ho
  | some q =>
    rw [hw] at ho
    obtain ⟨n, hn⟩ := whl_iff.mp hw
    exact key n gr s I q o hn ho
end LOOPS
section PRIMS
variable {Z : ZT} {Y : YT} {I0 : Mem} {gr : Nat → Nat} {pc : Nat} {lv : List (Nat × Value)} {st : List Value} {I : Mem} {α : Type} {e e1 e2 : Option (α × Mem)} {κ : α → Mem → Option OT}
def Ob_b (Z : ZT) (gr : Nat → Nat) (I : Mem) (a : Nat) (C : String) : Prop := ∃ (k i ci N : Nat) (T : u_T) (fs : List Value), ent Z gr I k i = .inr (ci, fs) ∧ i < ksz_b k ∧ adG Z gr k i = a ∧ cls[ci]? = some (C, T, N)
theorem wq_cV_b {β : Type} {rv : β → Option Value} {f : Option (β × Mem)} {K : β → Mem → Option (α × Mem)} {y' : MethodName} {cc' : ByteArray} {maxL' h' index n a : Nat} {ret' : Option FieldType} {As rest : List Value} (hM : MwV y' cc' maxL' ret' n) (hr : ∀ (r : β) (J : Mem), f = some (r, J) → Runs_b Z y' cc' maxL' ret' h' (.ref a :: As) I (rv r, J))
    (hO : Ob_b Z gr I a y'.cls) (hn : As.length = n) (hst : st = As.reverse ++ .ref a :: rest) (hh : h' < Y.2.2.2.2) (hm : maxL' ≤ 16) (hw : (rest.map fun v => v.category).sum ≤ 8)
    (hlink : Cond.methodLink Y.1.cls index y' ∈ lw_good) (d : decode Y.2.1 pc = .ok (.invokevirtual index, 3))
    (kk : ∀ (gr' : Nat → Nat) (r : β) (J : Mem), WQ_b Z Y I0 gr' (pc + 3) lv ((rv r).toList ++ rest) J (K r J) κ) : WQ_b Z Y I0 gr pc lv st I (bnd f K) κ := by
  obtain ⟨k, i, ci, N, T, fs, h1, h2, h3, h4⟩ := hO
  exact wq_callV_b hM hr h1 h2 h3 h4 hn hst hh hm hw hlink d kk
theorem wq_cVi_b {f : Option (Int × Mem)} {K : Int → Mem → Option (α × Mem)} {y' : MethodName} {cc' : ByteArray} {maxL' h' index n a : Nat} {ret' : Option FieldType} {As rest : List Value} (hM : MwV y' cc' maxL' ret' n) (hr : ∀ (r : Int) (J : Mem), f = some (r, J) → Runs_b Z y' cc' maxL' ret' h' (.ref a :: As) I (some (vi r), J))
    (hO : Ob_b Z gr I a y'.cls) (hn : As.length = n) (hst : st = As.reverse ++ .ref a :: rest) (hh : h' < Y.2.2.2.2) (hm : maxL' ≤ 16) (hw : (rest.map fun v => v.category).sum ≤ 8)
    (hlink : Cond.methodLink Y.1.cls index y' ∈ lw_good) (d : decode Y.2.1 pc = .ok (.invokevirtual index, 3))
    (kk : ∀ (gr' : Nat → Nat) (r : Int) (J : Mem), WQ_b Z Y I0 gr' (pc + 3) lv (vi r :: rest) J (K r J) κ) : WQ_b Z Y I0 gr pc lv st I (bnd f K) κ := wq_cV_b (rv := fun r => some (vi r)) hM hr hO hn hst hh hm hw hlink d kk
theorem wq_cVv_b {f : Option (Unit × Mem)} {K : Unit → Mem → Option (α × Mem)} {y' : MethodName} {cc' : ByteArray} {maxL' h' index n a : Nat} {ret' : Option FieldType} {As rest : List Value} (hM : MwV y' cc' maxL' ret' n) (hr : ∀ (r : Unit) (J : Mem), f = some (r, J) → Runs_b Z y' cc' maxL' ret' h' (.ref a :: As) I (none, J))
    (hO : Ob_b Z gr I a y'.cls) (hn : As.length = n) (hst : st = As.reverse ++ .ref a :: rest) (hh : h' < Y.2.2.2.2) (hm : maxL' ≤ 16) (hw : (rest.map fun v => v.category).sum ≤ 8)
    (hlink : Cond.methodLink Y.1.cls index y' ∈ lw_good) (d : decode Y.2.1 pc = .ok (.invokevirtual index, 3))
    (kk : ∀ (gr' : Nat → Nat) (r : Unit) (J : Mem), WQ_b Z Y I0 gr' (pc + 3) lv rest J (K r J) κ) : WQ_b Z Y I0 gr pc lv st I (bnd f K) κ := wq_cV_b (rv := fun _ => none) hM hr hO hn hst hh hm hw hlink d kk
theorem wq_cSi_b {f : Option (Int × Mem)} {K : Int → Mem → Option (α × Mem)} {y' : MethodName} {cc' : ByteArray} {maxL' h' index n : Nat} {ret' : Option FieldType} {As rest : List Value} (hM : MwS y' cc' maxL' ret' n) (hr : ∀ (r : Int) (J : Mem), f = some (r, J) → Runs_b Z y' cc' maxL' ret' h' As I (some (vi r), J))
    (hcl : y'.cls = Y.1.cls) (hn : As.length = n) (hst : st = As.reverse ++ rest) (hh : h' < Y.2.2.2.2) (hm : maxL' ≤ 16) (hw : (rest.map fun v => v.category).sum ≤ 8)
    (hlink : Cond.methodLink Y.1.cls index y' ∈ lw_good) (d : decode Y.2.1 pc = .ok (.invokestatic index, 3))
    (kk : ∀ (gr' : Nat → Nat) (r : Int) (J : Mem), WQ_b Z Y I0 gr' (pc + 3) lv (vi r :: rest) J (K r J) κ) : WQ_b Z Y I0 gr pc lv st I (bnd f K) κ := wq_callS_b (rv := fun r => some (vi r)) hM hr hcl hn hst hh hm hw hlink d kk
end PRIMS
section MORE
variable {Z : ZT} {Y : YT} {I0 : Mem} {gr : Nat → Nat} {pc : Nat} {lv : List (Nat × Value)} {st : List Value} {I : Mem} {α : Type} {e : Option (α × Mem)} {κ : α → Mem → Option OT}
theorem wq_loopS_b {σ ρ : Type} {step : σ → Mem → Option ((σ ⊕ ρ) × Mem)} {K : ρ → Mem → Option (α × Mem)} (lvf : σ → List (Nat × Value)) (xpc : Nat) (lvx : ρ → List (Nat × Value))
    (hb : ∀ κ2 : σ ⊕ ρ → Mem → Option OT, (∀ (gr : Nat → Nat) (s : σ) (J : Mem), WQ_b Z Y I0 gr pc (lvf s) [] J (some (.inl s, J)) κ2) → (∀ (gr : Nat → Nat) (r : ρ) (J : Mem), WQ_b Z Y I0 gr xpc (lvx r) [] J (some (.inr r, J)) κ2) → ∀ (gr : Nat → Nat) (s : σ) (J : Mem), WQ_b Z Y I0 gr pc (lvf s) [] J (step s J) κ2)
    (hx : ∀ (gr : Nat → Nat) (r : ρ) (J : Mem), WQ_b Z Y I0 gr xpc (lvx r) [] J (K r J) κ) (gr : Nat → Nat) (s : σ) (h : lvf s = lv) : WQ_b Z Y I0 gr pc lv [] I (bnd (whl step s I) K) κ := by
  refine WQ_b.assoc ?_
  refine wq_loop_b lvf (fun κ2 back hr gr s J => ?_) gr s h
  refine hb κ2 back (fun gr r J => ?_) gr s J
  intro o ho
  exact hx gr r J o ((hr r J).symm.trans ho)
end MORE
section WRAP
variable {Z : ZT} {Y : YT} {I0 : Mem} {gr : Nat → Nat} {pc : Nat} {lv : List (Nat × Value)} {st : List Value} {I : Mem} {α : Type} {e : Option (α × Mem)} {κ : α → Mem → Option OT}
theorem ob_26_b : Ob_b Z gr I (zA Z 26 0) RX13 := ⟨26, 0, 11, 44, TX13, _, rfl, (by decide), rfl, rfl⟩
theorem g_26_0_b {index : Nat} (hln : Cond.fieldLink Y.1.cls index RX13 "w" "[I" ∈ lw_good) (d : decode Y.2.1 pc = .ok (.getfield index, 3)) (kk : WQ_b Z Y I0 gr (pc + 3) lv (vr Z 27 0 :: st) I e κ) : WQ_b Z Y I0 gr pc lv (vr Z 26 0 :: st) I e κ :=
  wq_get_b (k := 26) (i := 0) (fk := 0) (ci := 11) (N := 44) (T := TX13) rfl (by decide) rfl rfl in_26 (by decide) rfl rfl hln d kk
theorem g_26_11_b {index : Nat} (hln : Cond.fieldLink Y.1.cls index RX13 "unfolded" "[I" ∈ lw_good) (d : decode Y.2.1 pc = .ok (.getfield index, 3)) (kk : WQ_b Z Y I0 gr (pc + 3) lv (vr Z 27 7 :: st) I e κ) : WQ_b Z Y I0 gr pc lv (vr Z 26 0 :: st) I e κ :=
  wq_get_b (k := 26) (i := 0) (fk := 11) (ci := 11) (N := 44) (T := TX13) rfl (by decide) rfl rfl in_26 (by decide) rfl rfl hln d kk
theorem g_26_12_b {index : Nat} (hln : Cond.fieldLink Y.1.cls index RX13 "madeBy" "[I" ∈ lw_good) (d : decode Y.2.1 pc = .ok (.getfield index, 3)) (kk : WQ_b Z Y I0 gr (pc + 3) lv (vr Z 27 8 :: st) I e κ) : WQ_b Z Y I0 gr pc lv (vr Z 26 0 :: st) I e κ :=
  wq_get_b (k := 26) (i := 0) (fk := 12) (ci := 11) (N := 44) (T := TX13) rfl (by decide) rfl rfl in_26 (by decide) rfl rfl hln d kk
theorem g_26_13_b {index : Nat} (hln : Cond.fieldLink Y.1.cls index RX13 "inRow" "[I" ∈ lw_good) (d : decode Y.2.1 pc = .ok (.getfield index, 3)) (kk : WQ_b Z Y I0 gr (pc + 3) lv (vr Z 27 9 :: st) I e κ) : WQ_b Z Y I0 gr pc lv (vr Z 26 0 :: st) I e κ :=
  wq_get_b (k := 26) (i := 0) (fk := 13) (ci := 11) (N := 44) (T := TX13) rfl (by decide) rfl rfl in_26 (by decide) rfl rfl hln d kk
theorem g_26_14_b {index : Nat} (hln : Cond.fieldLink Y.1.cls index RX13 "inPlace" "[I" ∈ lw_good) (d : decode Y.2.1 pc = .ok (.getfield index, 3)) (kk : WQ_b Z Y I0 gr (pc + 3) lv (vr Z 27 10 :: st) I e κ) : WQ_b Z Y I0 gr pc lv (vr Z 26 0 :: st) I e κ :=
  wq_get_b (k := 26) (i := 0) (fk := 14) (ci := 11) (N := 44) (T := TX13) rfl (by decide) rfl rfl in_26 (by decide) rfl rfl hln d kk
end WRAP
set_option maxRecDepth 20000 in
theorem R_M_one_b (Z : ZT) (a0 : Int) (I : Mem) (r : Int) (J : Mem) (hf : f_M_one a0 I = some (r, J)) : Runs_b Z yX13_one cX13_one 1 (some .int) 1 [vi a0] I (some (vi r), J) := by
  refine Runs_b.of (rv := fun x => some (vi x)) (by decide +kernel) (Nat.le_of_ble_eq_true rfl) hf (fun gr => ?_)
  unfold f_M_one
  refine WQ_b.loc [0] (lv' := [(0, vi a0)]) rfl ?_
  refine wq_iload_n_b dX13_one_0 0 rfl rfl ?_
  refine wq_if_eq_b 8 dX13_one_1 (by decide) rfl (fun c1 => ?_) (fun c1 => ?_)
  · refine wq_iconst_b dX13_one_8 ?_
    exact wq_iret_b rfl rfl dX13_one_9
  · refine wq_iconst_b dX13_one_4 ?_
    refine wq_goto_b 9 dX13_one_5 (by decide) ?_
    exact wq_iret_b rfl rfl dX13_one_9
set_option maxRecDepth 20000 in
theorem R_M_begins_b (Z : ZT)  (I : Mem) (r : Unit) (J : Mem) (hf : f_M_begins I = some (r, J)) : Runs_b Z yX13_begins cX13_begins 2 (none) 1 [vr Z 26 0] I (none, J) := by
  refine Runs_b.of (rv := fun _ => none) (by decide +kernel) (Nat.le_of_ble_eq_true rfl) hf (fun gr => ?_)
  unfold f_M_begins
  refine WQ_b.loc [0] (lv' := [(0, vr Z 26 0)]) rfl ?_
  refine wq_iconst_b dX13_begins_0 ?_
  refine wq_istore_n_b (lv' := [(1, vi 0), (0, vr Z 26 0)]) dX13_begins_1 rfl (by decide) rfl ?_
  refine WQ_b.loc [1, 0] (lv' := [(0, vr Z 26 0), (1, vi 0)]) rfl ?_
  refine wq_loopS_b (fun s10 => [(0, vr Z 26 0), (1, vi s10)]) 22 (fun _ => [(0, vr Z 26 0)]) (fun κ4 bk5 ex6 gr9 s10 J8 => ?_) (fun gr16 r14 J15 => ?_) gr _ rfl
  · unfold f_M_begins_w2
    refine wq_iload_n_b dX13_begins_2 1 rfl rfl ?_
    refine wq_sipush_b dX13_begins_3 (by decide) ?_
    refine wq_icmp_ge_b 22 dX13_begins_6 (by decide) rfl rfl (fun c13 => ?_) (fun c13 => ?_)
    · refine wq_aload_n_b dX13_begins_9 0 rfl rfl ?_
      refine g_26_0_b ln_RX13_9 dX13_begins_10 ?_
      refine wq_iload_n_b dX13_begins_13 1 rfl rfl ?_
      refine wq_iconst_b dX13_begins_14 ?_
      refine wq_grd_b (fun g11 => ?_)
      refine wq_iast_b (k := 27) (i := 0) (fun _ _ => rfl) (by decide) rfl rfl (m := 16860) g11 (Nat.le_of_ble_eq_true rfl) (by decide) (by decide) (by decide) dX13_begins_15 (fun J12 => ?_)
      refine wq_iinc_b (lv' := [(1, vi (s10 + 1)), (0, vr Z 26 0)]) dX13_begins_16 1 rfl (by decide) rfl ?_
      refine wq_goto_b 2 dX13_begins_19 (by decide) ?_
      exact WQ_b.loc [1, 0] rfl (bk5 _ _ _)
    · exact WQ_b.loc [0] rfl (ex6 _ _ _)
  · refine wq_aload_n_b dX13_begins_22 0 rfl rfl ?_
    refine g_26_0_b ln_RX13_9 dX13_begins_23 ?_
    refine wq_iconst_b dX13_begins_26 ?_
    refine wq_iconst_b dX13_begins_27 ?_
    refine wq_iast_b (k := 27) (i := 0) (fun _ _ => rfl) (by decide) rfl rfl (m := 16860) (by decide) (Nat.le_of_ble_eq_true rfl) (by decide) (by decide) (by decide) dX13_begins_28 (fun J18 => ?_)
    refine wq_aload_n_b dX13_begins_29 0 rfl rfl ?_
    refine g_26_0_b ln_RX13_9 dX13_begins_30 ?_
    refine wq_iconst_b dX13_begins_33 ?_
    refine wq_iconst_b dX13_begins_34 ?_
    refine wq_iast_b (k := 27) (i := 0) (fun _ _ => rfl) (by decide) rfl rfl (m := 16860) (by decide) (Nat.le_of_ble_eq_true rfl) (by decide) (by decide) (by decide) dX13_begins_35 (fun J20 => ?_)
    exact wq_vret_b rfl rfl dX13_begins_36
set_option maxRecDepth 20000 in
theorem R_M_many_b (Z : ZT) (a1 : Int) (I : Mem) (r : Int) (J : Mem) (hf : f_M_many a1 I = some (r, J)) : Runs_b Z yX13_many cX13_many 2 (some .int) 1 [vr Z 26 0, vi a1] I (some (vi r), J) := by
  refine Runs_b.of (rv := fun x => some (vi x)) (by decide +kernel) (Nat.le_of_ble_eq_true rfl) hf (fun gr => ?_)
  unfold f_M_many
  refine WQ_b.loc [0, 1] (lv' := [(0, vr Z 26 0), (1, vi a1)]) rfl ?_
  refine wq_aload_n_b dX13_many_0 0 rfl rfl ?_
  refine g_26_0_b ln_RX13_9 dX13_many_1 ?_
  refine wq_bipush_b dX13_many_4 (by decide) ?_
  refine wq_iload_n_b dX13_many_6 1 rfl rfl ?_
  refine wq_iadd_b dX13_many_7 ?_
  refine wq_grd_b (fun g1 => ?_)
  refine wq_iald_b (k := 27) (i := 0) rfl (by decide) rfl rfl (m := 16860) g1 (Nat.le_of_ble_eq_true rfl) dX13_many_8 ?_
  exact wq_iret_b rfl rfl dX13_many_9
set_option maxRecDepth 20000 in
theorem R_M_at_b (Z : ZT) (a1 : Int) (a2 : Int) (I : Mem) (r : Int) (J : Mem) (hf : f_M_at a1 a2 I = some (r, J)) : Runs_b Z yX13_at cX13_at 3 (some .int) 1 [vr Z 26 0, vi a1, vi a2] I (some (vi r), J) := by
  refine Runs_b.of (rv := fun x => some (vi x)) (by decide +kernel) (Nat.le_of_ble_eq_true rfl) hf (fun gr => ?_)
  unfold f_M_at
  refine WQ_b.loc [0, 1, 2] (lv' := [(0, vr Z 26 0), (1, vi a1), (2, vi a2)]) rfl ?_
  refine wq_aload_n_b dX13_at_0 0 rfl rfl ?_
  refine g_26_0_b ln_RX13_9 dX13_at_1 ?_
  refine wq_bipush_b dX13_at_4 (by decide) ?_
  refine wq_sipush_b dX13_at_6 (by decide) ?_
  refine wq_iload_n_b dX13_at_9 1 rfl rfl ?_
  refine wq_imul_b dX13_at_10 ?_
  refine wq_iadd_b dX13_at_11 ?_
  refine wq_iload_n_b dX13_at_12 2 rfl rfl ?_
  refine wq_iadd_b dX13_at_13 ?_
  refine wq_grd_b (fun g1 => ?_)
  refine wq_iald_b (k := 27) (i := 0) rfl (by decide) rfl rfl (m := 16860) g1 (Nat.le_of_ble_eq_true rfl) dX13_at_14 ?_
  exact wq_iret_b rfl rfl dX13_at_15
set_option maxRecDepth 20000 in
theorem R_M_puts_b (Z : ZT) (a1 : Int) (a2 : Int) (a3 : Int) (I : Mem) (r : Unit) (J : Mem) (hf : f_M_puts a1 a2 a3 I = some (r, J)) : Runs_b Z yX13_puts cX13_puts 4 (none) 1 [vr Z 26 0, vi a1, vi a2, vi a3] I (none, J) := by
  refine Runs_b.of (rv := fun _ => none) (by decide +kernel) (Nat.le_of_ble_eq_true rfl) hf (fun gr => ?_)
  unfold f_M_puts
  refine WQ_b.loc [0, 1, 2, 3] (lv' := [(0, vr Z 26 0), (1, vi a1), (2, vi a2), (3, vi a3)]) rfl ?_
  refine wq_aload_n_b dX13_puts_0 0 rfl rfl ?_
  refine g_26_0_b ln_RX13_9 dX13_puts_1 ?_
  refine wq_bipush_b dX13_puts_4 (by decide) ?_
  refine wq_sipush_b dX13_puts_6 (by decide) ?_
  refine wq_iload_n_b dX13_puts_9 1 rfl rfl ?_
  refine wq_imul_b dX13_puts_10 ?_
  refine wq_iadd_b dX13_puts_11 ?_
  refine wq_iload_n_b dX13_puts_12 2 rfl rfl ?_
  refine wq_iadd_b dX13_puts_13 ?_
  refine wq_iload_n_b dX13_puts_14 3 rfl rfl ?_
  refine wq_grd_b (fun g1 => ?_)
  refine wq_iast_b (k := 27) (i := 0) (fun _ _ => rfl) (by decide) rfl rfl (m := 16860) g1 (Nat.le_of_ble_eq_true rfl) (by decide) (by decide) (by decide) dX13_puts_15 (fun J2 => ?_)
  exact wq_vret_b rfl rfl dX13_puts_16
set_option maxRecDepth 20000 in
theorem R_M_adds_b (Z : ZT) (a1 : Int) (a2 : Int) (I : Mem) (r : Unit) (J : Mem) (hf : f_M_adds a1 a2 I = some (r, J)) : Runs_b Z yX13_adds cX13_adds 3 (none) 2 [vr Z 26 0, vi a1, vi a2] I (none, J) := by
  refine Runs_b.of (rv := fun _ => none) (by decide +kernel) (Nat.le_of_ble_eq_true rfl) hf (fun gr => ?_)
  unfold f_M_adds
  refine WQ_b.loc [0, 1, 2] (lv' := [(0, vr Z 26 0), (1, vi a1), (2, vi a2)]) rfl ?_
  refine wq_aload_n_b dX13_adds_0 0 rfl rfl ?_
  refine wq_iload_n_b dX13_adds_1 1 rfl rfl ?_
  refine wq_aload_n_b dX13_adds_2 0 rfl rfl ?_
  refine wq_iload_n_b dX13_adds_3 1 rfl rfl ?_
  refine wq_cVi_b M_M_many (R_M_many_b Z a1 _) ob_26_b rfl rfl (by decide) (by decide) (Nat.le_of_ble_eq_true rfl) ln_RX13_103 dX13_adds_4 (fun gr1 x3 J2 => ?_)
  refine wq_iload_n_b dX13_adds_7 2 rfl rfl ?_
  refine wq_cVv_b M_M_puts (R_M_puts_b Z a1 x3 a2 _) ob_26_b rfl rfl (by decide) (by decide) (Nat.le_of_ble_eq_true rfl) ln_RX13_107 dX13_adds_8 (fun gr4 _ J5 => ?_)
  refine wq_aload_n_b dX13_adds_11 0 rfl rfl ?_
  refine g_26_0_b ln_RX13_9 dX13_adds_12 ?_
  refine wq_bipush_b dX13_adds_15 (by decide) ?_
  refine wq_iload_n_b dX13_adds_17 1 rfl rfl ?_
  refine wq_iadd_b dX13_adds_18 ?_
  refine wq_dup2_b dX13_adds_19 rfl rfl ?_
  refine wq_grd_b (fun g7 => ?_)
  refine wq_iald_b (k := 27) (i := 0) rfl (by decide) rfl rfl (m := 16860) g7 (Nat.le_of_ble_eq_true rfl) dX13_adds_20 ?_
  refine wq_iconst_b dX13_adds_21 ?_
  refine wq_iadd_b dX13_adds_22 ?_
  refine wq_iast_b (k := 27) (i := 0) (fun _ _ => rfl) (by decide) rfl rfl (m := 16860) g7 (Nat.le_of_ble_eq_true rfl) (by decide) (by decide) (by decide) dX13_adds_23 (fun J8 => ?_)
  exact wq_vret_b rfl rfl dX13_adds_24
set_option maxRecDepth 20000 in
theorem R_M_isHere_b (Z : ZT) (a1 : Int) (I : Mem) (r : Int) (J : Mem) (hf : f_M_isHere a1 I = some (r, J)) : Runs_b Z yX13_isHere cX13_isHere 2 (some .boolean) 2 [vr Z 26 0, vi a1] I (some (vi r), J) := by
  refine Runs_b.of (rv := fun x => some (vi x)) (by decide +kernel) (Nat.le_of_ble_eq_true rfl) hf (fun gr => ?_)
  unfold f_M_isHere
  refine WQ_b.loc [0, 1] (lv' := [(0, vr Z 26 0), (1, vi a1)]) rfl ?_
  refine wq_aload_n_b dX13_isHere_0 0 rfl rfl ?_
  refine wq_iload_n_b dX13_isHere_1 1 rfl rfl ?_
  refine wq_iconst_b dX13_isHere_2 ?_
  refine wq_iadd_b dX13_isHere_3 ?_
  refine wq_cVi_b M_M_many (R_M_many_b Z (a1 + 1) _) ob_26_b rfl rfl (by decide) (by decide) (Nat.le_of_ble_eq_true rfl) ln_RX13_103 dX13_isHere_4 (fun gr1 x3 J2 => ?_)
  refine wq_if_le_b 14 dX13_isHere_7 (by decide) rfl (fun c4 => ?_) (fun c4 => ?_)
  · refine wq_iconst_b dX13_isHere_10 ?_
    refine wq_goto_b 15 dX13_isHere_11 (by decide) ?_
    exact wq_zret_b rfl (by decide) rfl dX13_isHere_15
  · refine wq_iconst_b dX13_isHere_14 ?_
    exact wq_zret_b rfl (by decide) rfl dX13_isHere_15
set_option maxRecDepth 20000 in
theorem R_M_rules_b (Z : ZT)  (I : Mem) (r : Int) (J : Mem) (hf : f_M_rules I = some (r, J)) : Runs_b Z yX13_rules cX13_rules 3 (some .int) 3 [vr Z 26 0] I (some (vi r), J) := by
  refine Runs_b.of (rv := fun x => some (vi x)) (by decide +kernel) (Nat.le_of_ble_eq_true rfl) hf (fun gr => ?_)
  unfold f_M_rules
  refine WQ_b.loc [0] (lv' := [(0, vr Z 26 0)]) rfl ?_
  refine wq_iconst_b dX13_rules_0 ?_
  refine wq_istore_n_b (lv' := [(1, vi 0), (0, vr Z 26 0)]) dX13_rules_1 rfl (by decide) rfl ?_
  refine wq_iconst_b dX13_rules_2 ?_
  refine wq_istore_n_b (lv' := [(2, vi 0), (1, vi 0), (0, vr Z 26 0)]) dX13_rules_3 rfl (by decide) rfl ?_
  refine WQ_b.loc [2, 1, 0] (lv' := [(0, vr Z 26 0), (1, vi 0), (2, vi 0)]) rfl ?_
  refine wq_loopS_b (fun s14 => [(0, vr Z 26 0), (1, vi s14.1), (2, vi s14.2)]) 27 (fun r22 => [(1, vi r22)]) (fun κ8 bk9 ex10 gr13 s14 J12 => ?_) (fun gr24 r22 J23 => ?_) gr _ rfl
  · unfold f_M_rules_w4
    refine wq_iload_n_b dX13_rules_4 2 rfl rfl ?_
    refine wq_bipush_b dX13_rules_5 (by decide) ?_
    refine wq_icmp_ge_b 27 dX13_rules_7 (by decide) rfl rfl (fun c21 => ?_) (fun c21 => ?_)
    · refine wq_iload_n_b dX13_rules_10 1 rfl rfl ?_
      refine wq_aload_n_b dX13_rules_11 0 rfl rfl ?_
      refine wq_iload_n_b dX13_rules_12 2 rfl rfl ?_
      refine wq_cVi_b M_M_isHere (R_M_isHere_b Z s14.2 _) ob_26_b rfl rfl (by decide) (by decide) (Nat.le_of_ble_eq_true rfl) ln_RX13_111 dX13_rules_13 (fun gr15 x17 J16 => ?_)
      refine wq_cSi_b M_M_one (R_M_one_b Z x17 _) rfl rfl rfl (by decide) (by decide) (Nat.le_of_ble_eq_true rfl) ln_RX13_115 dX13_rules_16 (fun gr18 x20 J19 => ?_)
      refine wq_iadd_b dX13_rules_19 ?_
      refine wq_istore_n_b (lv' := [(1, vi (s14.1 + x20)), (0, vr Z 26 0), (2, vi s14.2)]) dX13_rules_20 rfl (by decide) rfl ?_
      refine wq_iinc_b (lv' := [(2, vi (s14.2 + 1)), (1, vi (s14.1 + x20)), (0, vr Z 26 0)]) dX13_rules_21 2 rfl (by decide) rfl ?_
      refine wq_goto_b 4 dX13_rules_24 (by decide) ?_
      exact WQ_b.loc [2, 1, 0] rfl (bk9 _ _ _)
    · exact WQ_b.loc [1] rfl (ex10 _ _ _)
  · refine wq_iload_n_b dX13_rules_27 0 rfl rfl ?_
    exact wq_iret_b rfl rfl dX13_rules_28
set_option maxRecDepth 20000 in
theorem R_M_unfolds_b (Z : ZT)  (I : Mem) (r : Int) (J : Mem) (hf : f_M_unfolds I = some (r, J)) : Runs_b Z yX13_unfolds cX13_unfolds 6 (some .int) 2 [vr Z 26 0] I (some (vi r), J) := by
  refine Runs_b.of (rv := fun x => some (vi x)) (by decide +kernel) (Nat.le_of_ble_eq_true rfl) hf (fun gr => ?_)
  unfold f_M_unfolds
  refine WQ_b.loc [0] (lv' := [(0, vr Z 26 0)]) rfl ?_
  refine wq_iconst_b dX13_unfolds_0 ?_
  refine wq_istore_n_b (lv' := [(1, vi 0), (0, vr Z 26 0)]) dX13_unfolds_1 rfl (by decide) rfl ?_
  refine wq_iconst_b dX13_unfolds_2 ?_
  refine wq_istore_n_b (lv' := [(2, vi 0), (1, vi 0), (0, vr Z 26 0)]) dX13_unfolds_3 rfl (by decide) rfl ?_
  refine WQ_b.loc [2, 1, 0] (lv' := [(0, vr Z 26 0), (1, vi 0), (2, vi 0)]) rfl ?_
  refine wq_loopS_b (fun s131 => [(0, vr Z 26 0), (1, vi s131.1), (2, vi s131.2)]) 199 (fun r185 => [(1, vi r185)]) (fun κ125 bk126 ex127 gr130 s131 J129 => ?_) (fun gr187 r185 J186 => ?_) gr _ rfl
  · unfold f_M_unfolds_w4
    refine wq_iload_n_b dX13_unfolds_4 2 rfl rfl ?_
    refine wq_aload_n_b dX13_unfolds_5 0 rfl rfl ?_
    refine wq_iconst_b dX13_unfolds_6 ?_
    refine wq_cVi_b M_M_many (R_M_many_b Z 0 _) ob_26_b rfl rfl (by decide) (by decide) (Nat.le_of_ble_eq_true rfl) ln_RX13_103 dX13_unfolds_7 (fun gr132 x134 J133 => ?_)
    refine wq_icmp_ge_b 199 dX13_unfolds_10 (by decide) rfl rfl (fun c184 => ?_) (fun c184 => ?_)
    · refine wq_iconst_b dX13_unfolds_13 ?_
      refine wq_istore_n_b (lv' := [(3, vi 0), (0, vr Z 26 0), (1, vi s131.1), (2, vi s131.2)]) dX13_unfolds_14 rfl (by decide) rfl ?_
      refine wq_aload_n_b dX13_unfolds_15 1 rfl rfl ?_
      refine g_26_13_b ln_RX13_43 dX13_unfolds_16 ?_
      refine wq_iconst_b dX13_unfolds_19 ?_
      refine wq_iconst_b dX13_unfolds_20 ?_
      refine wq_iast_b (k := 27) (i := 9) (fun _ _ => rfl) (by decide) rfl rfl (m := 42) (by decide) (Nat.le_of_ble_eq_true rfl) (by decide) (by decide) (by decide) dX13_unfolds_21 (fun J136 => ?_)
      refine wq_aload_n_b dX13_unfolds_22 1 rfl rfl ?_
      refine g_26_14_b ln_RX13_46 dX13_unfolds_23 ?_
      refine wq_iconst_b dX13_unfolds_26 ?_
      refine wq_iload_n_b dX13_unfolds_27 3 rfl rfl ?_
      refine wq_iast_b (k := 27) (i := 10) (fun _ _ => rfl) (by decide) rfl rfl (m := 42) (by decide) (Nat.le_of_ble_eq_true rfl) (by decide) (by decide) (by decide) dX13_unfolds_28 (fun J138 => ?_)
      refine WQ_b.loc [1, 2, 3, 0] (lv' := [(0, vr Z 26 0), (1, vi s131.1), (2, vi s131.2), (3, vi 0)]) rfl ?_
      refine wq_loopS_b (fun s145 => [(0, vr Z 26 0), (1, vi s145.1), (2, vi s131.2), (3, vi s145.2)]) 193 (fun r181 => [(0, vr Z 26 0), (1, vi r181), (2, vi s131.2)]) (fun κ139 bk140 ex141 gr144 s145 J143 => ?_) (fun gr183 r181 J182 => ?_) gr132 _ rfl
      · unfold f_M_unfolds_w29
        refine wq_iload_n_b dX13_unfolds_29 3 rfl rfl ?_
        refine wq_if_lt_b 193 dX13_unfolds_30 (by decide) rfl (fun c180 => ?_) (fun c180 => ?_)
        · exact WQ_b.loc [0, 1, 2] rfl (ex141 _ _ _)
        · refine wq_iload_n_b dX13_unfolds_33 3 rfl rfl ?_
          have hj146 : ∀ (gr155 : Nat → Nat)  (hj146e0 : Int) (J154 : Mem), WQ_b Z (yX13_unfolds, cX13_unfolds, 6, some .int, 2) I gr155 61 [(0, vr Z 26 0), (1, vi s145.1), (2, vi s131.2), (3, vi s145.2)] [vi hj146e0] J154 (f_M_unfolds_j61 s145.1 s131.2 s145.2 hj146e0 J154) κ139 := by
            intro gr155 hj146e0 J154
            unfold f_M_unfolds_j61
            refine wq_istore_b (lv' := [(4, vi hj146e0), (0, vr Z 26 0), (1, vi s145.1), (2, vi s131.2), (3, vi s145.2)]) dX13_unfolds_61 (by decide) rfl ?_
            refine wq_iload_b dX13_unfolds_63 0 rfl ?_
            have hj156 : ∀ (gr163 : Nat → Nat)  (hj156e0 : Int) (J162 : Mem), WQ_b Z (yX13_unfolds, cX13_unfolds, 6, some .int, 2) I gr163 88 [(0, vr Z 26 0), (1, vi s145.1), (2, vi s131.2), (3, vi s145.2), (4, vi hj146e0)] [vi hj156e0] J162 (f_M_unfolds_j88 s145.1 s131.2 s145.2 hj146e0 hj156e0 J162) κ139 := by
              intro gr163 hj156e0 J162
              unfold f_M_unfolds_j88
              refine wq_istore_b (lv' := [(5, vi hj156e0), (0, vr Z 26 0), (1, vi s145.1), (2, vi s131.2), (3, vi s145.2), (4, vi hj146e0)]) dX13_unfolds_88 (by decide) rfl ?_
              refine wq_iload_b dX13_unfolds_90 5 rfl ?_
              refine wq_if_eq_b 120 dX13_unfolds_92 (by decide) rfl (fun c177 => ?_) (fun c177 => ?_)
              · refine wq_iload_b dX13_unfolds_120 0 rfl ?_
                refine wq_bipush_b dX13_unfolds_122 (by decide) ?_
                refine wq_icmp_ge_b 167 dX13_unfolds_124 (by decide) rfl rfl (fun c173 => ?_) (fun c173 => ?_)
                · refine wq_aload_n_b dX13_unfolds_127 1 rfl rfl ?_
                  refine g_26_11_b ln_RX13_37 dX13_unfolds_128 ?_
                  refine wq_iload_n_b dX13_unfolds_131 2 rfl rfl ?_
                  refine wq_iload_b dX13_unfolds_132 0 rfl ?_
                  refine wq_grd_b (fun g167 => ?_)
                  refine wq_iast_b (k := 27) (i := 7) (fun _ _ => rfl) (by decide) rfl rfl (m := 401) g167 (Nat.le_of_ble_eq_true rfl) (by decide) (by decide) (by decide) dX13_unfolds_134 (fun J168 => ?_)
                  refine wq_aload_n_b dX13_unfolds_135 1 rfl rfl ?_
                  refine g_26_12_b ln_RX13_40 dX13_unfolds_136 ?_
                  refine wq_iload_n_b dX13_unfolds_139 2 rfl rfl ?_
                  refine wq_iload_n_b dX13_unfolds_140 3 rfl rfl ?_
                  refine wq_iast_b (k := 27) (i := 8) (fun _ _ => rfl) (by decide) rfl rfl (m := 401) g167 (Nat.le_of_ble_eq_true rfl) (by decide) (by decide) (by decide) dX13_unfolds_141 (fun J169 => ?_)
                  refine wq_iinc_b (lv' := [(1, vi (s145.1 + 1)), (5, vi hj156e0), (0, vr Z 26 0), (2, vi s131.2), (3, vi s145.2), (4, vi hj146e0)]) dX13_unfolds_142 2 rfl (by decide) rfl ?_
                  refine wq_iload_n_b dX13_unfolds_145 4 rfl rfl ?_
                  refine wq_if_le_b 162 dX13_unfolds_146 (by decide) rfl (fun c172 => ?_) (fun c172 => ?_)
                  · refine wq_aload_n_b dX13_unfolds_149 2 rfl rfl ?_
                    refine g_26_14_b ln_RX13_46 dX13_unfolds_150 ?_
                    refine wq_iload_n_b dX13_unfolds_153 4 rfl rfl ?_
                    refine wq_dup2_b dX13_unfolds_154 rfl rfl ?_
                    refine wq_grd_b (fun g170 => ?_)
                    refine wq_iald_b (k := 27) (i := 10) rfl (by decide) rfl rfl (m := 42) g170 (Nat.le_of_ble_eq_true rfl) dX13_unfolds_155 ?_
                    refine wq_iconst_b dX13_unfolds_156 ?_
                    refine wq_iadd_b dX13_unfolds_157 ?_
                    refine wq_iast_b (k := 27) (i := 10) (fun _ _ => rfl) (by decide) rfl rfl (m := 42) g170 (Nat.le_of_ble_eq_true rfl) (by decide) (by decide) (by decide) dX13_unfolds_158 (fun J171 => ?_)
                    refine wq_goto_b 190 dX13_unfolds_159 (by decide) ?_
                    refine wq_goto_b 29 dX13_unfolds_190 (by decide) ?_
                    exact WQ_b.loc [2, 0, 3, 4] rfl (bk140 _ _ _)
                  · refine wq_iconst_b dX13_unfolds_162 ?_
                    refine wq_istore_n_b (lv' := [(3, vi (-1)), (1, vi (s145.1 + 1)), (5, vi hj156e0), (0, vr Z 26 0), (2, vi s131.2), (4, vi hj146e0)]) dX13_unfolds_163 rfl (by decide) rfl ?_
                    refine wq_goto_b 190 dX13_unfolds_164 (by decide) ?_
                    refine wq_goto_b 29 dX13_unfolds_190 (by decide) ?_
                    exact WQ_b.loc [3, 1, 4, 0] rfl (bk140 _ _ _)
                · refine wq_iinc_b (lv' := [(3, vi (s145.2 + 1)), (5, vi hj156e0), (0, vr Z 26 0), (1, vi s145.1), (2, vi s131.2), (4, vi hj146e0)]) dX13_unfolds_167 4 rfl (by decide) rfl ?_
                  refine wq_aload_n_b dX13_unfolds_170 2 rfl rfl ?_
                  refine g_26_13_b ln_RX13_43 dX13_unfolds_171 ?_
                  refine wq_iload_n_b dX13_unfolds_174 0 rfl rfl ?_
                  refine wq_iload_b dX13_unfolds_175 1 rfl ?_
                  refine wq_bipush_b dX13_unfolds_177 (by decide) ?_
                  refine wq_isub_b dX13_unfolds_179 ?_
                  refine wq_iconst_b dX13_unfolds_180 ?_
                  refine wq_iadd_b dX13_unfolds_181 ?_
                  refine wq_grd_b (fun g164 => ?_)
                  refine wq_iast_b (k := 27) (i := 9) (fun _ _ => rfl) (by decide) rfl rfl (m := 42) g164 (Nat.le_of_ble_eq_true rfl) (by decide) (by decide) (by decide) dX13_unfolds_182 (fun J165 => ?_)
                  refine wq_aload_n_b dX13_unfolds_183 2 rfl rfl ?_
                  refine g_26_14_b ln_RX13_46 dX13_unfolds_184 ?_
                  refine wq_iload_n_b dX13_unfolds_187 0 rfl rfl ?_
                  refine wq_iconst_b dX13_unfolds_188 ?_
                  refine wq_iast_b (k := 27) (i := 10) (fun _ _ => rfl) (by decide) rfl rfl (m := 42) g164 (Nat.le_of_ble_eq_true rfl) (by decide) (by decide) (by decide) dX13_unfolds_189 (fun J166 => ?_)
                  refine wq_goto_b 29 dX13_unfolds_190 (by decide) ?_
                  exact WQ_b.loc [2, 3, 4, 0] rfl (bk140 _ _ _)
              · refine wq_iinc_b (lv' := [(3, vi (s145.2 + (-1))), (5, vi hj156e0), (0, vr Z 26 0), (1, vi s145.1), (2, vi s131.2), (4, vi hj146e0)]) dX13_unfolds_95 4 rfl (by decide) rfl ?_
                refine wq_iload_n_b dX13_unfolds_98 0 rfl rfl ?_
                refine wq_if_le_b 115 dX13_unfolds_99 (by decide) rfl (fun c176 => ?_) (fun c176 => ?_)
                · refine wq_aload_n_b dX13_unfolds_102 2 rfl rfl ?_
                  refine g_26_14_b ln_RX13_46 dX13_unfolds_103 ?_
                  refine wq_iload_n_b dX13_unfolds_106 0 rfl rfl ?_
                  refine wq_dup2_b dX13_unfolds_107 rfl rfl ?_
                  refine wq_grd_b (fun g174 => ?_)
                  refine wq_iald_b (k := 27) (i := 10) rfl (by decide) rfl rfl (m := 42) g174 (Nat.le_of_ble_eq_true rfl) dX13_unfolds_108 ?_
                  refine wq_iconst_b dX13_unfolds_109 ?_
                  refine wq_iadd_b dX13_unfolds_110 ?_
                  refine wq_iast_b (k := 27) (i := 10) (fun _ _ => rfl) (by decide) rfl rfl (m := 42) g174 (Nat.le_of_ble_eq_true rfl) (by decide) (by decide) (by decide) dX13_unfolds_111 (fun J175 => ?_)
                  refine wq_goto_b 190 dX13_unfolds_112 (by decide) ?_
                  refine wq_goto_b 29 dX13_unfolds_190 (by decide) ?_
                  exact WQ_b.loc [2, 3, 4, 0] rfl (bk140 _ _ _)
                · refine wq_iconst_b dX13_unfolds_115 ?_
                  refine wq_istore_n_b (lv' := [(3, vi (-1)), (5, vi hj156e0), (0, vr Z 26 0), (1, vi s145.1), (2, vi s131.2), (4, vi hj146e0)]) dX13_unfolds_116 rfl (by decide) rfl ?_
                  refine wq_goto_b 190 dX13_unfolds_117 (by decide) ?_
                  refine wq_goto_b 29 dX13_unfolds_190 (by decide) ?_
                  exact WQ_b.loc [2, 3, 4, 0] rfl (bk140 _ _ _)
            refine wq_if_eq_b 72 dX13_unfolds_65 (by decide) rfl (fun c161 => ?_) (fun c161 => ?_)
            · refine wq_aload_n_b dX13_unfolds_72 1 rfl rfl ?_
              refine wq_aload_n_b dX13_unfolds_73 1 rfl rfl ?_
              refine g_26_13_b ln_RX13_43 dX13_unfolds_74 ?_
              refine wq_iload_n_b dX13_unfolds_77 4 rfl rfl ?_
              refine wq_grd_b (fun g157 => ?_)
              refine wq_iald_b (k := 27) (i := 9) rfl (by decide) rfl rfl (m := 42) g157 (Nat.le_of_ble_eq_true rfl) dX13_unfolds_78 ?_
              refine wq_aload_n_b dX13_unfolds_79 1 rfl rfl ?_
              refine g_26_14_b ln_RX13_46 dX13_unfolds_80 ?_
              refine wq_iload_n_b dX13_unfolds_83 4 rfl rfl ?_
              refine wq_iald_b (k := 27) (i := 10) rfl (by decide) rfl rfl (m := 42) g157 (Nat.le_of_ble_eq_true rfl) dX13_unfolds_84 ?_
              refine wq_cVi_b M_M_at (R_M_at_b Z (J154 27 9 (w32 s145.2).toNat) (J154 27 10 (w32 s145.2).toNat) _) ob_26_b rfl rfl (by decide) (by decide) (Nat.le_of_ble_eq_true rfl) ln_RX13_119 dX13_unfolds_85 (fun gr158 x160 J159 => ?_)
              exact WQ_b.loc [1, 2, 3, 4, 0] rfl (hj156 _  _ _)
            · refine wq_iconst_b dX13_unfolds_68 ?_
              refine wq_goto_b 88 dX13_unfolds_69 (by decide) ?_
              exact WQ_b.loc [1, 2, 3, 4, 0] rfl (hj156 _  _ _)
          have hj147 : ∀ (gr179 : Nat → Nat)   (J178 : Mem), WQ_b Z (yX13_unfolds, cX13_unfolds, 6, some .int, 2) I gr179 60 [(0, vr Z 26 0), (1, vi s145.1), (2, vi s131.2), (3, vi s145.2)] [] J178 (f_M_unfolds_j60 s145.1 s131.2 s145.2 J178) κ139 := by
            intro gr179 J178
            unfold f_M_unfolds_j60
            refine wq_iconst_b dX13_unfolds_60 ?_
            exact WQ_b.loc [0, 1, 2, 3] rfl (hj146 _  _ _)
          refine wq_if_le_b 60 dX13_unfolds_34 (by decide) rfl (fun c153 => ?_) (fun c153 => ?_)
          · refine wq_aload_n_b dX13_unfolds_37 0 rfl rfl ?_
            refine g_26_14_b ln_RX13_46 dX13_unfolds_38 ?_
            refine wq_iload_n_b dX13_unfolds_41 3 rfl rfl ?_
            refine wq_grd_b (fun g148 => ?_)
            refine wq_iald_b (k := 27) (i := 10) rfl (by decide) rfl rfl (m := 42) g148 (Nat.le_of_ble_eq_true rfl) dX13_unfolds_42 ?_
            refine wq_aload_n_b dX13_unfolds_43 0 rfl rfl ?_
            refine wq_aload_n_b dX13_unfolds_44 0 rfl rfl ?_
            refine g_26_13_b ln_RX13_43 dX13_unfolds_45 ?_
            refine wq_iload_n_b dX13_unfolds_48 3 rfl rfl ?_
            refine wq_iald_b (k := 27) (i := 9) rfl (by decide) rfl rfl (m := 42) g148 (Nat.le_of_ble_eq_true rfl) dX13_unfolds_49 ?_
            refine wq_cVi_b M_M_many (R_M_many_b Z (J143 27 9 (w32 s145.2).toNat) _) ob_26_b rfl rfl (by decide) (by decide) (Nat.le_of_ble_eq_true rfl) ln_RX13_103 dX13_unfolds_50 (fun gr149 x151 J150 => ?_)
            refine wq_icmp_ne_b 60 dX13_unfolds_53 (by decide) rfl rfl (fun c152 => ?_) (fun c152 => ?_)
            · refine wq_iconst_b dX13_unfolds_56 ?_
              refine wq_goto_b 61 dX13_unfolds_57 (by decide) ?_
              exact WQ_b.loc [0, 1, 2, 3] rfl (hj146 _  _ _)
            · exact WQ_b.loc [0, 1, 2, 3] rfl (hj147 _   _)
          · exact WQ_b.loc [0, 1, 2, 3] rfl (hj147 _   _)
      · refine wq_iinc_b (lv' := [(2, vi (s131.2 + 1)), (0, vr Z 26 0), (1, vi r181)]) dX13_unfolds_193 2 rfl (by decide) rfl ?_
        refine wq_goto_b 4 dX13_unfolds_196 (by decide) ?_
        exact WQ_b.loc [1, 2, 0] rfl (bk126 _ _ _)
    · exact WQ_b.loc [1] rfl (ex127 _ _ _)
  · refine wq_iload_n_b dX13_unfolds_199 0 rfl rfl ?_
    exact wq_iret_b rfl rfl dX13_unfolds_200
set_option maxRecDepth 20000 in
theorem R_M_tellsText_b (Z : ZT)  (I : Mem) (r : Unit) (J : Mem) (hf : f_M_tellsText I = some (r, J)) : Runs_b Z yX13_tellsText cX13_tellsText 2 (none) 4 [vr Z 26 0] I (none, J) := by
  refine Runs_b.of (rv := fun _ => none) (by decide +kernel) (Nat.le_of_ble_eq_true rfl) hf (fun gr => ?_)
  unfold f_M_tellsText
  refine WQ_b.loc [0] (lv' := [(0, vr Z 26 0)]) rfl ?_
  refine wq_aload_n_b dX13_tellsText_0 0 rfl rfl ?_
  refine g_26_0_b ln_RX13_9 dX13_tellsText_1 ?_
  refine wq_iconst_b dX13_tellsText_4 ?_
  refine wq_aload_n_b dX13_tellsText_5 0 rfl rfl ?_
  refine wq_cVi_b M_M_unfolds (R_M_unfolds_b Z _) ob_26_b rfl rfl (by decide) (by decide) (Nat.le_of_ble_eq_true rfl) ln_RX13_140 dX13_tellsText_6 (fun gr1 x3 J2 => ?_)
  refine wq_iast_b (k := 27) (i := 0) (fun _ _ => rfl) (by decide) rfl rfl (m := 16860) (by decide) (Nat.le_of_ble_eq_true rfl) (by decide) (by decide) (by decide) dX13_tellsText_9 (fun J5 => ?_)
  refine wq_iconst_b dX13_tellsText_10 ?_
  refine wq_istore_n_b (lv' := [(1, vi 0), (0, vr Z 26 0)]) dX13_tellsText_11 rfl (by decide) rfl ?_
  refine WQ_b.loc [1, 0] (lv' := [(0, vr Z 26 0), (1, vi 0)]) rfl ?_
  refine wq_loopS_b (fun s17 => [(0, vr Z 26 0), (1, vi s17)]) 44 (fun _ => [(0, vr Z 26 0)]) (fun κ11 bk12 ex13 gr16 s17 J15 => ?_) (fun gr25 r23 J24 => ?_) gr1 _ rfl
  · unfold f_M_tellsText_w12
    refine wq_iload_n_b dX13_tellsText_12 1 rfl rfl ?_
    refine wq_aload_n_b dX13_tellsText_13 0 rfl rfl ?_
    refine g_26_0_b ln_RX13_9 dX13_tellsText_14 ?_
    refine wq_iconst_b dX13_tellsText_17 ?_
    refine wq_iald_b (k := 27) (i := 0) rfl (by decide) rfl rfl (m := 16860) (by decide) (Nat.le_of_ble_eq_true rfl) dX13_tellsText_18 ?_
    refine wq_icmp_ge_b 44 dX13_tellsText_19 (by decide) rfl rfl (fun c22 => ?_) (fun c22 => ?_)
    · refine wq_aload_n_b dX13_tellsText_22 0 rfl rfl ?_
      refine g_26_0_b ln_RX13_9 dX13_tellsText_23 ?_
      refine wq_sipush_b dX13_tellsText_26 (by decide) ?_
      refine wq_iload_n_b dX13_tellsText_29 1 rfl rfl ?_
      refine wq_iadd_b dX13_tellsText_30 ?_
      refine wq_aload_n_b dX13_tellsText_31 0 rfl rfl ?_
      refine g_26_11_b ln_RX13_37 dX13_tellsText_32 ?_
      refine wq_iload_n_b dX13_tellsText_35 1 rfl rfl ?_
      refine wq_grd_b (fun g19 => ?_)
      refine wq_iald_b (k := 27) (i := 7) rfl (by decide) rfl rfl (m := 401) g19 (Nat.le_of_ble_eq_true rfl) dX13_tellsText_36 ?_
      refine wq_grd_b (fun g20 => ?_)
      refine wq_iast_b (k := 27) (i := 0) (fun _ _ => rfl) (by decide) rfl rfl (m := 16860) g20 (Nat.le_of_ble_eq_true rfl) (by decide) (by decide) (by decide) dX13_tellsText_37 (fun J21 => ?_)
      refine wq_iinc_b (lv' := [(1, vi (s17 + 1)), (0, vr Z 26 0)]) dX13_tellsText_38 1 rfl (by decide) rfl ?_
      refine wq_goto_b 12 dX13_tellsText_41 (by decide) ?_
      exact WQ_b.loc [1, 0] rfl (bk12 _ _ _)
    · exact WQ_b.loc [0] rfl (ex13 _ _ _)
  · refine wq_aload_n_b dX13_tellsText_44 0 rfl rfl ?_
    refine g_26_0_b ln_RX13_9 dX13_tellsText_45 ?_
    refine wq_iconst_b dX13_tellsText_48 ?_
    refine wq_aload_n_b dX13_tellsText_49 0 rfl rfl ?_
    refine wq_cVi_b M_M_rules (R_M_rules_b Z _) ob_26_b rfl rfl (by decide) (by decide) (Nat.le_of_ble_eq_true rfl) ln_RX13_144 dX13_tellsText_50 (fun gr26 x28 J27 => ?_)
    refine wq_iast_b (k := 27) (i := 0) (fun _ _ => rfl) (by decide) rfl rfl (m := 16860) (by decide) (Nat.le_of_ble_eq_true rfl) (by decide) (by decide) (by decide) dX13_tellsText_53 (fun J30 => ?_)
    exact wq_vret_b rfl rfl dX13_tellsText_54
end
section
/-! ===== what constructors make: cells one behind another ===== -/
def CHp (D : va_G) (B : Nat) (H0 : Heap) (n : Nat) (E : Nat → va_E) (H : Heap) : Prop :=
  B = H0.size ∧ H.size = B + n ∧ (∀ q : Nat, q < B → H[q]? = H0[q]?) ∧ ∀ j : Nat, j < n → va_at D cls (B + j, E j) H
def uE (E : Nat → va_E) (j : Nat) (e : va_E) : Nat → va_E := fun q => if q = j then e else E q
theorem uE_self (E : Nat → va_E) (j : Nat) (e : va_E) : uE E j e j = e := if_pos rfl
theorem uE_ne {E : Nat → va_E} {j q : Nat} {e : va_E} (h : q ≠ j) : uE E j e q = E q := if_neg h
theorem CHp.to {D : va_G} {B n : Nat} {H0 H : Heap} {E E' : Nat → va_E} (h : CHp D B H0 n E H) (he : ∀ j : Nat, j < n → E j = E' j) : CHp D B H0 n E' H :=
  ⟨h.1, h.2.1, h.2.2.1, fun j hj => by rw [← he j hj]; exact h.2.2.2 j hj⟩
theorem CHp.upd {D : va_G} {B n j : Nat} {H0 H H1 : Heap} {E : Nat → va_E} {e : va_E} (h : CHp D B H0 n E H) (hz : H1.size = H.size) (ho : ∀ q : Nat, q ≠ B + j → H1[q]? = H[q]?) (he : va_at D cls (B + j, e) H1) : CHp D B H0 n (uE E j e) H1 := by
  obtain ⟨h1, h2, h3, h4⟩ := h
  refine ⟨h1, by rw [hz]; exact h2, fun q hq => (ho q (by omega)).trans (h3 q hq), fun i hi => ?_⟩
  by_cases hij : i = j
  · subst hij; rw [uE_self]; exact he
  · rw [uE_ne hij]; exact (h4 i hi).kept (ho _ (by omega))
theorem CHp.app {D : va_G} {B n : Nat} {H0 H H1 : Heap} {E : Nat → va_E} {e : va_E} (h : CHp D B H0 n E H) (hz : H1.size = B + n + 1) (ho : ∀ q : Nat, q < B + n → H1[q]? = H[q]?) (he : va_at D cls (B + n, e) H1) : CHp D B H0 (n + 1) (uE E n e) H1 := by
  obtain ⟨h1, h2, h3, h4⟩ := h
  refine ⟨h1, by rw [hz]; omega, fun q hq => (ho q (by omega)).trans (h3 q hq), fun i hi => ?_⟩
  by_cases hij : i = n
  · subst hij; rw [uE_self]; exact he
  · rw [uE_ne hij]; exact (h4 i (by omega)).kept (ho _ (by omega))
def aoC : List String := [RX5, RX1, RX11]
def KC (Z : ZT) (U : State) : Prop := KK Z U ∧ ∀ C ∈ aoC, va_AO C U
theorem KC.warm {Z : ZT} {s U : State} (hW : s.WarmedH U.vm) (h : KC Z s) : KC Z U := ⟨h.1.warm hW, fun C hC => (h.2 C hC).moved hW.alike⟩
theorem KC.same {Z : ZT} {s U : State} (hv : U.vm = s.vm) (h : KC Z s) : KC Z U := ⟨h.1.same hv, fun C hC => (h.2 C hC).moved (by rw [hv]; exact Vm.Alike.refl s.vm)⟩
abbrev BB (p : Program) (s : State) (m : MethodId) (args : Array Value) (c : Code) (own : String) (cc : ByteArray) (nL : Nat) (Z : ZT) : Prop :=
  p.tables.exec = Jvm.exec ∧ c.code = cc ∧ s.vm.findClass own = some m.cls ∧ (∀ w ∈ lw_good, w.before args s = true) ∧ KC Z s ∧ c.maxLocals = nL
def PcC (Z : ZT) (av : List Value) (P : Heap → Prop) : Array Value → State → Prop := fun v U => v = av.toArray ∧ P U.heap ∧ KC Z U
def QcC (P : Heap → Prop) : Array Value → State → Outcome → State → Prop := fun _ _ oc t => oc = .returned none ∧ P t.heap
/-- a constructor's contract -/
def RunsC (Z : ZT) (y : MethodName) (cc : ByteArray) (maxL h : Nat) (av : List Value) (mc ms : Nat) (pre post : Heap → Prop) : Prop :=
  ∀ l : Launch, l.stackTraces = false → Met l y (wsAll y cc maxL none) (rmH h mc ms) (PcC Z av pre) (QcC post) mc ms (zN Z)
theorem RunsC.to {Z : ZT} {y : MethodName} {cc : ByteArray} {maxL h : Nat} {av : List Value} {mc ms : Nat} {pre pre' post post' : Heap → Prop} (hr : RunsC Z y cc maxL h av mc ms pre post) (h1 : pre' = pre) (h2 : post = post') : RunsC Z y cc maxL h av mc ms pre' post' := by
  subst h1 h2; exact hr
section CHR
variable {p : Program} {l : Launch} {e : Env} {R : Room} {s : State} {m : MethodId} {args : Array Value} {below : List Frame} {meth : Method} {c : Code} {H : Heap} {locs : List Loc} {cells slots : Nat} {Q : State → Prop} {cc : ByteArray} {pc nL : Nat} {ls : Array Slot} {rest : List Value} {own : String} {Z : ZT} {B : Nat} {H0 : Heap} {n : Nat} {E : Nat → va_E}
theorem ch_new {C : String} {T : u_T} {N ci index : Nat} (ty : Nat → FieldType) (fs : List Value) (b : BB p s m args c own cc nL Z) (hH : CHp (zD Z) B H0 n E H) (hin : ∀ w ∈ u_ws C T N, w ∈ lw_good) (hty : ∀ k, k < N → parseFieldDescriptor (T k).2.2.1 = some (ty k)) (hcl : Cond.classLink own index C ∈ lw_good) (hinst : Cond.instantiable C N ∈ lw_good) (hini : Cond.initialized C ∈ lw_good) (hc : cls[ci]? = some (C, T, N)) (hfs : ∀ j, j < N → defaultValue (ty j) = vp_V fs j) (hcells : cells + 1 ≤ R.cells) (hslots : slots + N ≤ R.slots) (d : decode cc pc = .ok (.new index, 3))
    (kk : ∀ H1 : Heap, CHp (zD Z) B H0 (n + 1) (uE E n (.inr (ci, fs))) H1 → W p l e R s m args below meth c H1 locs (cells + 1) (slots + N) Q (F0 m (pc + 3) ls (.ref (B + n) :: rest))) : W p l e R s m args below meth c H locs cells slots Q (F0 m pc ls rest) := by
  obtain ⟨hx, hb, hown, hts, hK, -⟩ := b
  have hKn := hK.1.1.1 ci _ hc
  refine W.newcK hx hb hown (hts _ hcl) (hts _ hinst) (hts _ hini) rfl d hcells hslots hKn.2.1 hH.2.1 fun H1 kC hkC e1 z1 o1 => ?_
  exact kk H1 (hH.app z1 o1 ⟨_, hc, (u_born ty hts hin hKn hkC e1 hty).to hfs⟩)
theorem ch_newa {atype : ArrayType} {t0 N' : Nat} {cA : ClassId} {ty : FieldType} {x : Int} (b : BB p s m args c own cc nL Z) (hH : CHp (zD Z) B H0 n E H) (harr : Cond.arrayClass (newarray.typeOf atype) ∈ lw_good) (hty : newarray.typeOf atype = ty) (ht : (tysOf Z)[t0]? = some (cA, ty)) (hra : ∀ U : State, va_RA U cA ty → U.vm.findClass ("[" ++ ty.toString) = some cA) (hdv : defaultValue ty = .int 0) (hn : w32 x = (N' : Int)) (hbytes : N' * componentBytes ty ≤ 536870912) (hcells : cells + 1 ≤ R.cells) (hslots : slots + N' ≤ R.slots) (d : decode cc pc = .ok (.newarray atype, 2))
    (kk : ∀ H1 : Heap, CHp (zD Z) B H0 (n + 1) (uE E n (arI cA N' (fun _ => 0))) H1 → W p l e R s m args below meth c H1 locs (cells + 1) (slots + N') Q (F0 m (pc + 2) ls (.ref (B + n) :: rest))) : W p l e R s m args below meth c H locs cells slots Q (F0 m pc ls (vi x :: rest)) := by
  subst hty
  obtain ⟨hx, hb, hown, hts, hK, -⟩ := b
  refine va_newaK hx hb (hts _ harr) rfl d rfl (w_nn hn (by omega)) ((w_nat hn).trans (Int.toNat_natCast N')) hbytes hcells hslots hH.2.1 (fun H1 cA1 e1 z1 o1 hAr hNm => ?_)
  have hq : cA1 = cA := Option.some.inj (hNm.symm.trans (hra s (hK.1.1.2 t0 _ ht).2))
  subst hq
  refine kk H1 (hH.app z1 o1 ?_)
  show H1[B + n]? = some (vp_cell _ _)
  rw [e1, hdv]
  rfl
theorem ch_newl {t0 N' : Nat} {cA : ClassId} {x : Int} (b : BB p s m args c own cc nL Z) (hH : CHp (zD Z) B H0 n E H) (harr : Cond.arrayClass (newarray.typeOf .long) ∈ lw_good) (ht : (tysOf Z)[t0]? = some (cA, .long)) (hn : w32 x = (N' : Int)) (hbytes : N' * componentBytes .long ≤ 536870912) (hcells : cells + 1 ≤ R.cells) (hslots : slots + N' ≤ R.slots) (d : decode cc pc = .ok (.newarray .long, 2))
    (kk : ∀ H1 : Heap, CHp (zD Z) B H0 (n + 1) (uE E n (.inl (cA, N', .inr (.inl fun _ => Int64.ofInt 0)))) H1 → W p l e R s m args below meth c H1 locs (cells + 1) (slots + N') Q (F0 m (pc + 2) ls (.ref (B + n) :: rest))) : W p l e R s m args below meth c H locs cells slots Q (F0 m pc ls (vi x :: rest)) := by
  obtain ⟨hx, hb, hown, hts, hK, -⟩ := b
  refine va_newaK hx hb (hts _ harr) rfl d rfl (w_nn hn (by omega)) ((w_nat hn).trans (Int.toNat_natCast N')) hbytes hcells hslots hH.2.1 (fun H1 cA1 e1 z1 o1 hAr hNm => ?_)
  have hq : cA1 = cA := Option.some.inj (hNm.symm.trans (hK.1.1.2 t0 _ ht).2)
  subst hq
  refine kk H1 (hH.app z1 o1 ?_)
  show H1[B + n]? = some (vp_cell _ _)
  rw [e1]
  rfl
theorem ch_newq {C : String} {t0 N' index : Nat} {cA : ClassId} {x : Int} (b : BB p s m args c own cc nL Z) (hH : CHp (zD Z) B H0 n E H) (hcl : Cond.classLink own index C ∈ lw_good) (hao : C ∈ aoC) (ht : (tysOf Z)[t0]? = some (cA, .object C)) (hn : w32 x = (N' : Int)) (hbytes : N' * 4 ≤ 536870912) (hcells : cells + 1 ≤ R.cells) (hslots : slots + N' ≤ R.slots) (d : decode cc pc = .ok (.anewarray index, 3))
    (kk : ∀ H1 : Heap, CHp (zD Z) B H0 (n + 1) (uE E n (.inl (cA, N', .inr (.inr (.inr (.inr fun _ => none)))))) H1 → W p l e R s m args below meth c H1 locs (cells + 1) (slots + N') Q (F0 m (pc + 3) ls (.ref (B + n) :: rest))) : W p l e R s m args below meth c H locs cells slots Q (F0 m pc ls (vi x :: rest)) := by
  obtain ⟨hx, hb, hown, hts, hK, -⟩ := b
  have hN : (Int32.ofInt x).toNatClampNeg = N' := (w_nat hn).trans (Int.toNat_natCast N')
  refine W.anew hx hb hown (hts _ hcl) (va_AO.use (hK.2 _ hao)) rfl d rfl (w_nn hn (by omega)) (by rw [hN]; exact hbytes) hcells (by rw [hN]; exact hslots) fun cA1 kA comp f1 f2 f3 f4 => ?_
  obtain ⟨kA', comp', g1, g2, g3, g4⟩ := (hK.1.1.2 t0 _ ht).2
  have hq : cA1 = cA := Option.some.inj (f1.symm.trans g4)
  subst hq
  rw [hN, hH.2.1]
  refine kk _ (hH.app (by rw [Array.size_push, hH.2.1]) (fun q hq => by rw [Array.getElem?_push, if_neg (by rw [hH.2.1]; omega)]) ?_)
  show (H.push _)[B + n]? = some (vp_cell _ _)
  rw [vp_cell_q, ← hH.2.1, Array.getElem?_push_size, ← arrV_new]
  rfl
theorem ch_putG {C fn fd : String} {T : u_T} {N ci index j k : Nat} {ty0 : Nat → FieldType} {fs : List Value} {v : Value} {fin : Bool} (b : BB p s m args c own cc nL Z) (hH : CHp (zD Z) B H0 n E H) (hj : j < n) (he : E j = .inr (ci, fs)) (hc : cls[ci]? = some (C, T, N)) (hin : ∀ w ∈ u_ws C T N, w ∈ lw_good) (hty : ∀ k, k < N → parseFieldDescriptor (T k).2.2.1 = some (ty0 k)) (hnm : ∀ a, a < N → ∀ b, b < N → a ≠ b → (T a).2.1 ≠ (T b).2.1) (hk : k < N) (hT : T k = (C, fn, fd, fin)) (hl : k < fs.length) (hn : narrow (ty0 k) v = v) (hf : fits (ty0 k) v = true) (hname : meth.name = "<init>") (hoc : C = own) (hlo : ∀ q ∈ locs, zN Z q.base) (hzB : zB Z ≤ B)
    (hln : Cond.fieldLink own index C fn fd ∈ lw_good) (d : decode cc pc = .ok (.putfield index, 3))
    (kk : ∀ (H1 : Heap) (locs1 : List Loc), CHp (zD Z) B H0 n (uE E j (.inr (ci, fs.set k v))) H1 → (∀ q ∈ locs1, zN Z q.base) → W p l e R s m args below meth c H1 locs1 cells slots Q (F0 m (pc + 3) ls rest)) : W p l e R s m args below meth c H locs cells slots Q (F0 m pc ls (v :: .ref (B + j) :: rest)) := by
  subst hoc
  obtain ⟨hx, hb, hown, hts, hKC, -⟩ := b
  have hK := hKC.1.1
  have hat := hH.2.2.2 j hj
  rw [he] at hat
  have e1 : (T k).1 = C := by rw [hT]
  have e2 : (T k).2.1 = fn := by rw [hT]
  have e3 : (T k).2.2.1 = fd := by rw [hT]
  have e4 : (T k).2.2.2 = fin := by rw [hT]
  have hap := va_apart (own := C) hts hin ty0 hty hnm hK hc
  obtain ⟨r, h1, cell, q1, q2, q3, q4⟩ := hat
  have hr : r = (C, T, N) := Option.some.inj (h1.symm.trans hc)
  subst hr
  obtain ⟨hS, hfc, kC, hkC, hkind⟩ := hK.1 ci _ hc
  obtain ⟨cf, kf, fi, fl, hif, hsl⟩ := hS k hk
  have hlay := hts _ (hin _ (u_in_lay hk))
  have hst := (u_facts hfc hkC (u_lays hts hin hk) hif).1
  have hlnk := hts _ hln
  rw [← e2, ← e3] at hlnk
  have hif' : s.fieldFound? C (T k).2.1 (T k).2.2.1 = some (cf, kf, fi, fl) := by rw [← e1]; exact hif
  have fin1 : ∀ H' : Heap, H'[B + j]? = some (cell.setSlot fl.slot v) → H'.size = H.size → (∀ q, q ≠ B + j → H'[q]? = H[q]?) → W p l e R s m args below meth c H' (locs ++ [⟨B + j, fl.slot⟩]) cells slots Q (F0 m (pc + 3) ls rest) := by
    intro H' p1 p2 p3
    rw [hsl] at p1
    refine kk H' _ (hH.upd p2 p3 ⟨_, hc, t_OB.to (V := updV (vp_V fs) k v) ⟨_, p1, q2, q3, t_set q4 hap hk v⟩ (fun j _ => vp_updV_set hl v j)⟩) (locs_put hlo (by omega))
  cases fin with
  | false =>
    unfold u_lay at hlay
    rw [if_neg (by rw [e4]; decide)] at hlay
    have h6 := u_store hfc hkC hkind hlay hif (hty k hk) hn hf
    exact W.putK hx hb (f := fl) (ref := C) ⟨hown, hlnk, ⟨_, _, _, hif'⟩, hst⟩ (by rw [q2]; exact h6) q1 q3 (by rw [hsl]; exact k2_hasslot (q4 k hk)) rfl rfl d fin1
  | true =>
    unfold u_lay at hlay
    rw [if_pos e4] at hlay
    have hcf : m.cls = cf := by
      obtain ⟨_, _, c', _, _, _, -, -, hf', -, -, -, hown2, -⟩ := Cond.laysFinal_spec hlay
      have e9 : c' = cf := by have := hif.symm.trans hf'; simp at this; exact this.1.symm
      rw [e1] at hown2
      rw [← e9]; exact Option.some.inj (hown.symm.trans hown2)
    have h6 := u_fits hfc hkC hkind (Or.inr hlay) hif (hty k hk) hn hf
    exact W.putFinK hx hb hown hlnk hif' hst hcf hname (by rw [q2]; exact h6) q1 q3 (by rw [hsl]; exact k2_hasslot (q4 k hk)) rfl rfl d fin1
theorem ch_get {C fn fd : String} {T : u_T} {N ci index j k : Nat} {fs : List Value} {v : Value} (b : BB p s m args c own cc nL Z) (hH : CHp (zD Z) B H0 n E H) (hj : j < n) (he : E j = .inr (ci, fs)) (hc : cls[ci]? = some (C, T, N)) (hin : ∀ w ∈ u_ws C T N, w ∈ lw_good) (hk : k < N) (hT : T k = (C, fn, fd, (T k).2.2.2)) (hv : fs[k]? = some v) (hln : Cond.fieldLink own index C fn fd ∈ lw_good) (d : decode cc pc = .ok (.getfield index, 3))
    (kk : W p l e R s m args below meth c H locs cells slots Q (F0 m (pc + 3) ls (v :: rest))) : W p l e R s m args below meth c H locs cells slots Q (F0 m pc ls (.ref (B + j) :: rest)) := by
  obtain ⟨hx, hb, hown, hts, hK, -⟩ := b
  have hat := hH.2.2.2 j hj
  rw [he] at hat
  have h1 : (T k).1 = C := by rw [hT]
  have h2 : (T k).2.1 = fn := by rw [hT]
  have h3 : (T k).2.2.1 = fd := by rw [hT]
  exact va_get (C := C) (T := T) (N := N) (ci := ci) (Ts := lw_good) hx hb hts hin hown hK.1.1 (va_P1 hat) 0 rfl hc k hk (ref := C) (by rw [h2, h3]; exact hts _ hln) (fun x hx => by rw [h1] at hx; exact hx) hv d kk
/-- an object of ours into an array of references -/
theorem ch_aast {j j2 t0 ci N' : Nat} {cA : ClassId} {r : vw_C} {vs : List Value} {f : Nat → Option Nat} {x x' : Int} (b : BB p s m args c own cc nL Z) (hH : CHp (zD Z) B H0 n E H) (hj : j < n) (he : E j = .inl (cA, N', .inr (.inr (.inr (.inr f))))) (hj2 : j2 < n) (he2 : E j2 = .inr (ci, vs)) (hc : cls[ci]? = some r) (ht : (tysOf Z)[t0]? = some (cA, .object r.1)) (hx' : w32 x = x') (hin : 0 ≤ x' ∧ x' < (N' : Int)) (hlo : ∀ q ∈ locs, zN Z q.base) (hzB : zB Z ≤ B) (d : decode cc pc = .ok (.aastore, 1))
    (kk : ∀ (H1 : Heap) (locs1 : List Loc), CHp (zD Z) B H0 n (uE E j (.inl (cA, N', .inr (.inr (.inr (.inr (va_up f x'.toNat (some (B + j2)))))))) ) H1 → (∀ q ∈ locs1, zN Z q.base) → W p l e R s m args below meth c H1 locs1 cells slots Q (F0 m (pc + 1) ls rest)) : W p l e R s m args below meth c H locs cells slots Q (F0 m pc ls (.ref (B + j2) :: vi x :: .ref (B + j) :: rest)) := by
  obtain ⟨hxx, hb, hown, hts, hK, -⟩ := b
  have hi : vp_in (Int32.ofInt x) N' := w_in hx' hin (by omega)
  have hlt : (Int32.ofInt x).toNatClampNeg < N' := Nat.not_le.mp fun q => hi (Or.inr q)
  have h0 : ¬ Int32.ofInt x < 0 := fun q => hi (Or.inl q)
  have hat := hH.2.2.2 j hj
  rw [he] at hat
  have hat : H[B + j]? = some (vp_cell cA (N', .inr (.inr (.inr (.inr f))))) := hat
  have hat2 := hH.2.2.2 j2 hj2
  rw [he2] at hat2
  obtain ⟨r', hr', cellV, g1, g2, g3, -⟩ := hat2
  have hcls := (hK.1.1.1 ci r hc).2
  obtain ⟨kA, comp, k1, k2, k3, -⟩ := (hK.1.1.2 t0 _ ht).2
  have hcomp : comp = (zD Z).1 ci := Option.some.inj (k3.symm.trans hcls.1)
  subst hcomp
  obtain ⟨kC, hkC, -⟩ := hcls.2
  refine W.aast hxx hb hat (fun q h => by cases h) (fun h => by cases h) k1 k2 rfl hkC ⟨h0, by show _ < (arrV _ _ _).slots.size; rw [arrV_size]; exact hlt⟩ g1 (fun q h => by rw [g3] at h; cases h) (by rw [g2]; exact hkC) (by rw [g2]; exact va_assign hcls) rfl rfl d fun H1 e1 z oq => ?_
  refine kk H1 _ (hH.upd z oq ?_) (locs_put hlo (by omega))
  show H1[B + j]? = some (vp_cell _ _)
  rw [e1, vp_cell_q, vp_cell_q, arrV_store, w_nat hx']
  congr 2
  funext q
  by_cases hq : q = x'.toNat
  · subst hq; simp [updV, va_up, va_rf]
  · simp [updV, va_up, hq]
/-- a word into the script's array -/
theorem ch_wast {j w N' : Nat} {f : Nat → Option Nat} {x x' : Int} (b : BB p s m args c own cc nL Z) (hZ : zB Z = B ∧ zH Z = H0) (hH : CHp (zD Z) B H0 n E H) (hj : j < n) (he : E j = .inl (zC Z 6, N', .inr (.inr (.inr (.inr f))))) (hw : w < 15) (hx' : w32 x = x') (hin : 0 ≤ x' ∧ x' < (N' : Int)) (hlo : ∀ q ∈ locs, zN Z q.base) (d : decode cc pc = .ok (.aastore, 1))
    (kk : ∀ (H1 : Heap) (locs1 : List Loc), CHp (zD Z) B H0 n (uE E j (.inl (zC Z 6, N', .inr (.inr (.inr (.inr (va_up f x'.toNat (some (zA Z 11 w)))))))) ) H1 → (∀ q ∈ locs1, zN Z q.base) → W p l e R s m args below meth c H1 locs1 cells slots Q (F0 m (pc + 1) ls rest)) : W p l e R s m args below meth c H locs cells slots Q (F0 m pc ls (vr Z 11 w :: vi x :: .ref (B + j) :: rest)) := by
  obtain ⟨hxx, hb, hown, hts, hK, -⟩ := b
  have hi : vp_in (Int32.ofInt x) N' := w_in hx' hin (by omega)
  have hlt : (Int32.ofInt x).toNatClampNeg < N' := Nat.not_le.mp fun q => hi (Or.inr q)
  have h0 : ¬ Int32.ofInt x < 0 := fun q => hi (Or.inl q)
  have hat := hH.2.2.2 j hj
  rw [he] at hat
  have hat : H[B + j]? = some (vp_cell (zC Z 6) (N', .inr (.inr (.inr (.inr f))))) := hat
  have hold : ∀ a : Nat, a < (zH Z).size → ¬ zN Z a → H[a]? = (zH Z)[a]? := fun a h1 h2 => by rw [hZ.2]; exact hH.2.2.1 a (by rw [← hZ.1]; exact Nat.not_le.mp h2)
  obtain ⟨cellV, g1, g2, g3, -⟩ := (hK.1.2.1.1 w hw).2.1.kept hold
  obtain ⟨kA, comp, k1', k2, k3, -⟩ := (hK.1.1.2 6 _ rfl).2
  obtain ⟨kC, hkC, -⟩ := Vm.findClass_spec k3
  have e9 : comp = cellV.cls := Option.some.inj (k3.symm.trans g3)
  refine W.aast hxx hb hat (fun q h => by cases h) (fun h => by cases h) k1' k2 rfl hkC ⟨h0, by show _ < (arrV _ _ _).slots.size; rw [arrV_size]; exact hlt⟩ g1 (fun q h => by rw [h] at g2; cases g2) (by rw [← e9]; exact hkC) (vb_asgS comp cellV.cls k3 g3) rfl rfl d fun H1 e1 z oq => ?_
  refine kk H1 _ (hH.upd z oq ?_) (locs_put hlo (by rw [hZ.1]; omega))
  show H1[B + j]? = some (vp_cell _ _)
  rw [e1, vp_cell_q, vp_cell_q, arrV_store, w_nat hx']
  congr 2
  funext q
  by_cases hq : q = x'.toNat
  · subst hq; simp [updV, va_up, va_rf]
  · simp [updV, va_up, hq]
theorem ch_gets {C fn fd : String} {v : Value} {index : Nat} (b : BB p s m args c own cc nL Z) (hZ : zB Z = B ∧ zH Z = H0) (hH : CHp (zD Z) B H0 n E H) (hS : ∀ U : State, Sta Z U → va_Z C fn fd v (zN Z) U (zH Z)) (hln : Cond.fieldLink own index C fn fd ∈ lw_good) (d : decode cc pc = .ok (.getstatic index, 3)) (kk : W p l e R s m args below meth c H locs cells slots Q (F0 m (pc + 3) ls (v :: rest))) : W p l e R s m args below meth c H locs cells slots Q (F0 m pc ls rest) := by
  obtain ⟨hxx, hb, hown, hts, hK, -⟩ := b
  have hold : ∀ a : Nat, a < (zH Z).size → ¬ zN Z a → H[a]? = (zH Z)[a]? := fun a h1 h2 => by rw [hZ.2]; exact hH.2.2.1 a (by rw [← hZ.1]; exact Nat.not_le.mp h2)
  obtain ⟨cf, kf, fi, f, a, cell, h1, h2, h3, h4, h5, h6, h7, h8⟩ := (hS _ hK.1.2).kept hold
  exact W.gets hxx hb hown (hts _ hln) h1 h2 h3 h4 h5 (fun e => by rw [e] at h6; cases h6) h7 rfl d kk
/-- an int into an array of ours -/
theorem ch_iast {j N' : Nat} {f : Nat → Int} {x x' v : Int} (b : BB p s m args c own cc nL Z) (hH : CHp (zD Z) B H0 n E H) (hj : j < n) (he : E j = arI (zC Z 0) N' f) (hx' : w32 x = x') (hin : 0 ≤ x' ∧ x' < (N' : Int)) (hlo : ∀ q ∈ locs, zN Z q.base) (hzB : zB Z ≤ B) (d : decode cc pc = .ok (.iastore, 1))
    (kk : ∀ (H1 : Heap) (locs1 : List Loc), CHp (zD Z) B H0 n (uE E j (arI (zC Z 0) N' (fun q => if q = x'.toNat then v else f q))) H1 → (∀ q ∈ locs1, zN Z q.base) → W p l e R s m args below meth c H1 locs1 cells slots Q (F0 m (pc + 1) ls rest)) : W p l e R s m args below meth c H locs cells slots Q (F0 m pc ls (vi v :: vi x :: .ref (B + j) :: rest)) := by
  obtain ⟨hxx, hb, hown, hts, hK, -⟩ := b
  have hi : vp_in (Int32.ofInt x) N' := w_in hx' hin (by omega)
  have hat := hH.2.2.2 j hj
  rw [he] at hat
  have hat : H[B + j]? = some (vp_cell (zC Z 0) (N', .inl fun j => Int32.ofInt (f j))) := hat
  refine W.iast hxx hb hat ((hK.1.1.2 0 _ rfl).1 N' (fun j => .int (Int32.ofInt (f j)))) (fun q => by cases q) (by show ¬ (_ < 0 ∨ (arrV _ _ _).slots.size ≤ _); rw [arrV_size]; exact hi) rfl rfl d fun H1 e1 z oq => ?_
  refine kk H1 _ (hH.upd z oq ?_) (locs_put hlo (by omega))
  show H1[B + j]? = some (vp_cell _ _)
  rw [e1, vp_cell_i, vp_cell_i, arrV_store, w_nat hx']
  congr 2
  funext q
  by_cases hq : q = x'.toNat
  · subst hq; simp [updV]
  · simp [updV, hq]
theorem ch_obj {index a : Nat} (b : BB p s m args c own cc nL Z) (hl : ls.size = nL) (hln : Cond.methodLink own index objectInit ∈ lw_good) (hfr : 1 ≤ R.frames) (hloc : (rest.map fun v => v.category).sum + 12 ≤ R.locals) (d : decode cc pc = .ok (.invokespecial index, 3))
    (kk : W p l e R s m args below meth c H locs cells slots Q (F0 m (pc + 3) ls rest)) : W p l e R s m args below meth c H locs cells slots Q (F0 m pc ls (.ref a :: rest)) := by
  obtain ⟨hxx, hb, hown, hts, hK, hml⟩ := b
  refine W.objInit hxx hb hown (hts _ hln) (hts _ (li_1 36 (by decide +kernel) (by decide +kernel))) (hts _ (li_1 37 (by decide +kernel) (by decide +kernel))) rfl (hl.trans hml.symm) rfl d hfr (by show 2 * 0 + _ + 12 ≤ _; omega) ?_
  exact W.eq (g2 := F0 m (pc + 3) ls rest) rfl kk
theorem ch_call {y' : MethodName} {cc' : ByteArray} {maxL' h' index nA a mc ms : Nat} {As st : List Value} {pre post : Heap → Prop} (b : BB p s m args c own cc nL Z) (hl : ls.size = nL) (hM : RunsC Z y' cc' maxL' h' (.ref a :: As) mc ms pre post) (hpre : pre H) (hfl : l.stackTraces = false) (hcode : Cond.code y' cc' maxL' none ∈ lw_good) (hlink : Cond.methodLink own index y' ∈ lw_good) (hinst : Cond.instanceMethod y' ∈ lw_good) (hini : Cond.initialized y'.cls ∈ lw_good) (hy : y'.name = "<init>")
    (hd : y'.cls ≠ "java/lang/invoke/MethodHandle" ∧ y'.cls ≠ "java/lang/invoke/VarHandle" ∧ (parseMethodDescriptor y'.desc).map (fun d => d.parameters.length) = some nA) (hn : As.length = nA) (hst : st = As.reverse ++ .ref a :: rest) (hR : h' + 1 ≤ R.frames ∧ 8 + (maxL' + 11) + 35 * h' ≤ R.locals) (hw : (rest.map fun v => v.category).sum ≤ 8) (hf : cells + mc ≤ R.cells ∧ slots + ms ≤ R.slots) (hlo : ∀ q ∈ locs, zN Z q.base) (d : decode cc pc = .ok (.invokespecial index, 3))
    (kk : ∀ (H1 : Heap) (locs1 : List Loc), post H1 → (∀ q ∈ locs1, zN Z q.base) → W p l e R s m args below meth c H1 locs1 (cells + mc) (slots + ms) Q (F0 m (pc + 3) ls rest)) : W p l e R s m args below meth c H locs cells slots Q (F0 m pc ls st) := by
  obtain ⟨hxx, hb, hown, hts, hK, hml⟩ := b
  have hr := va_runI (cc := cc) (nL := nL) (Ts := lw_good) (own := own) (As := As) (rest := rest) (H := H) (locs := locs) (cells := cells) (slots := slots) (e := e) (below := below) (meth := meth) (b := a) (g := F0 m pc ls st) ⟨hxx, hb, hml, hown, hts⟩ (hM l hfl) (cwI nA hts (goodAll hcode) rfl rfl rfl (hts _ hini) (hts _ hlink) (hts _ hinst) hy hd hR) ⟨fun a U g mk q => ⟨q.1, q.2.1, KC.same (s := U) (U := U.calling g mk a) rfl q.2.2⟩, fun U hU hW => ⟨rfl, by rw [hU]; exact hpre, hK.warm hW⟩⟩ rfl hn hl hst (lv_room hw) d hf
  intro T hT X
  obtain ⟨v, st₀, t, T', L, h0, X', hL, e1, e2, ⟨hv, hh⟩, st⟩ := hr T hT X
  cases hv
  obtain ⟨t2, a1, b1⟩ := kk T'.heap (locs ++ L) (by rw [e1]; exact hh) (fun q hq => by
    rcases List.mem_append.mp hq with h | h
    · exact hlo q h
    · exact hL q h) T' rfl X'
  exact ⟨t2, st t2 a1, b1⟩
theorem ch_callN {y' : MethodName} {cc' : ByteArray} {maxL' h' index nA a mc ms : Nat} {As st : List Value} {pre post : Heap → Prop} (b : BB p s m args c own cc nL Z) (hl : ls.size = nL) (hM : RunsC Z y' cc' maxL' h' (.ref a :: As) mc ms pre post) (hpre : pre H) (hfl : l.stackTraces = false) (hcode : Cond.code y' cc' maxL' none ∈ lw_good) {host : String} (hlink : Cond.methodLinkNest own index y' host ∈ lw_nw) (hinst : Cond.instanceMethod y' ∈ lw_good) (hini : Cond.initialized y'.cls ∈ lw_good) (hy : y'.name = "<init>")
    (hd : y'.cls ≠ "java/lang/invoke/MethodHandle" ∧ y'.cls ≠ "java/lang/invoke/VarHandle" ∧ (parseMethodDescriptor y'.desc).map (fun d => d.parameters.length) = some nA) (hn : As.length = nA) (hst : st = As.reverse ++ .ref a :: rest) (hR : h' + 1 ≤ R.frames ∧ 8 + (maxL' + 11) + 35 * h' ≤ R.locals) (hw : (rest.map fun v => v.category).sum ≤ 8) (hf : cells + mc ≤ R.cells ∧ slots + ms ≤ R.slots) (hlo : ∀ q ∈ locs, zN Z q.base) (d : decode cc pc = .ok (.invokespecial index, 3))
    (kk : ∀ (H1 : Heap) (locs1 : List Loc), post H1 → (∀ q ∈ locs1, zN Z q.base) → W p l e R s m args below meth c H1 locs1 (cells + mc) (slots + ms) Q (F0 m (pc + 3) ls rest)) : W p l e R s m args below meth c H locs cells slots Q (F0 m pc ls st) := by
  obtain ⟨hxx, hb, hown, hts, hK, hml⟩ := b
  have hr := va_runIN (cc := cc) (host := host) (nL := nL) (Ts := lw_good) (own := own) (As := As) (rest := rest) (H := H) (locs := locs) (cells := cells) (slots := slots) (e := e) (below := below) (meth := meth) (b := a) (g := F0 m pc ls st) ⟨hxx, hb, hml, hown, hts⟩ (hM l hfl) ⟨va_cnB nA hts (goodAll hcode) rfl rfl rfl (hK.1.2.2.2.2.2.2.2.2.2.2 _ hlink) (hts _ hini) hd hR, hy, hts _ hinst⟩ ⟨fun a U g mk q => ⟨q.1, q.2.1, KC.same (s := U) (U := U.calling g mk a) rfl q.2.2⟩, fun U hU hW => ⟨rfl, by rw [hU]; exact hpre, hK.warm hW⟩⟩ rfl hn hl hst (lv_room hw) d hf
  intro T hT X
  obtain ⟨v, st₀, t, T', L, h0, X', hL, e1, e2, ⟨hv, hh⟩, st⟩ := hr T hT X
  cases hv
  obtain ⟨t2, a1, b1⟩ := kk T'.heap (locs ++ L) (by rw [e1]; exact hh) (fun q hq => by
    rcases List.mem_append.mp hq with h | h
    · exact hlo q h
    · exact hL q h) T' rfl X'
  exact ⟨t2, st t2 a1, b1⟩
end CHR
/-- a constructor's entry -/
theorem RunsC.of {Z : ZT} {y : MethodName} {cc : ByteArray} {maxL h : Nat} {av : List Value} {mc ms : Nat} {pre post : Heap → Prop} (hy : (plainName y.cls) = true) (hname : y.name = "<init>") (hlen : (lg_sl av).length ≤ maxL)
    (k : ∀ (p : Program) (l : Launch) (e : Env) (s : State) (m : MethodId) (args : Array Value) (below : List Frame) (meth : Method) (c : Code) (ls : Array Slot), l.stackTraces = false → BB p s m args c y.cls cc maxL Z → pre s.heap → meth.sig.returnType = none → meth.locks = false → meth.name = "<init>" → lv_has ls maxL (lv_args 0 av) → W p l e (rmH h mc ms) s m args below meth c s.heap [] 0 0 (MQ below (QcC post) args s mc ms (zN Z)) (F0 m 0 ls [])) : RunsC Z y cc maxL h av mc ms pre post := by
  intro l hfl
  refine Met.ofW (cc := cc) (maxL := maxL) (ret := none) hy rfl ?_
  intro p e s m args below meth c s₁ B hml hv
  obtain ⟨rfl, hH, hKK⟩ := hv
  have hts : ∀ w ∈ lw_good, w.before av.toArray s = true := fun w hw => atoms_spec (ws := wsAll y cc maxL none) B.pre w (List.mem_cons_of_mem _ hw)
  have hown := findClass_of_methodNamed B.named
  have hl := lv_entry av (n := maxL) hlen
  rw [lg_entry_eq]
  exact k p l e s m av.toArray below meth c _ hfl ⟨B.exec, B.bytes, hown, hts, hKK, hml⟩ hH B.returns B.notSynchronized ((name_of_methodNamed B.named B.method).1.trans hname) hl
theorem ch_ret {p : Program} {l : Launch} {e : Env} {R : Room} {s : State} {m : MethodId} {args : Array Value} {below : List Frame} {meth : Method} {c : Code} {H : Heap} {locs : List Loc} {cells slots mc ms : Nat} {cc : ByteArray} {pc nL : Nat} {ls : Array Slot} {own : String} {Z : ZT} {post : Heap → Prop} (b : BB p s m args c own cc nL Z) (hr : meth.sig.returnType = none) (hlocks : meth.locks = false) (hlo : ∀ q ∈ locs, zN Z q.base) (hp : post H) (h1 : cells ≤ mc) (h2 : slots ≤ ms) (d : decode cc pc = .ok (.return_, 1)) : W p l e R s m args below meth c H locs cells slots (MQ below (QcC post) args s mc ms (zN Z)) (F0 m pc ls []) := by
  refine W.widen h1 h2 ?_
  exact W.vret (hlocks := hlocks) b.1 b.2.1 hr (fun t ht _ => ⟨rfl, by rw [ht]; exact hp⟩) hlo d
end
section
/-! ===== the constructors, by program ===== -/
def E_RX5 (Z : ZT) (B n j : Nat) (E : Nat → va_E) : Nat → va_E := uE (uE E (n) (arI (zC Z 0) 0 (fun _ => 0))) (j) (.inr (2, [.ref (B + (n)), vi 0]))
theorem E_RX5_old {Z : ZT} {B n j q : Nat} {E : Nat → va_E} (h1 : q ≠ j) (h2 : q < n) : E_RX5 Z B n j E q = E q := by
  unfold E_RX5
  simp only [uE_ne h1, uE]
  repeat (rw [if_neg (by omega)])
set_option maxRecDepth 20000 in
set_option maxHeartbeats 4000000 in
theorem C_RX5 (Z : ZT) (B : Nat) (H0 : Heap) (n j : Nat) (E : Nat → va_E) (hzB : zB Z ≤ B) (hj : j < n) (h_j : E j = .inr (2, [.null, vi 0])) : RunsC Z yX5_init cX5_init 1 1 [.ref (B + j)] 1 0 (CHp (zD Z) B H0 n E) (CHp (zD Z) B H0 (n + 1) (E_RX5 Z B n j E)) := by
  refine RunsC.of (by decide +kernel) rfl (Nat.le_of_ble_eq_true rfl) ?_
  intro p l e s m args below meth c ls hfl b hH hr hlk hnm hl
  have hl : lv_has ls 1 [(0, .ref (B + j))] := hl
  have b : BB p s m args c RX5 cX5_init 1 Z := b
  obtain ⟨H, eH⟩ : ∃ z, z = s.heap := ⟨_, rfl⟩
  rw [← eH] at hH ⊢
  have hlo : ∀ q ∈ ([] : List Loc), zN Z q.base := fun q hq => by cases hq
  refine lv_aload_n b.1 b.2.1 dX5_init_0 rfl (lv_at hl 0 rfl) ?_
  refine ch_obj b hl.1 (li_1 49 (by decide +kernel) (by decide +kernel)) (Nat.le_of_ble_eq_true rfl) (Nat.le_of_ble_eq_true rfl) dX5_init_1 ?_
  refine lv_aload_n b.1 b.2.1 dX5_init_4 rfl (lv_at hl 0 rfl) ?_
  refine lv_iconst (v := Int32.ofInt 0) b.1 b.2.1 dX5_init_5 rfl ?_
  refine ch_newa (atype := .int) (ty := .int) (cA := zC Z 0) (t0 := 0) (N' := 0) b hH (li_1 57 (by decide +kernel) (by decide +kernel)) rfl rfl (fun _ h => h) rfl (by decide) (Nat.le_of_ble_eq_true rfl) (show _ ≤ (1 : Nat) by omega) (show _ ≤ (0 : Nat) by omega) dX5_init_6 (fun H hH => ?_)
  obtain ⟨E1, e1, hH⟩ : ∃ z, z = uE E (n) (arI (zC Z 0) 0 (fun _ => 0)) ∧ CHp (zD Z) B H0 (n + 1) z H := ⟨_, rfl, hH⟩
  have h_j : E1 (j) = .inr (2, [.null, vi 0]) := by rw [e1]; exact (uE_ne (by omega)).trans h_j
  refine ch_putG (k := 0) (j := j) (ty0 := tyX5) (fin := false) b hH (by omega) h_j rfl in_2 tyX5_ok nmX5 (by decide) rfl (Nat.le_of_ble_eq_true rfl) rfl rfl hnm rfl hlo hzB (li_1 50 (by decide +kernel) (by decide +kernel)) dX5_init_8 (fun H locs hH hlo => ?_)
  obtain ⟨E2, e2, hH⟩ : ∃ z, z = uE E1 (j) (.inr (2, [.ref (B + (n)), vi 0])) ∧ CHp (zD Z) B H0 (n + 1) z H := ⟨_, rfl, hH⟩
  have h_j : E2 (j) = .inr (2, [.ref (B + (n)), vi 0]) := by rw [e2]; exact uE_self _ _ _
  refine ch_ret b hr hlk hlo ?_ (show _ ≤ (1 : Nat) by omega) (show _ ≤ (0 : Nat) by omega) dX5_init_11
  subst e1 e2
  exact hH
theorem E_RX5_self {Z : ZT} {B n j : Nat} {E : Nat → va_E} : E_RX5 Z B n j E j = .inr (2, [.ref (B + (n)), vi 0]) := uE_self _ _ _
def E_RX8 (Z : ZT) (B n j : Nat) (E : Nat → va_E) : Nat → va_E := uE (uE E (n) (arI (zC Z 0) 600 (fun _ => 0))) (j) (.inr (6, [.ref (B + (n)), vi 0, vi 0, vi 0, vi 0, vi 0, vi 0, vi 0]))
theorem E_RX8_old {Z : ZT} {B n j q : Nat} {E : Nat → va_E} (h1 : q ≠ j) (h2 : q < n) : E_RX8 Z B n j E q = E q := by
  unfold E_RX8
  simp only [uE_ne h1, uE]
  repeat (rw [if_neg (by omega)])
set_option maxRecDepth 20000 in
set_option maxHeartbeats 4000000 in
theorem C_RX8 (Z : ZT) (B : Nat) (H0 : Heap) (n j : Nat) (E : Nat → va_E) (hzB : zB Z ≤ B) (hj : j < n) (h_j : E j = .inr (6, [.null, vi 0, vi 0, vi 0, vi 0, vi 0, vi 0, vi 0])) : RunsC Z yX8_init cX8_init 1 1 [.ref (B + j)] 1 600 (CHp (zD Z) B H0 n E) (CHp (zD Z) B H0 (n + 1) (E_RX8 Z B n j E)) := by
  refine RunsC.of (by decide +kernel) rfl (Nat.le_of_ble_eq_true rfl) ?_
  intro p l e s m args below meth c ls hfl b hH hr hlk hnm hl
  have hl : lv_has ls 1 [(0, .ref (B + j))] := hl
  have b : BB p s m args c RX8 cX8_init 1 Z := b
  obtain ⟨H, eH⟩ : ∃ z, z = s.heap := ⟨_, rfl⟩
  rw [← eH] at hH ⊢
  have hlo : ∀ q ∈ ([] : List Loc), zN Z q.base := fun q hq => by cases hq
  refine lv_aload_n b.1 b.2.1 dX8_init_0 rfl (lv_at hl 0 rfl) ?_
  refine ch_obj b hl.1 (li_1 176 (by decide +kernel) (by decide +kernel)) (Nat.le_of_ble_eq_true rfl) (Nat.le_of_ble_eq_true rfl) dX8_init_1 ?_
  refine lv_aload_n b.1 b.2.1 dX8_init_4 rfl (lv_at hl 0 rfl) ?_
  refine lv_sipush (v := Int32.ofInt 600) b.1 b.2.1 dX8_init_5 (by decide) ?_
  refine ch_newa (atype := .int) (ty := .int) (cA := zC Z 0) (t0 := 0) (N' := 600) b hH (li_1 57 (by decide +kernel) (by decide +kernel)) rfl rfl (fun _ h => h) rfl (by decide) (Nat.le_of_ble_eq_true rfl) (show _ ≤ (1 : Nat) by omega) (show _ ≤ (600 : Nat) by omega) dX8_init_8 (fun H hH => ?_)
  obtain ⟨E1, e1, hH⟩ : ∃ z, z = uE E (n) (arI (zC Z 0) 600 (fun _ => 0)) ∧ CHp (zD Z) B H0 (n + 1) z H := ⟨_, rfl, hH⟩
  have h_j : E1 (j) = .inr (6, [.null, vi 0, vi 0, vi 0, vi 0, vi 0, vi 0, vi 0]) := by rw [e1]; exact (uE_ne (by omega)).trans h_j
  refine ch_putG (k := 0) (j := j) (ty0 := tyX8) (fin := true) b hH (by omega) h_j rfl in_6 tyX8_ok nmX8 (by decide) rfl (Nat.le_of_ble_eq_true rfl) rfl rfl hnm rfl hlo hzB (li_1 177 (by decide +kernel) (by decide +kernel)) dX8_init_10 (fun H locs hH hlo => ?_)
  obtain ⟨E2, e2, hH⟩ : ∃ z, z = uE E1 (j) (.inr (6, [.ref (B + (n)), vi 0, vi 0, vi 0, vi 0, vi 0, vi 0, vi 0])) ∧ CHp (zD Z) B H0 (n + 1) z H := ⟨_, rfl, hH⟩
  have h_j : E2 (j) = .inr (6, [.ref (B + (n)), vi 0, vi 0, vi 0, vi 0, vi 0, vi 0, vi 0]) := by rw [e2]; exact uE_self _ _ _
  refine ch_ret b hr hlk hlo ?_ (show _ ≤ (1 : Nat) by omega) (show _ ≤ (600 : Nat) by omega) dX8_init_13
  subst e1 e2
  exact hH
def E_RX4 (Z : ZT) (B n j : Nat) (E : Nat → va_E) : Nat → va_E := uE (uE E (n) (arI (zC Z 2) 64 (fun _ => 0))) (j) (.inr (10, [.ref (B + (n)), vi 0]))
theorem E_RX4_old {Z : ZT} {B n j q : Nat} {E : Nat → va_E} (h1 : q ≠ j) (h2 : q < n) : E_RX4 Z B n j E q = E q := by
  unfold E_RX4
  simp only [uE_ne h1, uE]
  repeat (rw [if_neg (by omega)])
set_option maxRecDepth 20000 in
set_option maxHeartbeats 4000000 in
theorem C_RX4 (Z : ZT) (B : Nat) (H0 : Heap) (n j : Nat) (E : Nat → va_E) (hzB : zB Z ≤ B) (hj : j < n) (h_j : E j = .inr (10, [.null, vi 0])) : RunsC Z yX4_init cX4_init 1 1 [.ref (B + j)] 1 64 (CHp (zD Z) B H0 n E) (CHp (zD Z) B H0 (n + 1) (E_RX4 Z B n j E)) := by
  refine RunsC.of (by decide +kernel) rfl (Nat.le_of_ble_eq_true rfl) ?_
  intro p l e s m args below meth c ls hfl b hH hr hlk hnm hl
  have hl : lv_has ls 1 [(0, .ref (B + j))] := hl
  have b : BB p s m args c RX4 cX4_init 1 Z := b
  obtain ⟨H, eH⟩ : ∃ z, z = s.heap := ⟨_, rfl⟩
  rw [← eH] at hH ⊢
  have hlo : ∀ q ∈ ([] : List Loc), zN Z q.base := fun q hq => by cases hq
  refine lv_aload_n b.1 b.2.1 dX4_init_0 rfl (lv_at hl 0 rfl) ?_
  refine ch_obj b hl.1 (li_2 65 (by decide +kernel) (by decide +kernel)) (Nat.le_of_ble_eq_true rfl) (Nat.le_of_ble_eq_true rfl) dX4_init_1 ?_
  refine lv_aload_n b.1 b.2.1 dX4_init_4 rfl (lv_at hl 0 rfl) ?_
  refine lv_bipush (v := Int32.ofInt 64) b.1 b.2.1 dX4_init_5 (by decide) ?_
  refine ch_newa (atype := .byte) (ty := .byte) (cA := zC Z 2) (t0 := 2) (N' := 64) b hH (li_2 73 (by decide +kernel) (by decide +kernel)) rfl rfl (fun _ h => h) rfl (by decide) (Nat.le_of_ble_eq_true rfl) (show _ ≤ (1 : Nat) by omega) (show _ ≤ (64 : Nat) by omega) dX4_init_7 (fun H hH => ?_)
  obtain ⟨E1, e1, hH⟩ : ∃ z, z = uE E (n) (arI (zC Z 2) 64 (fun _ => 0)) ∧ CHp (zD Z) B H0 (n + 1) z H := ⟨_, rfl, hH⟩
  have h_j : E1 (j) = .inr (10, [.null, vi 0]) := by rw [e1]; exact (uE_ne (by omega)).trans h_j
  refine ch_putG (k := 0) (j := j) (ty0 := tyX4) (fin := false) b hH (by omega) h_j rfl in_10 tyX4_ok nmX4 (by decide) rfl (Nat.le_of_ble_eq_true rfl) rfl rfl hnm rfl hlo hzB (li_2 66 (by decide +kernel) (by decide +kernel)) dX4_init_9 (fun H locs hH hlo => ?_)
  obtain ⟨E2, e2, hH⟩ : ∃ z, z = uE E1 (j) (.inr (10, [.ref (B + (n)), vi 0])) ∧ CHp (zD Z) B H0 (n + 1) z H := ⟨_, rfl, hH⟩
  have h_j : E2 (j) = .inr (10, [.ref (B + (n)), vi 0]) := by rw [e2]; exact uE_self _ _ _
  refine ch_ret b hr hlk hlo ?_ (show _ ≤ (1 : Nat) by omega) (show _ ≤ (64 : Nat) by omega) dX4_init_12
  subst e1 e2
  exact hH
def E_RX10 (Z : ZT) (B n j : Nat) (E : Nat → va_E) : Nat → va_E := uE (uE (uE (uE (uE (uE (uE (uE (uE (uE (uE (uE E (n) (arI (zC Z 0) 40 (fun _ => 0))) (j) (.inr (5, [.ref (B + (n)), .null, .null, .null, .null, .null, vi 0, vi 0]))) (n + 1) (arI (zC Z 0) 40 (fun _ => 0))) (j) (.inr (5, [.ref (B + (n)), .ref (B + (n + 1)), .null, .null, .null, .null, vi 0, vi 0]))) (n + 2) (arI (zC Z 0) 40 (fun _ => 0))) (j) (.inr (5, [.ref (B + (n)), .ref (B + (n + 1)), .ref (B + (n + 2)), .null, .null, .null, vi 0, vi 0]))) (n + 3) (arI (zC Z 0) 400 (fun _ => 0))) (j) (.inr (5, [.ref (B + (n)), .ref (B + (n + 1)), .ref (B + (n + 2)), .ref (B + (n + 3)), .null, .null, vi 0, vi 0]))) (n + 4) (arI (zC Z 0) 41 (fun _ => 0))) (j) (.inr (5, [.ref (B + (n)), .ref (B + (n + 1)), .ref (B + (n + 2)), .ref (B + (n + 3)), .ref (B + (n + 4)), .null, vi 0, vi 0]))) (n + 5) (arI (zC Z 0) 41 (fun _ => 0))) (j) (.inr (5, [.ref (B + (n)), .ref (B + (n + 1)), .ref (B + (n + 2)), .ref (B + (n + 3)), .ref (B + (n + 4)), .ref (B + (n + 5)), vi 0, vi 0]))
theorem E_RX10_old {Z : ZT} {B n j q : Nat} {E : Nat → va_E} (h1 : q ≠ j) (h2 : q < n) : E_RX10 Z B n j E q = E q := by
  unfold E_RX10
  simp only [uE_ne h1, uE]
  repeat (rw [if_neg (by omega)])
set_option maxRecDepth 20000 in
set_option maxHeartbeats 4000000 in
theorem C_RX10 (Z : ZT) (B : Nat) (H0 : Heap) (n j : Nat) (E : Nat → va_E) (hzB : zB Z ≤ B) (hj : j < n) (h_j : E j = .inr (5, [.null, .null, .null, .null, .null, .null, vi 0, vi 0])) : RunsC Z yX10_init cX10_init 1 1 [.ref (B + j)] 6 602 (CHp (zD Z) B H0 n E) (CHp (zD Z) B H0 (n + 6) (E_RX10 Z B n j E)) := by
  refine RunsC.of (by decide +kernel) rfl (Nat.le_of_ble_eq_true rfl) ?_
  intro p l e s m args below meth c ls hfl b hH hr hlk hnm hl
  have hl : lv_has ls 1 [(0, .ref (B + j))] := hl
  have b : BB p s m args c RX10 cX10_init 1 Z := b
  obtain ⟨H, eH⟩ : ∃ z, z = s.heap := ⟨_, rfl⟩
  rw [← eH] at hH ⊢
  have hlo : ∀ q ∈ ([] : List Loc), zN Z q.base := fun q hq => by cases hq
  refine lv_aload_n b.1 b.2.1 dX10_init_0 rfl (lv_at hl 0 rfl) ?_
  refine ch_obj b hl.1 (li_1 145 (by decide +kernel) (by decide +kernel)) (Nat.le_of_ble_eq_true rfl) (Nat.le_of_ble_eq_true rfl) dX10_init_1 ?_
  refine lv_aload_n b.1 b.2.1 dX10_init_4 rfl (lv_at hl 0 rfl) ?_
  refine lv_bipush (v := Int32.ofInt 40) b.1 b.2.1 dX10_init_5 (by decide) ?_
  refine ch_newa (atype := .int) (ty := .int) (cA := zC Z 0) (t0 := 0) (N' := 40) b hH (li_1 57 (by decide +kernel) (by decide +kernel)) rfl rfl (fun _ h => h) rfl (by decide) (Nat.le_of_ble_eq_true rfl) (show _ ≤ (6 : Nat) by omega) (show _ ≤ (602 : Nat) by omega) dX10_init_7 (fun H hH => ?_)
  obtain ⟨E1, e1, hH⟩ : ∃ z, z = uE E (n) (arI (zC Z 0) 40 (fun _ => 0)) ∧ CHp (zD Z) B H0 (n + 1) z H := ⟨_, rfl, hH⟩
  have h_j : E1 (j) = .inr (5, [.null, .null, .null, .null, .null, .null, vi 0, vi 0]) := by rw [e1]; exact (uE_ne (by omega)).trans h_j
  refine ch_putG (k := 0) (j := j) (ty0 := tyX10) (fin := true) b hH (by omega) h_j rfl in_5 tyX10_ok nmX10 (by decide) rfl (Nat.le_of_ble_eq_true rfl) rfl rfl hnm rfl hlo hzB (li_1 146 (by decide +kernel) (by decide +kernel)) dX10_init_9 (fun H locs hH hlo => ?_)
  obtain ⟨E2, e2, hH⟩ : ∃ z, z = uE E1 (j) (.inr (5, [.ref (B + (n)), .null, .null, .null, .null, .null, vi 0, vi 0])) ∧ CHp (zD Z) B H0 (n + 1) z H := ⟨_, rfl, hH⟩
  have h_j : E2 (j) = .inr (5, [.ref (B + (n)), .null, .null, .null, .null, .null, vi 0, vi 0]) := by rw [e2]; exact uE_self _ _ _
  refine lv_aload_n b.1 b.2.1 dX10_init_12 rfl (lv_at hl 0 rfl) ?_
  refine lv_bipush (v := Int32.ofInt 40) b.1 b.2.1 dX10_init_13 (by decide) ?_
  refine ch_newa (atype := .int) (ty := .int) (cA := zC Z 0) (t0 := 0) (N' := 40) b hH (li_1 57 (by decide +kernel) (by decide +kernel)) rfl rfl (fun _ h => h) rfl (by decide) (Nat.le_of_ble_eq_true rfl) (show _ ≤ (6 : Nat) by omega) (show _ ≤ (602 : Nat) by omega) dX10_init_15 (fun H hH => ?_)
  obtain ⟨E3, e3, hH⟩ : ∃ z, z = uE E2 (n + 1) (arI (zC Z 0) 40 (fun _ => 0)) ∧ CHp (zD Z) B H0 (n + 2) z H := ⟨_, rfl, hH⟩
  have h_j : E3 (j) = .inr (5, [.ref (B + (n)), .null, .null, .null, .null, .null, vi 0, vi 0]) := by rw [e3]; exact (uE_ne (by omega)).trans h_j
  refine ch_putG (k := 1) (j := j) (ty0 := tyX10) (fin := true) b hH (by omega) h_j rfl in_5 tyX10_ok nmX10 (by decide) rfl (Nat.le_of_ble_eq_true rfl) rfl rfl hnm rfl hlo hzB (li_1 147 (by decide +kernel) (by decide +kernel)) dX10_init_17 (fun H locs hH hlo => ?_)
  obtain ⟨E4, e4, hH⟩ : ∃ z, z = uE E3 (j) (.inr (5, [.ref (B + (n)), .ref (B + (n + 1)), .null, .null, .null, .null, vi 0, vi 0])) ∧ CHp (zD Z) B H0 (n + 2) z H := ⟨_, rfl, hH⟩
  have h_j : E4 (j) = .inr (5, [.ref (B + (n)), .ref (B + (n + 1)), .null, .null, .null, .null, vi 0, vi 0]) := by rw [e4]; exact uE_self _ _ _
  refine lv_aload_n b.1 b.2.1 dX10_init_20 rfl (lv_at hl 0 rfl) ?_
  refine lv_bipush (v := Int32.ofInt 40) b.1 b.2.1 dX10_init_21 (by decide) ?_
  refine ch_newa (atype := .int) (ty := .int) (cA := zC Z 0) (t0 := 0) (N' := 40) b hH (li_1 57 (by decide +kernel) (by decide +kernel)) rfl rfl (fun _ h => h) rfl (by decide) (Nat.le_of_ble_eq_true rfl) (show _ ≤ (6 : Nat) by omega) (show _ ≤ (602 : Nat) by omega) dX10_init_23 (fun H hH => ?_)
  obtain ⟨E5, e5, hH⟩ : ∃ z, z = uE E4 (n + 2) (arI (zC Z 0) 40 (fun _ => 0)) ∧ CHp (zD Z) B H0 (n + 3) z H := ⟨_, rfl, hH⟩
  have h_j : E5 (j) = .inr (5, [.ref (B + (n)), .ref (B + (n + 1)), .null, .null, .null, .null, vi 0, vi 0]) := by rw [e5]; exact (uE_ne (by omega)).trans h_j
  refine ch_putG (k := 2) (j := j) (ty0 := tyX10) (fin := true) b hH (by omega) h_j rfl in_5 tyX10_ok nmX10 (by decide) rfl (Nat.le_of_ble_eq_true rfl) rfl rfl hnm rfl hlo hzB (li_1 148 (by decide +kernel) (by decide +kernel)) dX10_init_25 (fun H locs hH hlo => ?_)
  obtain ⟨E6, e6, hH⟩ : ∃ z, z = uE E5 (j) (.inr (5, [.ref (B + (n)), .ref (B + (n + 1)), .ref (B + (n + 2)), .null, .null, .null, vi 0, vi 0])) ∧ CHp (zD Z) B H0 (n + 3) z H := ⟨_, rfl, hH⟩
  have h_j : E6 (j) = .inr (5, [.ref (B + (n)), .ref (B + (n + 1)), .ref (B + (n + 2)), .null, .null, .null, vi 0, vi 0]) := by rw [e6]; exact uE_self _ _ _
  refine lv_aload_n b.1 b.2.1 dX10_init_28 rfl (lv_at hl 0 rfl) ?_
  refine lv_sipush (v := Int32.ofInt 400) b.1 b.2.1 dX10_init_29 (by decide) ?_
  refine ch_newa (atype := .int) (ty := .int) (cA := zC Z 0) (t0 := 0) (N' := 400) b hH (li_1 57 (by decide +kernel) (by decide +kernel)) rfl rfl (fun _ h => h) rfl (by decide) (Nat.le_of_ble_eq_true rfl) (show _ ≤ (6 : Nat) by omega) (show _ ≤ (602 : Nat) by omega) dX10_init_32 (fun H hH => ?_)
  obtain ⟨E7, e7, hH⟩ : ∃ z, z = uE E6 (n + 3) (arI (zC Z 0) 400 (fun _ => 0)) ∧ CHp (zD Z) B H0 (n + 4) z H := ⟨_, rfl, hH⟩
  have h_j : E7 (j) = .inr (5, [.ref (B + (n)), .ref (B + (n + 1)), .ref (B + (n + 2)), .null, .null, .null, vi 0, vi 0]) := by rw [e7]; exact (uE_ne (by omega)).trans h_j
  refine ch_putG (k := 3) (j := j) (ty0 := tyX10) (fin := true) b hH (by omega) h_j rfl in_5 tyX10_ok nmX10 (by decide) rfl (Nat.le_of_ble_eq_true rfl) rfl rfl hnm rfl hlo hzB (li_1 149 (by decide +kernel) (by decide +kernel)) dX10_init_34 (fun H locs hH hlo => ?_)
  obtain ⟨E8, e8, hH⟩ : ∃ z, z = uE E7 (j) (.inr (5, [.ref (B + (n)), .ref (B + (n + 1)), .ref (B + (n + 2)), .ref (B + (n + 3)), .null, .null, vi 0, vi 0])) ∧ CHp (zD Z) B H0 (n + 4) z H := ⟨_, rfl, hH⟩
  have h_j : E8 (j) = .inr (5, [.ref (B + (n)), .ref (B + (n + 1)), .ref (B + (n + 2)), .ref (B + (n + 3)), .null, .null, vi 0, vi 0]) := by rw [e8]; exact uE_self _ _ _
  refine lv_aload_n b.1 b.2.1 dX10_init_37 rfl (lv_at hl 0 rfl) ?_
  refine lv_bipush (v := Int32.ofInt 41) b.1 b.2.1 dX10_init_38 (by decide) ?_
  refine ch_newa (atype := .int) (ty := .int) (cA := zC Z 0) (t0 := 0) (N' := 41) b hH (li_1 57 (by decide +kernel) (by decide +kernel)) rfl rfl (fun _ h => h) rfl (by decide) (Nat.le_of_ble_eq_true rfl) (show _ ≤ (6 : Nat) by omega) (show _ ≤ (602 : Nat) by omega) dX10_init_40 (fun H hH => ?_)
  obtain ⟨E9, e9, hH⟩ : ∃ z, z = uE E8 (n + 4) (arI (zC Z 0) 41 (fun _ => 0)) ∧ CHp (zD Z) B H0 (n + 5) z H := ⟨_, rfl, hH⟩
  have h_j : E9 (j) = .inr (5, [.ref (B + (n)), .ref (B + (n + 1)), .ref (B + (n + 2)), .ref (B + (n + 3)), .null, .null, vi 0, vi 0]) := by rw [e9]; exact (uE_ne (by omega)).trans h_j
  refine ch_putG (k := 4) (j := j) (ty0 := tyX10) (fin := true) b hH (by omega) h_j rfl in_5 tyX10_ok nmX10 (by decide) rfl (Nat.le_of_ble_eq_true rfl) rfl rfl hnm rfl hlo hzB (li_1 150 (by decide +kernel) (by decide +kernel)) dX10_init_42 (fun H locs hH hlo => ?_)
  obtain ⟨E10, e10, hH⟩ : ∃ z, z = uE E9 (j) (.inr (5, [.ref (B + (n)), .ref (B + (n + 1)), .ref (B + (n + 2)), .ref (B + (n + 3)), .ref (B + (n + 4)), .null, vi 0, vi 0])) ∧ CHp (zD Z) B H0 (n + 5) z H := ⟨_, rfl, hH⟩
  have h_j : E10 (j) = .inr (5, [.ref (B + (n)), .ref (B + (n + 1)), .ref (B + (n + 2)), .ref (B + (n + 3)), .ref (B + (n + 4)), .null, vi 0, vi 0]) := by rw [e10]; exact uE_self _ _ _
  refine lv_aload_n b.1 b.2.1 dX10_init_45 rfl (lv_at hl 0 rfl) ?_
  refine lv_bipush (v := Int32.ofInt 41) b.1 b.2.1 dX10_init_46 (by decide) ?_
  refine ch_newa (atype := .int) (ty := .int) (cA := zC Z 0) (t0 := 0) (N' := 41) b hH (li_1 57 (by decide +kernel) (by decide +kernel)) rfl rfl (fun _ h => h) rfl (by decide) (Nat.le_of_ble_eq_true rfl) (show _ ≤ (6 : Nat) by omega) (show _ ≤ (602 : Nat) by omega) dX10_init_48 (fun H hH => ?_)
  obtain ⟨E11, e11, hH⟩ : ∃ z, z = uE E10 (n + 5) (arI (zC Z 0) 41 (fun _ => 0)) ∧ CHp (zD Z) B H0 (n + 6) z H := ⟨_, rfl, hH⟩
  have h_j : E11 (j) = .inr (5, [.ref (B + (n)), .ref (B + (n + 1)), .ref (B + (n + 2)), .ref (B + (n + 3)), .ref (B + (n + 4)), .null, vi 0, vi 0]) := by rw [e11]; exact (uE_ne (by omega)).trans h_j
  refine ch_putG (k := 5) (j := j) (ty0 := tyX10) (fin := true) b hH (by omega) h_j rfl in_5 tyX10_ok nmX10 (by decide) rfl (Nat.le_of_ble_eq_true rfl) rfl rfl hnm rfl hlo hzB (li_1 151 (by decide +kernel) (by decide +kernel)) dX10_init_50 (fun H locs hH hlo => ?_)
  obtain ⟨E12, e12, hH⟩ : ∃ z, z = uE E11 (j) (.inr (5, [.ref (B + (n)), .ref (B + (n + 1)), .ref (B + (n + 2)), .ref (B + (n + 3)), .ref (B + (n + 4)), .ref (B + (n + 5)), vi 0, vi 0])) ∧ CHp (zD Z) B H0 (n + 6) z H := ⟨_, rfl, hH⟩
  have h_j : E12 (j) = .inr (5, [.ref (B + (n)), .ref (B + (n + 1)), .ref (B + (n + 2)), .ref (B + (n + 3)), .ref (B + (n + 4)), .ref (B + (n + 5)), vi 0, vi 0]) := by rw [e12]; exact uE_self _ _ _
  refine ch_ret b hr hlk hlo ?_ (show _ ≤ (6 : Nat) by omega) (show _ ≤ (602 : Nat) by omega) dX10_init_53
  subst e1 e2 e3 e4 e5 e6 e7 e8 e9 e10 e11 e12
  exact hH
def E_RX7 (Z : ZT) (B n j : Nat) (E : Nat → va_E) (a1 a2 : Nat) : Nat → va_E := uE (uE E (j) (.inr (7, [.ref a1, .null, vi 0, vi 0, vi 0, vi 0, vi 0]))) (j) (.inr (7, [.ref a1, .ref a2, vi 0, vi 0, vi 0, vi 0, vi 0]))
theorem E_RX7_old {Z : ZT} {B n j q : Nat} {E : Nat → va_E} {a1 a2 : Nat} (h1 : q ≠ j) (h2 : q < n) : E_RX7 Z B n j E a1 a2 q = E q := by
  unfold E_RX7
  simp only [uE_ne h1]
set_option maxRecDepth 20000 in
set_option maxHeartbeats 4000000 in
theorem C_RX7 (Z : ZT) (B : Nat) (H0 : Heap) (n j : Nat) (E : Nat → va_E) (a1 a2 : Nat) (hzB : zB Z ≤ B) (hj : j < n) (h_j : E j = .inr (7, [.null, .null, vi 0, vi 0, vi 0, vi 0, vi 0])) : RunsC Z yX7_init cX7_init 3 1 [.ref (B + j), .ref a1, .ref a2] 0 0 (CHp (zD Z) B H0 n E) (CHp (zD Z) B H0 (n + 0) (E_RX7 Z B n j E a1 a2)) := by
  refine RunsC.of (by decide +kernel) rfl (Nat.le_of_ble_eq_true rfl) ?_
  intro p l e s m args below meth c ls hfl b hH hr hlk hnm hl
  have hl : lv_has ls 3 [(0, .ref (B + j)), (1, .ref a1), (2, .ref a2)] := hl
  have b : BB p s m args c RX7 cX7_init 3 Z := b
  obtain ⟨H, eH⟩ : ∃ z, z = s.heap := ⟨_, rfl⟩
  rw [← eH] at hH ⊢
  have hlo : ∀ q ∈ ([] : List Loc), zN Z q.base := fun q hq => by cases hq
  refine lv_aload_n b.1 b.2.1 dX7_init_0 rfl (lv_at hl 0 rfl) ?_
  refine ch_obj b hl.1 (li_1 207 (by decide +kernel) (by decide +kernel)) (Nat.le_of_ble_eq_true rfl) (Nat.le_of_ble_eq_true rfl) dX7_init_1 ?_
  refine lv_aload_n b.1 b.2.1 dX7_init_4 rfl (lv_at hl 0 rfl) ?_
  refine lv_aload_n b.1 b.2.1 dX7_init_5 rfl (lv_at hl 1 rfl) ?_
  refine ch_putG (k := 0) (j := j) (ty0 := tyX7) (fin := true) b hH (by omega) h_j rfl in_7 tyX7_ok nmX7 (by decide) rfl (Nat.le_of_ble_eq_true rfl) rfl rfl hnm rfl hlo hzB (li_1 208 (by decide +kernel) (by decide +kernel)) dX7_init_6 (fun H locs hH hlo => ?_)
  obtain ⟨E1, e1, hH⟩ : ∃ z, z = uE E (j) (.inr (7, [.ref a1, .null, vi 0, vi 0, vi 0, vi 0, vi 0])) ∧ CHp (zD Z) B H0 (n) z H := ⟨_, rfl, hH⟩
  have h_j : E1 (j) = .inr (7, [.ref a1, .null, vi 0, vi 0, vi 0, vi 0, vi 0]) := by rw [e1]; exact uE_self _ _ _
  refine lv_aload_n b.1 b.2.1 dX7_init_9 rfl (lv_at hl 0 rfl) ?_
  refine lv_aload_n b.1 b.2.1 dX7_init_10 rfl (lv_at hl 2 rfl) ?_
  refine ch_putG (k := 1) (j := j) (ty0 := tyX7) (fin := true) b hH (by omega) h_j rfl in_7 tyX7_ok nmX7 (by decide) rfl (Nat.le_of_ble_eq_true rfl) rfl rfl hnm rfl hlo hzB (li_1 209 (by decide +kernel) (by decide +kernel)) dX7_init_11 (fun H locs hH hlo => ?_)
  obtain ⟨E2, e2, hH⟩ : ∃ z, z = uE E1 (j) (.inr (7, [.ref a1, .ref a2, vi 0, vi 0, vi 0, vi 0, vi 0])) ∧ CHp (zD Z) B H0 (n) z H := ⟨_, rfl, hH⟩
  have h_j : E2 (j) = .inr (7, [.ref a1, .ref a2, vi 0, vi 0, vi 0, vi 0, vi 0]) := by rw [e2]; exact uE_self _ _ _
  refine ch_ret b hr hlk hlo ?_ (show _ ≤ (0 : Nat) by omega) (show _ ≤ (0 : Nat) by omega) dX7_init_14
  subst e1 e2
  exact hH
def T_f : Nat → Nat → Int
  | 0 => fun _ => 0
  | i + 1 => fun q => if q = i then (-1) else T_f i q
def P_RX3 (Z : ZT) (B n j : Nat) (E : Nat → va_E) : Nat → va_E := uE (uE (uE (uE (uE (uE (uE (uE (uE E (n) (arI (zC Z 0) 4356 (fun _ => 0))) (j) (.inr (4, [.ref (B + (n)), .null, .null, .null, vi 0, .null, vi 0, vi 0, vi 0, vi 0]))) (n + 1) (arI (zC Z 0) 4356 (fun _ => 0))) (j) (.inr (4, [.ref (B + (n)), .ref (B + (n + 1)), .null, .null, vi 0, .null, vi 0, vi 0, vi 0, vi 0]))) (n + 2) (arI (zC Z 0) 4356 (fun _ => 0))) (j) (.inr (4, [.ref (B + (n)), .ref (B + (n + 1)), .ref (B + (n + 2)), .null, vi 0, .null, vi 0, vi 0, vi 0, vi 0]))) (n + 3) (arI (zC Z 0) 4356 (fun _ => 0))) (j) (.inr (4, [.ref (B + (n)), .ref (B + (n + 1)), .ref (B + (n + 2)), .ref (B + (n + 3)), vi 0, .null, vi 0, vi 0, vi 0, vi 0]))) (j) (.inr (4, [.ref (B + (n)), .ref (B + (n + 1)), .ref (B + (n + 2)), .ref (B + (n + 3)), vi 0, .null, vi 0, vi (-1), vi 0, vi 0]))
def L0_RX3 (Z : ZT) (B n j : Nat) (E0 : Nat → va_E) : Nat → Nat → va_E
  | 0 => P_RX3 Z B n j E0
  | i + 1 => (fun E => uE E (n + 2) (arI (zC Z 0) 4356 (T_f (i + 1)))) (L0_RX3 Z B n j E0 i)
def E_RX3 (Z : ZT) (B n j : Nat) (E : Nat → va_E) : Nat → va_E := L0_RX3 Z B n j E 4356
theorem L0_RX3_old {Z : ZT} {B n j q : Nat} {E : Nat → va_E} (h : q ≠ n + 2) : ∀ i : Nat, L0_RX3 Z B n j E i q = P_RX3 Z B n j E q
  | 0 => rfl
  | i + 1 => (uE_ne h).trans (L0_RX3_old h i)
theorem E_RX3_old {Z : ZT} {B n j q : Nat} {E : Nat → va_E} (h1 : q ≠ j) (h2 : q < n) : E_RX3 Z B n j E q = E q := by
  refine (L0_RX3_old (by omega) 4356).trans ?_
  simp only [P_RX3, uE_ne h1, uE]
  repeat (rw [if_neg (by omega)])
set_option maxRecDepth 20000 in
set_option maxHeartbeats 4000000 in
theorem C_RX3 (Z : ZT) (B : Nat) (H0 : Heap) (n j : Nat) (E0 : Nat → va_E) (hzB : zB Z ≤ B) (hj : j < n) (h_j : E0 j = .inr (4, [.null, .null, .null, .null, vi 0, .null, vi 0, vi 0, vi 0, vi 0])) : RunsC Z yX3_init cX3_init 2 1 [.ref (B + j)] 4 17424 (CHp (zD Z) B H0 n E0) (CHp (zD Z) B H0 (n + 4) (E_RX3 Z B n j E0)) := by
  refine RunsC.of (by decide +kernel) rfl (Nat.le_of_ble_eq_true rfl) ?_
  intro p l e s m args below meth c ls hfl b hH hr hlk hnm hl
  have hl : lv_has ls 2 [(0, .ref (B + j))] := hl
  have b : BB p s m args c RX3 cX3_init 2 Z := b
  obtain ⟨H, eH⟩ : ∃ z, z = s.heap := ⟨_, rfl⟩
  rw [← eH] at hH ⊢
  have hlo : ∀ q ∈ ([] : List Loc), zN Z q.base := fun q hq => by cases hq
  have lp0 : ∀ (d i : Nat) (E : Nat → va_E) (H : Heap) (locs : List Loc) (ls : Array Slot), i + d = 4356 → E = (L0_RX3 Z B n j E0) i → CHp (zD Z) B H0 (n + 4) E H → E (j) = .inr (4, [.ref (B + (n)), .ref (B + (n + 1)), .ref (B + (n + 2)), .ref (B + (n + 3)), vi 0, .null, vi 0, vi (-1), vi 0, vi 0]) → E (n + 2) = arI (zC Z 0) 4356 (T_f i) → (∀ q ∈ locs, zN Z q.base) → lv_has ls 2 [(0, .ref (B + j)), (1, vi ((i : Nat) : Int))] → W p l e (rmH 1 4 17424) s m args below meth c H locs (4 + 0 * i) (17424 + 0 * i) (MQ below (QcC (CHp (zD Z) B H0 (n + 4) (E_RX3 Z B n j E0))) args s 4 17424 (zN Z)) (F0 m 47 ls []) := by
    intro d
    induction d with
    | zero =>
      intro i E H locs ls hi hE hH h_j hA hlo hl
      refine lv_iload_n b.1 b.2.1 dX3_init_47 rfl (lv_at hl 1 rfl) ?_
      refine lv_sipush (v := Int32.ofInt 4356) b.1 b.2.1 dX3_init_48 (by decide) ?_
      refine lv_icmp_ge (tgt := 67) b.1 b.2.1 dX3_init_51 (by decide) (fun c1 => ?_) (fun c1 => ?_)
      · obtain rfl : i = 4356 := by omega
        refine ch_ret b hr hlk hlo ?_ (show _ ≤ (4 : Nat) by omega) (show _ ≤ (17424 : Nat) by omega) dX3_init_67
        rw [hE] at hH
        exact hH
      · exact absurd ((w_le _ _).mpr (by rw [w32_of (by omega) (by omega), w32_of (by omega) (by omega)]; omega)) c1
    | succ d ih =>
      intro i E H locs ls hi hE hH h_j hA hlo hl
      refine lv_iload_n b.1 b.2.1 dX3_init_47 rfl (lv_at hl 1 rfl) ?_
      refine lv_sipush (v := Int32.ofInt 4356) b.1 b.2.1 dX3_init_48 (by decide) ?_
      refine lv_icmp_ge (tgt := 67) b.1 b.2.1 dX3_init_51 (by decide) (fun c1 => ?_) (fun c1 => ?_)
      · exact absurd (show w32 ((i : Nat) : Int) < w32 4356 by rw [w32_of (by omega) (by omega), w32_of (by omega) (by omega)]; omega) ((w_le _ _).mp c1)
      · skip
        refine lv_aload_n b.1 b.2.1 dX3_init_54 rfl (lv_at hl 0 rfl) ?_
        refine ch_get (k := 2) (j := j) b hH (by omega) h_j rfl in_4 (by decide) rfl rfl (li_1 104 (by decide +kernel) (by decide +kernel)) dX3_init_55 ?_
        refine lv_iload_n b.1 b.2.1 dX3_init_58 rfl (lv_at hl 1 rfl) ?_
        refine lv_iconst (v := Int32.ofInt (-1)) b.1 b.2.1 dX3_init_59 rfl ?_
        refine ch_iast (N' := 4356) (x' := ((i : Nat) : Int)) (j := n + 2) b hH (by omega) hA (w32_of (by omega) (by omega)) (by omega) hlo hzB dX3_init_60 (fun H locs hH hlo => ?_)
        obtain ⟨E101, e101, hH⟩ : ∃ z, z = uE E (n + 2) (arI (zC Z 0) 4356 (T_f (i + 1))) ∧ CHp (zD Z) B H0 (n + 4) z H := ⟨_, rfl, hH⟩
        have h_j : E101 (j) = .inr (4, [.ref (B + (n)), .ref (B + (n + 1)), .ref (B + (n + 2)), .ref (B + (n + 3)), vi 0, .null, vi 0, vi (-1), vi 0, vi 0]) := by rw [e101]; exact (uE_ne (by omega)).trans h_j
        have hA : E101 (n + 2) = arI (zC Z 0) 4356 (T_f (i + 1)) := by rw [e101]; exact uE_self _ _ _
        refine lv_iinc (v := Int32.ofInt (((i : Nat) : Int) + 1)) (lv' := [(1, vi (((i : Nat) : Int) + 1)), (0, .ref (B + j))]) b.1 b.2.1 dX3_init_61 hl (k := 1) rfl (i_add _ _) (by decide) rfl (fun ls hl => ?_)
        refine lv_goto (tgt := 47) b.1 b.2.1 dX3_init_64 (by decide) ?_
        refine W.widen (k := 4 + 0 * (i + 1)) (n := 17424 + 0 * (i + 1)) (by omega) (by omega) ?_
        exact ih (i + 1) E101 H locs ls (by omega) (by subst e101; rw [hE]; rfl) (by rw [show n + 4 = n + 4 by omega]; exact hH) h_j hA hlo (lv_sub hl [1, 0] rfl)
  obtain ⟨E, eE⟩ : ∃ z, z = E0 := ⟨_, rfl⟩
  rw [← eE] at h_j hH
  refine lv_aload_n b.1 b.2.1 dX3_init_0 rfl (lv_at hl 0 rfl) ?_
  refine ch_obj b hl.1 (li_1 101 (by decide +kernel) (by decide +kernel)) (Nat.le_of_ble_eq_true rfl) (Nat.le_of_ble_eq_true rfl) dX3_init_1 ?_
  refine lv_aload_n b.1 b.2.1 dX3_init_4 rfl (lv_at hl 0 rfl) ?_
  refine lv_sipush (v := Int32.ofInt 4356) b.1 b.2.1 dX3_init_5 (by decide) ?_
  refine ch_newa (atype := .int) (ty := .int) (cA := zC Z 0) (t0 := 0) (N' := 4356) b hH (li_1 57 (by decide +kernel) (by decide +kernel)) rfl rfl (fun _ h => h) rfl (by decide) (Nat.le_of_ble_eq_true rfl) (show _ ≤ (4 : Nat) by omega) (show _ ≤ (17424 : Nat) by omega) dX3_init_8 (fun H hH => ?_)
  obtain ⟨E1, e1, hH⟩ : ∃ z, z = uE E (n) (arI (zC Z 0) 4356 (fun _ => 0)) ∧ CHp (zD Z) B H0 (n + 1) z H := ⟨_, rfl, hH⟩
  have h_j : E1 (j) = .inr (4, [.null, .null, .null, .null, vi 0, .null, vi 0, vi 0, vi 0, vi 0]) := by rw [e1]; exact (uE_ne (by omega)).trans h_j
  refine ch_putG (k := 0) (j := j) (ty0 := tyX3) (fin := true) b hH (by omega) h_j rfl in_4 tyX3_ok nmX3 (by decide) rfl (Nat.le_of_ble_eq_true rfl) rfl rfl hnm rfl hlo hzB (li_1 102 (by decide +kernel) (by decide +kernel)) dX3_init_10 (fun H locs hH hlo => ?_)
  obtain ⟨E2, e2, hH⟩ : ∃ z, z = uE E1 (j) (.inr (4, [.ref (B + (n)), .null, .null, .null, vi 0, .null, vi 0, vi 0, vi 0, vi 0])) ∧ CHp (zD Z) B H0 (n + 1) z H := ⟨_, rfl, hH⟩
  have h_j : E2 (j) = .inr (4, [.ref (B + (n)), .null, .null, .null, vi 0, .null, vi 0, vi 0, vi 0, vi 0]) := by rw [e2]; exact uE_self _ _ _
  refine lv_aload_n b.1 b.2.1 dX3_init_13 rfl (lv_at hl 0 rfl) ?_
  refine lv_sipush (v := Int32.ofInt 4356) b.1 b.2.1 dX3_init_14 (by decide) ?_
  refine ch_newa (atype := .int) (ty := .int) (cA := zC Z 0) (t0 := 0) (N' := 4356) b hH (li_1 57 (by decide +kernel) (by decide +kernel)) rfl rfl (fun _ h => h) rfl (by decide) (Nat.le_of_ble_eq_true rfl) (show _ ≤ (4 : Nat) by omega) (show _ ≤ (17424 : Nat) by omega) dX3_init_17 (fun H hH => ?_)
  obtain ⟨E3, e3, hH⟩ : ∃ z, z = uE E2 (n + 1) (arI (zC Z 0) 4356 (fun _ => 0)) ∧ CHp (zD Z) B H0 (n + 2) z H := ⟨_, rfl, hH⟩
  have h_j : E3 (j) = .inr (4, [.ref (B + (n)), .null, .null, .null, vi 0, .null, vi 0, vi 0, vi 0, vi 0]) := by rw [e3]; exact (uE_ne (by omega)).trans h_j
  refine ch_putG (k := 1) (j := j) (ty0 := tyX3) (fin := true) b hH (by omega) h_j rfl in_4 tyX3_ok nmX3 (by decide) rfl (Nat.le_of_ble_eq_true rfl) rfl rfl hnm rfl hlo hzB (li_1 103 (by decide +kernel) (by decide +kernel)) dX3_init_19 (fun H locs hH hlo => ?_)
  obtain ⟨E4, e4, hH⟩ : ∃ z, z = uE E3 (j) (.inr (4, [.ref (B + (n)), .ref (B + (n + 1)), .null, .null, vi 0, .null, vi 0, vi 0, vi 0, vi 0])) ∧ CHp (zD Z) B H0 (n + 2) z H := ⟨_, rfl, hH⟩
  have h_j : E4 (j) = .inr (4, [.ref (B + (n)), .ref (B + (n + 1)), .null, .null, vi 0, .null, vi 0, vi 0, vi 0, vi 0]) := by rw [e4]; exact uE_self _ _ _
  refine lv_aload_n b.1 b.2.1 dX3_init_22 rfl (lv_at hl 0 rfl) ?_
  refine lv_sipush (v := Int32.ofInt 4356) b.1 b.2.1 dX3_init_23 (by decide) ?_
  refine ch_newa (atype := .int) (ty := .int) (cA := zC Z 0) (t0 := 0) (N' := 4356) b hH (li_1 57 (by decide +kernel) (by decide +kernel)) rfl rfl (fun _ h => h) rfl (by decide) (Nat.le_of_ble_eq_true rfl) (show _ ≤ (4 : Nat) by omega) (show _ ≤ (17424 : Nat) by omega) dX3_init_26 (fun H hH => ?_)
  obtain ⟨E5, e5, hH⟩ : ∃ z, z = uE E4 (n + 2) (arI (zC Z 0) 4356 (fun _ => 0)) ∧ CHp (zD Z) B H0 (n + 3) z H := ⟨_, rfl, hH⟩
  have h_j : E5 (j) = .inr (4, [.ref (B + (n)), .ref (B + (n + 1)), .null, .null, vi 0, .null, vi 0, vi 0, vi 0, vi 0]) := by rw [e5]; exact (uE_ne (by omega)).trans h_j
  have hA : E5 (n + 2) = arI (zC Z 0) 4356 (fun _ => 0) := by rw [e5]; exact uE_self _ _ _
  refine ch_putG (k := 2) (j := j) (ty0 := tyX3) (fin := true) b hH (by omega) h_j rfl in_4 tyX3_ok nmX3 (by decide) rfl (Nat.le_of_ble_eq_true rfl) rfl rfl hnm rfl hlo hzB (li_1 104 (by decide +kernel) (by decide +kernel)) dX3_init_28 (fun H locs hH hlo => ?_)
  obtain ⟨E6, e6, hH⟩ : ∃ z, z = uE E5 (j) (.inr (4, [.ref (B + (n)), .ref (B + (n + 1)), .ref (B + (n + 2)), .null, vi 0, .null, vi 0, vi 0, vi 0, vi 0])) ∧ CHp (zD Z) B H0 (n + 3) z H := ⟨_, rfl, hH⟩
  have hA : E6 (n + 2) = arI (zC Z 0) 4356 (fun _ => 0) := by rw [e6]; exact (uE_ne (by omega)).trans hA
  have h_j : E6 (j) = .inr (4, [.ref (B + (n)), .ref (B + (n + 1)), .ref (B + (n + 2)), .null, vi 0, .null, vi 0, vi 0, vi 0, vi 0]) := by rw [e6]; exact uE_self _ _ _
  refine lv_aload_n b.1 b.2.1 dX3_init_31 rfl (lv_at hl 0 rfl) ?_
  refine lv_sipush (v := Int32.ofInt 4356) b.1 b.2.1 dX3_init_32 (by decide) ?_
  refine ch_newa (atype := .int) (ty := .int) (cA := zC Z 0) (t0 := 0) (N' := 4356) b hH (li_1 57 (by decide +kernel) (by decide +kernel)) rfl rfl (fun _ h => h) rfl (by decide) (Nat.le_of_ble_eq_true rfl) (show _ ≤ (4 : Nat) by omega) (show _ ≤ (17424 : Nat) by omega) dX3_init_35 (fun H hH => ?_)
  obtain ⟨E7, e7, hH⟩ : ∃ z, z = uE E6 (n + 3) (arI (zC Z 0) 4356 (fun _ => 0)) ∧ CHp (zD Z) B H0 (n + 4) z H := ⟨_, rfl, hH⟩
  have h_j : E7 (j) = .inr (4, [.ref (B + (n)), .ref (B + (n + 1)), .ref (B + (n + 2)), .null, vi 0, .null, vi 0, vi 0, vi 0, vi 0]) := by rw [e7]; exact (uE_ne (by omega)).trans h_j
  have hA : E7 (n + 2) = arI (zC Z 0) 4356 (fun _ => 0) := by rw [e7]; exact (uE_ne (by omega)).trans hA
  refine ch_putG (k := 3) (j := j) (ty0 := tyX3) (fin := true) b hH (by omega) h_j rfl in_4 tyX3_ok nmX3 (by decide) rfl (Nat.le_of_ble_eq_true rfl) rfl rfl hnm rfl hlo hzB (li_1 105 (by decide +kernel) (by decide +kernel)) dX3_init_37 (fun H locs hH hlo => ?_)
  obtain ⟨E8, e8, hH⟩ : ∃ z, z = uE E7 (j) (.inr (4, [.ref (B + (n)), .ref (B + (n + 1)), .ref (B + (n + 2)), .ref (B + (n + 3)), vi 0, .null, vi 0, vi 0, vi 0, vi 0])) ∧ CHp (zD Z) B H0 (n + 4) z H := ⟨_, rfl, hH⟩
  have hA : E8 (n + 2) = arI (zC Z 0) 4356 (fun _ => 0) := by rw [e8]; exact (uE_ne (by omega)).trans hA
  have h_j : E8 (j) = .inr (4, [.ref (B + (n)), .ref (B + (n + 1)), .ref (B + (n + 2)), .ref (B + (n + 3)), vi 0, .null, vi 0, vi 0, vi 0, vi 0]) := by rw [e8]; exact uE_self _ _ _
  refine lv_aload_n b.1 b.2.1 dX3_init_40 rfl (lv_at hl 0 rfl) ?_
  refine lv_iconst (v := Int32.ofInt (-1)) b.1 b.2.1 dX3_init_41 rfl ?_
  refine ch_putG (k := 7) (j := j) (ty0 := tyX3) (fin := false) b hH (by omega) h_j rfl in_4 tyX3_ok nmX3 (by decide) rfl (Nat.le_of_ble_eq_true rfl) rfl rfl hnm rfl hlo hzB (li_1 109 (by decide +kernel) (by decide +kernel)) dX3_init_42 (fun H locs hH hlo => ?_)
  obtain ⟨E9, e9, hH⟩ : ∃ z, z = uE E8 (j) (.inr (4, [.ref (B + (n)), .ref (B + (n + 1)), .ref (B + (n + 2)), .ref (B + (n + 3)), vi 0, .null, vi 0, vi (-1), vi 0, vi 0])) ∧ CHp (zD Z) B H0 (n + 4) z H := ⟨_, rfl, hH⟩
  have hA : E9 (n + 2) = arI (zC Z 0) 4356 (fun _ => 0) := by rw [e9]; exact (uE_ne (by omega)).trans hA
  have h_j : E9 (j) = .inr (4, [.ref (B + (n)), .ref (B + (n + 1)), .ref (B + (n + 2)), .ref (B + (n + 3)), vi 0, .null, vi 0, vi (-1), vi 0, vi 0]) := by rw [e9]; exact uE_self _ _ _
  refine lv_iconst (v := Int32.ofInt 0) b.1 b.2.1 dX3_init_45 rfl ?_
  refine lv_istore_n (lv' := [(1, vi 0), (0, .ref (B + j))]) b.1 b.2.1 dX3_init_46 rfl hl (by decide) rfl (fun ls hl => ?_)
  refine W.widen (k := 4 + 0 * 0) (n := 17424 + 0 * 0) (by omega) (by omega) ?_
  exact lp0 4356 0 E9 H locs ls (by omega) (by subst e1 e2 e3 e4 e5 e6 e7 e8 e9 eE; rfl) hH h_j hA hlo (lv_sub hl [1, 0] rfl)
def E_RX9 (Z : ZT) (B n j : Nat) (E : Nat → va_E) : Nat → va_E := uE (uE (uE (E_RX3 Z B (n + 1) (n) (uE E (n) (.inr (4, [.null, .null, .null, .null, vi 0, .null, vi 0, vi 0, vi 0, vi 0]))) ) (j) (.inr (3, [.ref (B + (n)), .null]))) (n + 5) (arI (zC Z 0) 40 (fun _ => 0))) (j) (.inr (3, [.ref (B + (n)), .ref (B + (n + 5))]))
theorem E_RX9_old {Z : ZT} {B n j q : Nat} {E : Nat → va_E} (h1 : q ≠ j) (h2 : q < n) : E_RX9 Z B n j E q = E q := by
  unfold E_RX9
  rw [uE_ne h1, uE_ne (by omega), uE_ne h1, E_RX3_old (by omega) (by omega), uE_ne (by omega)]
set_option maxRecDepth 20000 in
set_option maxHeartbeats 4000000 in
theorem C_RX9 (Z : ZT) (B : Nat) (H0 : Heap) (n j : Nat) (E : Nat → va_E) (hzB : zB Z ≤ B) (hj : j < n) (h_j : E j = .inr (3, [.null, .null])) : RunsC Z yX9_init cX9_init 1 2 [.ref (B + j)] 6 17474 (CHp (zD Z) B H0 n E) (CHp (zD Z) B H0 (n + 6) (E_RX9 Z B n j E)) := by
  refine RunsC.of (by decide +kernel) rfl (Nat.le_of_ble_eq_true rfl) ?_
  intro p l e s m args below meth c ls hfl b hH hr hlk hnm hl
  have hl : lv_has ls 1 [(0, .ref (B + j))] := hl
  have b : BB p s m args c RX9 cX9_init 1 Z := b
  obtain ⟨H, eH⟩ : ∃ z, z = s.heap := ⟨_, rfl⟩
  rw [← eH] at hH ⊢
  have hlo : ∀ q ∈ ([] : List Loc), zN Z q.base := fun q hq => by cases hq
  refine lv_aload_n b.1 b.2.1 dX9_init_0 rfl (lv_at hl 0 rfl) ?_
  refine ch_obj b hl.1 (li_1 95 (by decide +kernel) (by decide +kernel)) (Nat.le_of_ble_eq_true rfl) (Nat.le_of_ble_eq_true rfl) dX9_init_1 ?_
  refine lv_aload_n b.1 b.2.1 dX9_init_4 rfl (lv_at hl 0 rfl) ?_
  refine ch_new (ci := 4) tyX3 [.null, .null, .null, .null, vi 0, .null, vi 0, vi 0, vi 0, vi 0] b hH in_4 tyX3_ok (li_1 96 (by decide +kernel) (by decide +kernel)) (li_1 97 (by decide +kernel) (by decide +kernel)) (li_1 5 (by decide +kernel) (by decide +kernel)) rfl (fun j hj => by rcases (show j = 0 ∨ j = 1 ∨ j = 2 ∨ j = 3 ∨ j = 4 ∨ j = 5 ∨ j = 6 ∨ j = 7 ∨ j = 8 ∨ j = 9 by omega) with rfl | rfl | rfl | rfl | rfl | rfl | rfl | rfl | rfl | rfl <;> rfl) (show _ ≤ (6 : Nat) by omega) (show _ ≤ (17474 : Nat) by omega) dX9_init_5 (fun H hH => ?_)
  obtain ⟨E1, e1, hH⟩ : ∃ z, z = uE E (n) (.inr (4, [.null, .null, .null, .null, vi 0, .null, vi 0, vi 0, vi 0, vi 0])) ∧ CHp (zD Z) B H0 (n + 1) z H := ⟨_, rfl, hH⟩
  have h_j : E1 (j) = .inr (3, [.null, .null]) := by rw [e1]; exact (uE_ne (by omega)).trans h_j
  have hn1 : E1 (n) = .inr (4, [.null, .null, .null, .null, vi 0, .null, vi 0, vi 0, vi 0, vi 0]) := by rw [e1]; exact uE_self _ _ _
  refine lv_dup b.1 b.2.1 dX9_init_8 rfl ?_
  refine ch_call (y' := yX3_init) (cc' := cX3_init) (maxL' := 2) (h' := 1) (nA := 0) (a := B + (n)) (As := []) (rest := [.ref (B + (n)), .ref (B + j)]) b hl.1 (C_RX3 Z B H0 (n + 1) (n) E1 hzB (by omega) hn1) hH hfl (li_1 100 (by decide +kernel) (by decide +kernel)) (li_1 98 (by decide +kernel) (by decide +kernel)) (li_1 99 (by decide +kernel) (by decide +kernel)) (li_1 5 (by decide +kernel) (by decide +kernel)) rfl (by decide +kernel) rfl rfl ⟨Nat.le_of_ble_eq_true rfl, Nat.le_of_ble_eq_true rfl⟩ (Nat.le_of_ble_eq_true rfl) ⟨show _ ≤ (6 : Nat) by omega, show _ ≤ (17474 : Nat) by omega⟩ hlo dX9_init_9 (fun H locs hH hlo => ?_)
  obtain ⟨E2, e2, hH⟩ : ∃ z, z = E_RX3 Z B (n + 1) (n) E1  ∧ CHp (zD Z) B H0 (n + 5) z H := ⟨_, rfl, hH⟩
  have h_j : E2 (j) = .inr (3, [.null, .null]) := by rw [e2]; exact (E_RX3_old (by omega) (by omega)).trans h_j
  refine ch_putG (k := 0) (j := j) (ty0 := tyX9) (fin := true) b hH (by omega) h_j rfl in_3 tyX9_ok nmX9 (by decide) rfl (Nat.le_of_ble_eq_true rfl) rfl rfl hnm rfl hlo hzB (li_1 133 (by decide +kernel) (by decide +kernel)) dX9_init_12 (fun H locs hH hlo => ?_)
  obtain ⟨E3, e3, hH⟩ : ∃ z, z = uE E2 (j) (.inr (3, [.ref (B + (n)), .null])) ∧ CHp (zD Z) B H0 (n + 5) z H := ⟨_, rfl, hH⟩
  have h_j : E3 (j) = .inr (3, [.ref (B + (n)), .null]) := by rw [e3]; exact uE_self _ _ _
  refine lv_aload_n b.1 b.2.1 dX9_init_15 rfl (lv_at hl 0 rfl) ?_
  refine lv_bipush (v := Int32.ofInt 40) b.1 b.2.1 dX9_init_16 (by decide) ?_
  refine ch_newa (atype := .int) (ty := .int) (cA := zC Z 0) (t0 := 0) (N' := 40) b hH (li_1 57 (by decide +kernel) (by decide +kernel)) rfl rfl (fun _ h => h) rfl (by decide) (Nat.le_of_ble_eq_true rfl) (show _ ≤ (6 : Nat) by omega) (show _ ≤ (17474 : Nat) by omega) dX9_init_18 (fun H hH => ?_)
  obtain ⟨E4, e4, hH⟩ : ∃ z, z = uE E3 (n + 5) (arI (zC Z 0) 40 (fun _ => 0)) ∧ CHp (zD Z) B H0 (n + 6) z H := ⟨_, rfl, hH⟩
  have h_j : E4 (j) = .inr (3, [.ref (B + (n)), .null]) := by rw [e4]; exact (uE_ne (by omega)).trans h_j
  refine ch_putG (k := 1) (j := j) (ty0 := tyX9) (fin := true) b hH (by omega) h_j rfl in_3 tyX9_ok nmX9 (by decide) rfl (Nat.le_of_ble_eq_true rfl) rfl rfl hnm rfl hlo hzB (li_1 134 (by decide +kernel) (by decide +kernel)) dX9_init_20 (fun H locs hH hlo => ?_)
  obtain ⟨E5, e5, hH⟩ : ∃ z, z = uE E4 (j) (.inr (3, [.ref (B + (n)), .ref (B + (n + 5))])) ∧ CHp (zD Z) B H0 (n + 6) z H := ⟨_, rfl, hH⟩
  have h_j : E5 (j) = .inr (3, [.ref (B + (n)), .ref (B + (n + 5))]) := by rw [e5]; exact uE_self _ _ _
  refine ch_ret b hr hlk hlo ?_ (show _ ≤ (6 : Nat) by omega) (show _ ≤ (17474 : Nat) by omega) dX9_init_23
  subst e1 e2 e3 e4 e5
  exact hH
def S_f (Z : ZT) : Nat → Nat → Option Nat
  | 0 => fun _ => none
  | i + 1 => va_up (S_f Z i) i (some (zA Z 11 14))
def P_RX6 (Z : ZT) (B n j : Nat) (E : Nat → va_E) (a1 : Nat) : Nat → va_E := uE (uE (uE (uE (uE (uE (uE (uE (uE (uE (uE (uE (uE (uE (uE E (n) (.inl (zC Z 6, 60, .inr (.inr (.inr (.inr fun _ => none)))))) (j) (.inr (8, [.null, .ref (B + (n)), .null, .null, .null, .null, .null, .null, vi 0, vi 0, vi 0]))) (n + 1) (arI (zC Z 0) 60 (fun _ => 0))) (j) (.inr (8, [.null, .ref (B + (n)), .ref (B + (n + 1)), .null, .null, .null, .null, .null, vi 0, vi 0, vi 0]))) (n + 2) (arI (zC Z 0) 60 (fun _ => 0))) (j) (.inr (8, [.null, .ref (B + (n)), .ref (B + (n + 1)), .ref (B + (n + 2)), .null, .null, .null, .null, vi 0, vi 0, vi 0]))) (n + 3) (arI (zC Z 0) 60 (fun _ => 0))) (j) (.inr (8, [.null, .ref (B + (n)), .ref (B + (n + 1)), .ref (B + (n + 2)), .ref (B + (n + 3)), .null, .null, .null, vi 0, vi 0, vi 0]))) (n + 4) (arI (zC Z 0) 60 (fun _ => 0))) (j) (.inr (8, [.null, .ref (B + (n)), .ref (B + (n + 1)), .ref (B + (n + 2)), .ref (B + (n + 3)), .ref (B + (n + 4)), .null, .null, vi 0, vi 0, vi 0]))) (n + 5) (arI (zC Z 0) 60 (fun _ => 0))) (j) (.inr (8, [.null, .ref (B + (n)), .ref (B + (n + 1)), .ref (B + (n + 2)), .ref (B + (n + 3)), .ref (B + (n + 4)), .ref (B + (n + 5)), .null, vi 0, vi 0, vi 0]))) (n + 6) (arI (zC Z 0) 2 (fun _ => 0))) (j) (.inr (8, [.null, .ref (B + (n)), .ref (B + (n + 1)), .ref (B + (n + 2)), .ref (B + (n + 3)), .ref (B + (n + 4)), .ref (B + (n + 5)), .ref (B + (n + 6)), vi 0, vi 0, vi 0]))) (j) (.inr (8, [.ref a1, .ref (B + (n)), .ref (B + (n + 1)), .ref (B + (n + 2)), .ref (B + (n + 3)), .ref (B + (n + 4)), .ref (B + (n + 5)), .ref (B + (n + 6)), vi 0, vi 0, vi 0]))
def L0_RX6 (Z : ZT) (B n j : Nat) (E0 : Nat → va_E) (a1 : Nat) : Nat → Nat → va_E
  | 0 => P_RX6 Z B n j E0 a1
  | i + 1 => (fun E => uE E (n) (.inl (zC Z 6, 60, .inr (.inr (.inr (.inr (va_up (S_f Z i) i (some (zA Z 11 14))))))))) (L0_RX6 Z B n j E0 a1 i)
def E_RX6 (Z : ZT) (B n j : Nat) (E : Nat → va_E) (a1 : Nat) : Nat → va_E := L0_RX6 Z B n j E a1 60
theorem L0_RX6_old {Z : ZT} {B n j q a1 : Nat} {E : Nat → va_E} (h : q ≠ n) : ∀ i : Nat, L0_RX6 Z B n j E a1 i q = P_RX6 Z B n j E a1 q
  | 0 => rfl
  | i + 1 => (uE_ne h).trans (L0_RX6_old h i)
theorem E_RX6_old {Z : ZT} {B n j q a1 : Nat} {E : Nat → va_E} (h1 : q ≠ j) (h2 : q < n) : E_RX6 Z B n j E a1 q = E q := by
  refine (L0_RX6_old (by omega) 60).trans ?_
  simp only [P_RX6, uE_ne h1, uE]
  repeat (rw [if_neg (by omega)])
set_option maxRecDepth 20000 in
set_option maxHeartbeats 4000000 in
theorem C_RX6 (Z : ZT) (B : Nat) (H0 : Heap) (n j : Nat) (E0 : Nat → va_E) (a1 : Nat) (hzB : zB Z ≤ B) (hZ : zB Z = B ∧ zH Z = H0) (hj : j < n) (h_j : E0 j = .inr (8, [.null, .null, .null, .null, .null, .null, .null, .null, vi 0, vi 0, vi 0])) : RunsC Z yX6_init cX6_init 3 1 [.ref (B + j), .ref a1] 7 362 (CHp (zD Z) B H0 n E0) (CHp (zD Z) B H0 (n + 7) (E_RX6 Z B n j E0 a1)) := by
  refine RunsC.of (by decide +kernel) rfl (Nat.le_of_ble_eq_true rfl) ?_
  intro p l e s m args below meth c ls hfl b hH hr hlk hnm hl
  have hl : lv_has ls 3 [(0, .ref (B + j)), (1, .ref a1)] := hl
  have b : BB p s m args c RX6 cX6_init 3 Z := b
  obtain ⟨H, eH⟩ : ∃ z, z = s.heap := ⟨_, rfl⟩
  rw [← eH] at hH ⊢
  have hlo : ∀ q ∈ ([] : List Loc), zN Z q.base := fun q hq => by cases hq
  have lp0 : ∀ (d i : Nat) (E : Nat → va_E) (H : Heap) (locs : List Loc) (ls : Array Slot), i + d = 60 → E = (L0_RX6 Z B n j E0 a1) i → CHp (zD Z) B H0 (n + 7) E H → E (j) = .inr (8, [.ref a1, .ref (B + (n)), .ref (B + (n + 1)), .ref (B + (n + 2)), .ref (B + (n + 3)), .ref (B + (n + 4)), .ref (B + (n + 5)), .ref (B + (n + 6)), vi 0, vi 0, vi 0]) → E (n) = .inl (zC Z 6, 60, .inr (.inr (.inr (.inr (S_f Z i))))) → (∀ q ∈ locs, zN Z q.base) → lv_has ls 3 [(0, .ref (B + j)), (1, .ref a1), (2, vi ((i : Nat) : Int))] → W p l e (rmH 1 7 362) s m args below meth c H locs (7 + 0 * i) (362 + 0 * i) (MQ below (QcC (CHp (zD Z) B H0 (n + 7) (E_RX6 Z B n j E0 a1))) args s 7 362 (zN Z)) (F0 m 67 ls []) := by
    intro d
    induction d with
    | zero =>
      intro i E H locs ls hi hE hH h_j hA hlo hl
      refine lv_iload_n b.1 b.2.1 dX6_init_67 rfl (lv_at hl 2 rfl) ?_
      refine lv_bipush (v := Int32.ofInt 60) b.1 b.2.1 dX6_init_68 (by decide) ?_
      refine lv_icmp_ge (tgt := 88) b.1 b.2.1 dX6_init_70 (by decide) (fun c1 => ?_) (fun c1 => ?_)
      · obtain rfl : i = 60 := by omega
        refine ch_ret b hr hlk hlo ?_ (show _ ≤ (7 : Nat) by omega) (show _ ≤ (362 : Nat) by omega) dX6_init_88
        rw [hE] at hH
        exact hH
      · exact absurd ((w_le _ _).mpr (by rw [w32_of (by omega) (by omega), w32_of (by omega) (by omega)]; omega)) c1
    | succ d ih =>
      intro i E H locs ls hi hE hH h_j hA hlo hl
      refine lv_iload_n b.1 b.2.1 dX6_init_67 rfl (lv_at hl 2 rfl) ?_
      refine lv_bipush (v := Int32.ofInt 60) b.1 b.2.1 dX6_init_68 (by decide) ?_
      refine lv_icmp_ge (tgt := 88) b.1 b.2.1 dX6_init_70 (by decide) (fun c1 => ?_) (fun c1 => ?_)
      · exact absurd (show w32 ((i : Nat) : Int) < w32 60 by rw [w32_of (by omega) (by omega), w32_of (by omega) (by omega)]; omega) ((w_le _ _).mp c1)
      · skip
        refine lv_aload_n b.1 b.2.1 dX6_init_73 rfl (lv_at hl 0 rfl) ?_
        refine ch_get (k := 1) (j := j) b hH (by omega) h_j rfl in_8 (by decide) rfl rfl (li_2 1 (by decide +kernel) (by decide +kernel)) dX6_init_74 ?_
        refine lv_iload_n b.1 b.2.1 dX6_init_77 rfl (lv_at hl 2 rfl) ?_
        refine ch_gets b hZ hH (fun U h => sta_word 14 (by decide) U h) (li_1 238 (by decide +kernel) (by decide +kernel)) dX6_init_78 ?_
        refine ch_wast (w := 14) (N' := 60) (x' := ((i : Nat) : Int)) (j := n) b hZ hH (by omega) hA (by decide) (w32_of (by omega) (by omega)) (by omega) hlo dX6_init_81 (fun H locs hH hlo => ?_)
        obtain ⟨E101, e101, hH⟩ : ∃ z, z = uE E (n) (.inl (zC Z 6, 60, .inr (.inr (.inr (.inr (va_up (S_f Z i) i (some (zA Z 11 14)))))))) ∧ CHp (zD Z) B H0 (n + 7) z H := ⟨_, rfl, hH⟩
        have h_j : E101 (j) = .inr (8, [.ref a1, .ref (B + (n)), .ref (B + (n + 1)), .ref (B + (n + 2)), .ref (B + (n + 3)), .ref (B + (n + 4)), .ref (B + (n + 5)), .ref (B + (n + 6)), vi 0, vi 0, vi 0]) := by rw [e101]; exact (uE_ne (by omega)).trans h_j
        have hA : E101 (n) = .inl (zC Z 6, 60, .inr (.inr (.inr (.inr (va_up (S_f Z i) i (some (zA Z 11 14))))))) := by rw [e101]; exact uE_self _ _ _
        refine lv_iinc (v := Int32.ofInt (((i : Nat) : Int) + 1)) (lv' := [(2, vi (((i : Nat) : Int) + 1)), (0, .ref (B + j)), (1, .ref a1)]) b.1 b.2.1 dX6_init_82 hl (k := 2) rfl (i_add _ _) (by decide) rfl (fun ls hl => ?_)
        refine lv_goto (tgt := 67) b.1 b.2.1 dX6_init_85 (by decide) ?_
        refine W.widen (k := 7 + 0 * (i + 1)) (n := 362 + 0 * (i + 1)) (by omega) (by omega) ?_
        exact ih (i + 1) E101 H locs ls (by omega) (by subst e101; rw [hE]; rfl) (by rw [show n + 7 = n + 7 by omega]; exact hH) h_j hA hlo (lv_sub hl [1, 2, 0] rfl)
  obtain ⟨E, eE⟩ : ∃ z, z = E0 := ⟨_, rfl⟩
  rw [← eE] at h_j hH
  refine lv_aload_n b.1 b.2.1 dX6_init_0 rfl (lv_at hl 0 rfl) ?_
  refine ch_obj b hl.1 (li_1 235 (by decide +kernel) (by decide +kernel)) (Nat.le_of_ble_eq_true rfl) (Nat.le_of_ble_eq_true rfl) dX6_init_1 ?_
  refine lv_aload_n b.1 b.2.1 dX6_init_4 rfl (lv_at hl 0 rfl) ?_
  refine lv_bipush (v := Int32.ofInt 60) b.1 b.2.1 dX6_init_5 (by decide) ?_
  refine ch_newq (t0 := 6) (N' := 60) b hH (li_1 236 (by decide +kernel) (by decide +kernel)) (by decide) rfl (by decide) (Nat.le_of_ble_eq_true rfl) (show _ ≤ (7 : Nat) by omega) (show _ ≤ (362 : Nat) by omega) dX6_init_7 (fun H hH => ?_)
  obtain ⟨E1, e1, hH⟩ : ∃ z, z = uE E (n) (.inl (zC Z 6, 60, .inr (.inr (.inr (.inr fun _ => none))))) ∧ CHp (zD Z) B H0 (n + 1) z H := ⟨_, rfl, hH⟩
  have h_j : E1 (j) = .inr (8, [.null, .null, .null, .null, .null, .null, .null, .null, vi 0, vi 0, vi 0]) := by rw [e1]; exact (uE_ne (by omega)).trans h_j
  have hA : E1 (n) = .inl (zC Z 6, 60, .inr (.inr (.inr (.inr fun _ => none)))) := by rw [e1]; exact uE_self _ _ _
  refine ch_putG (k := 1) (j := j) (ty0 := tyX6) (fin := true) b hH (by omega) h_j rfl in_8 tyX6_ok nmX6 (by decide) rfl (Nat.le_of_ble_eq_true rfl) rfl rfl hnm rfl hlo hzB (li_2 1 (by decide +kernel) (by decide +kernel)) dX6_init_10 (fun H locs hH hlo => ?_)
  obtain ⟨E2, e2, hH⟩ : ∃ z, z = uE E1 (j) (.inr (8, [.null, .ref (B + (n)), .null, .null, .null, .null, .null, .null, vi 0, vi 0, vi 0])) ∧ CHp (zD Z) B H0 (n + 1) z H := ⟨_, rfl, hH⟩
  have hA : E2 (n) = .inl (zC Z 6, 60, .inr (.inr (.inr (.inr fun _ => none)))) := by rw [e2]; exact (uE_ne (by omega)).trans hA
  have h_j : E2 (j) = .inr (8, [.null, .ref (B + (n)), .null, .null, .null, .null, .null, .null, vi 0, vi 0, vi 0]) := by rw [e2]; exact uE_self _ _ _
  refine lv_aload_n b.1 b.2.1 dX6_init_13 rfl (lv_at hl 0 rfl) ?_
  refine lv_bipush (v := Int32.ofInt 60) b.1 b.2.1 dX6_init_14 (by decide) ?_
  refine ch_newa (atype := .int) (ty := .int) (cA := zC Z 0) (t0 := 0) (N' := 60) b hH (li_1 57 (by decide +kernel) (by decide +kernel)) rfl rfl (fun _ h => h) rfl (by decide) (Nat.le_of_ble_eq_true rfl) (show _ ≤ (7 : Nat) by omega) (show _ ≤ (362 : Nat) by omega) dX6_init_16 (fun H hH => ?_)
  obtain ⟨E3, e3, hH⟩ : ∃ z, z = uE E2 (n + 1) (arI (zC Z 0) 60 (fun _ => 0)) ∧ CHp (zD Z) B H0 (n + 2) z H := ⟨_, rfl, hH⟩
  have h_j : E3 (j) = .inr (8, [.null, .ref (B + (n)), .null, .null, .null, .null, .null, .null, vi 0, vi 0, vi 0]) := by rw [e3]; exact (uE_ne (by omega)).trans h_j
  have hA : E3 (n) = .inl (zC Z 6, 60, .inr (.inr (.inr (.inr fun _ => none)))) := by rw [e3]; exact (uE_ne (by omega)).trans hA
  refine ch_putG (k := 2) (j := j) (ty0 := tyX6) (fin := true) b hH (by omega) h_j rfl in_8 tyX6_ok nmX6 (by decide) rfl (Nat.le_of_ble_eq_true rfl) rfl rfl hnm rfl hlo hzB (li_2 2 (by decide +kernel) (by decide +kernel)) dX6_init_18 (fun H locs hH hlo => ?_)
  obtain ⟨E4, e4, hH⟩ : ∃ z, z = uE E3 (j) (.inr (8, [.null, .ref (B + (n)), .ref (B + (n + 1)), .null, .null, .null, .null, .null, vi 0, vi 0, vi 0])) ∧ CHp (zD Z) B H0 (n + 2) z H := ⟨_, rfl, hH⟩
  have hA : E4 (n) = .inl (zC Z 6, 60, .inr (.inr (.inr (.inr fun _ => none)))) := by rw [e4]; exact (uE_ne (by omega)).trans hA
  have h_j : E4 (j) = .inr (8, [.null, .ref (B + (n)), .ref (B + (n + 1)), .null, .null, .null, .null, .null, vi 0, vi 0, vi 0]) := by rw [e4]; exact uE_self _ _ _
  refine lv_aload_n b.1 b.2.1 dX6_init_21 rfl (lv_at hl 0 rfl) ?_
  refine lv_bipush (v := Int32.ofInt 60) b.1 b.2.1 dX6_init_22 (by decide) ?_
  refine ch_newa (atype := .int) (ty := .int) (cA := zC Z 0) (t0 := 0) (N' := 60) b hH (li_1 57 (by decide +kernel) (by decide +kernel)) rfl rfl (fun _ h => h) rfl (by decide) (Nat.le_of_ble_eq_true rfl) (show _ ≤ (7 : Nat) by omega) (show _ ≤ (362 : Nat) by omega) dX6_init_24 (fun H hH => ?_)
  obtain ⟨E5, e5, hH⟩ : ∃ z, z = uE E4 (n + 2) (arI (zC Z 0) 60 (fun _ => 0)) ∧ CHp (zD Z) B H0 (n + 3) z H := ⟨_, rfl, hH⟩
  have h_j : E5 (j) = .inr (8, [.null, .ref (B + (n)), .ref (B + (n + 1)), .null, .null, .null, .null, .null, vi 0, vi 0, vi 0]) := by rw [e5]; exact (uE_ne (by omega)).trans h_j
  have hA : E5 (n) = .inl (zC Z 6, 60, .inr (.inr (.inr (.inr fun _ => none)))) := by rw [e5]; exact (uE_ne (by omega)).trans hA
  refine ch_putG (k := 3) (j := j) (ty0 := tyX6) (fin := true) b hH (by omega) h_j rfl in_8 tyX6_ok nmX6 (by decide) rfl (Nat.le_of_ble_eq_true rfl) rfl rfl hnm rfl hlo hzB (li_2 3 (by decide +kernel) (by decide +kernel)) dX6_init_26 (fun H locs hH hlo => ?_)
  obtain ⟨E6, e6, hH⟩ : ∃ z, z = uE E5 (j) (.inr (8, [.null, .ref (B + (n)), .ref (B + (n + 1)), .ref (B + (n + 2)), .null, .null, .null, .null, vi 0, vi 0, vi 0])) ∧ CHp (zD Z) B H0 (n + 3) z H := ⟨_, rfl, hH⟩
  have hA : E6 (n) = .inl (zC Z 6, 60, .inr (.inr (.inr (.inr fun _ => none)))) := by rw [e6]; exact (uE_ne (by omega)).trans hA
  have h_j : E6 (j) = .inr (8, [.null, .ref (B + (n)), .ref (B + (n + 1)), .ref (B + (n + 2)), .null, .null, .null, .null, vi 0, vi 0, vi 0]) := by rw [e6]; exact uE_self _ _ _
  refine lv_aload_n b.1 b.2.1 dX6_init_29 rfl (lv_at hl 0 rfl) ?_
  refine lv_bipush (v := Int32.ofInt 60) b.1 b.2.1 dX6_init_30 (by decide) ?_
  refine ch_newa (atype := .int) (ty := .int) (cA := zC Z 0) (t0 := 0) (N' := 60) b hH (li_1 57 (by decide +kernel) (by decide +kernel)) rfl rfl (fun _ h => h) rfl (by decide) (Nat.le_of_ble_eq_true rfl) (show _ ≤ (7 : Nat) by omega) (show _ ≤ (362 : Nat) by omega) dX6_init_32 (fun H hH => ?_)
  obtain ⟨E7, e7, hH⟩ : ∃ z, z = uE E6 (n + 3) (arI (zC Z 0) 60 (fun _ => 0)) ∧ CHp (zD Z) B H0 (n + 4) z H := ⟨_, rfl, hH⟩
  have h_j : E7 (j) = .inr (8, [.null, .ref (B + (n)), .ref (B + (n + 1)), .ref (B + (n + 2)), .null, .null, .null, .null, vi 0, vi 0, vi 0]) := by rw [e7]; exact (uE_ne (by omega)).trans h_j
  have hA : E7 (n) = .inl (zC Z 6, 60, .inr (.inr (.inr (.inr fun _ => none)))) := by rw [e7]; exact (uE_ne (by omega)).trans hA
  refine ch_putG (k := 4) (j := j) (ty0 := tyX6) (fin := true) b hH (by omega) h_j rfl in_8 tyX6_ok nmX6 (by decide) rfl (Nat.le_of_ble_eq_true rfl) rfl rfl hnm rfl hlo hzB (li_2 4 (by decide +kernel) (by decide +kernel)) dX6_init_34 (fun H locs hH hlo => ?_)
  obtain ⟨E8, e8, hH⟩ : ∃ z, z = uE E7 (j) (.inr (8, [.null, .ref (B + (n)), .ref (B + (n + 1)), .ref (B + (n + 2)), .ref (B + (n + 3)), .null, .null, .null, vi 0, vi 0, vi 0])) ∧ CHp (zD Z) B H0 (n + 4) z H := ⟨_, rfl, hH⟩
  have hA : E8 (n) = .inl (zC Z 6, 60, .inr (.inr (.inr (.inr fun _ => none)))) := by rw [e8]; exact (uE_ne (by omega)).trans hA
  have h_j : E8 (j) = .inr (8, [.null, .ref (B + (n)), .ref (B + (n + 1)), .ref (B + (n + 2)), .ref (B + (n + 3)), .null, .null, .null, vi 0, vi 0, vi 0]) := by rw [e8]; exact uE_self _ _ _
  refine lv_aload_n b.1 b.2.1 dX6_init_37 rfl (lv_at hl 0 rfl) ?_
  refine lv_bipush (v := Int32.ofInt 60) b.1 b.2.1 dX6_init_38 (by decide) ?_
  refine ch_newa (atype := .int) (ty := .int) (cA := zC Z 0) (t0 := 0) (N' := 60) b hH (li_1 57 (by decide +kernel) (by decide +kernel)) rfl rfl (fun _ h => h) rfl (by decide) (Nat.le_of_ble_eq_true rfl) (show _ ≤ (7 : Nat) by omega) (show _ ≤ (362 : Nat) by omega) dX6_init_40 (fun H hH => ?_)
  obtain ⟨E9, e9, hH⟩ : ∃ z, z = uE E8 (n + 4) (arI (zC Z 0) 60 (fun _ => 0)) ∧ CHp (zD Z) B H0 (n + 5) z H := ⟨_, rfl, hH⟩
  have h_j : E9 (j) = .inr (8, [.null, .ref (B + (n)), .ref (B + (n + 1)), .ref (B + (n + 2)), .ref (B + (n + 3)), .null, .null, .null, vi 0, vi 0, vi 0]) := by rw [e9]; exact (uE_ne (by omega)).trans h_j
  have hA : E9 (n) = .inl (zC Z 6, 60, .inr (.inr (.inr (.inr fun _ => none)))) := by rw [e9]; exact (uE_ne (by omega)).trans hA
  refine ch_putG (k := 5) (j := j) (ty0 := tyX6) (fin := true) b hH (by omega) h_j rfl in_8 tyX6_ok nmX6 (by decide) rfl (Nat.le_of_ble_eq_true rfl) rfl rfl hnm rfl hlo hzB (li_2 5 (by decide +kernel) (by decide +kernel)) dX6_init_42 (fun H locs hH hlo => ?_)
  obtain ⟨E10, e10, hH⟩ : ∃ z, z = uE E9 (j) (.inr (8, [.null, .ref (B + (n)), .ref (B + (n + 1)), .ref (B + (n + 2)), .ref (B + (n + 3)), .ref (B + (n + 4)), .null, .null, vi 0, vi 0, vi 0])) ∧ CHp (zD Z) B H0 (n + 5) z H := ⟨_, rfl, hH⟩
  have hA : E10 (n) = .inl (zC Z 6, 60, .inr (.inr (.inr (.inr fun _ => none)))) := by rw [e10]; exact (uE_ne (by omega)).trans hA
  have h_j : E10 (j) = .inr (8, [.null, .ref (B + (n)), .ref (B + (n + 1)), .ref (B + (n + 2)), .ref (B + (n + 3)), .ref (B + (n + 4)), .null, .null, vi 0, vi 0, vi 0]) := by rw [e10]; exact uE_self _ _ _
  refine lv_aload_n b.1 b.2.1 dX6_init_45 rfl (lv_at hl 0 rfl) ?_
  refine lv_bipush (v := Int32.ofInt 60) b.1 b.2.1 dX6_init_46 (by decide) ?_
  refine ch_newa (atype := .int) (ty := .int) (cA := zC Z 0) (t0 := 0) (N' := 60) b hH (li_1 57 (by decide +kernel) (by decide +kernel)) rfl rfl (fun _ h => h) rfl (by decide) (Nat.le_of_ble_eq_true rfl) (show _ ≤ (7 : Nat) by omega) (show _ ≤ (362 : Nat) by omega) dX6_init_48 (fun H hH => ?_)
  obtain ⟨E11, e11, hH⟩ : ∃ z, z = uE E10 (n + 5) (arI (zC Z 0) 60 (fun _ => 0)) ∧ CHp (zD Z) B H0 (n + 6) z H := ⟨_, rfl, hH⟩
  have h_j : E11 (j) = .inr (8, [.null, .ref (B + (n)), .ref (B + (n + 1)), .ref (B + (n + 2)), .ref (B + (n + 3)), .ref (B + (n + 4)), .null, .null, vi 0, vi 0, vi 0]) := by rw [e11]; exact (uE_ne (by omega)).trans h_j
  have hA : E11 (n) = .inl (zC Z 6, 60, .inr (.inr (.inr (.inr fun _ => none)))) := by rw [e11]; exact (uE_ne (by omega)).trans hA
  refine ch_putG (k := 6) (j := j) (ty0 := tyX6) (fin := true) b hH (by omega) h_j rfl in_8 tyX6_ok nmX6 (by decide) rfl (Nat.le_of_ble_eq_true rfl) rfl rfl hnm rfl hlo hzB (li_2 6 (by decide +kernel) (by decide +kernel)) dX6_init_50 (fun H locs hH hlo => ?_)
  obtain ⟨E12, e12, hH⟩ : ∃ z, z = uE E11 (j) (.inr (8, [.null, .ref (B + (n)), .ref (B + (n + 1)), .ref (B + (n + 2)), .ref (B + (n + 3)), .ref (B + (n + 4)), .ref (B + (n + 5)), .null, vi 0, vi 0, vi 0])) ∧ CHp (zD Z) B H0 (n + 6) z H := ⟨_, rfl, hH⟩
  have hA : E12 (n) = .inl (zC Z 6, 60, .inr (.inr (.inr (.inr fun _ => none)))) := by rw [e12]; exact (uE_ne (by omega)).trans hA
  have h_j : E12 (j) = .inr (8, [.null, .ref (B + (n)), .ref (B + (n + 1)), .ref (B + (n + 2)), .ref (B + (n + 3)), .ref (B + (n + 4)), .ref (B + (n + 5)), .null, vi 0, vi 0, vi 0]) := by rw [e12]; exact uE_self _ _ _
  refine lv_aload_n b.1 b.2.1 dX6_init_53 rfl (lv_at hl 0 rfl) ?_
  refine lv_iconst (v := Int32.ofInt 2) b.1 b.2.1 dX6_init_54 rfl ?_
  refine ch_newa (atype := .int) (ty := .int) (cA := zC Z 0) (t0 := 0) (N' := 2) b hH (li_1 57 (by decide +kernel) (by decide +kernel)) rfl rfl (fun _ h => h) rfl (by decide) (Nat.le_of_ble_eq_true rfl) (show _ ≤ (7 : Nat) by omega) (show _ ≤ (362 : Nat) by omega) dX6_init_55 (fun H hH => ?_)
  obtain ⟨E13, e13, hH⟩ : ∃ z, z = uE E12 (n + 6) (arI (zC Z 0) 2 (fun _ => 0)) ∧ CHp (zD Z) B H0 (n + 7) z H := ⟨_, rfl, hH⟩
  have h_j : E13 (j) = .inr (8, [.null, .ref (B + (n)), .ref (B + (n + 1)), .ref (B + (n + 2)), .ref (B + (n + 3)), .ref (B + (n + 4)), .ref (B + (n + 5)), .null, vi 0, vi 0, vi 0]) := by rw [e13]; exact (uE_ne (by omega)).trans h_j
  have hA : E13 (n) = .inl (zC Z 6, 60, .inr (.inr (.inr (.inr fun _ => none)))) := by rw [e13]; exact (uE_ne (by omega)).trans hA
  refine ch_putG (k := 7) (j := j) (ty0 := tyX6) (fin := true) b hH (by omega) h_j rfl in_8 tyX6_ok nmX6 (by decide) rfl (Nat.le_of_ble_eq_true rfl) rfl rfl hnm rfl hlo hzB (li_2 7 (by decide +kernel) (by decide +kernel)) dX6_init_57 (fun H locs hH hlo => ?_)
  obtain ⟨E14, e14, hH⟩ : ∃ z, z = uE E13 (j) (.inr (8, [.null, .ref (B + (n)), .ref (B + (n + 1)), .ref (B + (n + 2)), .ref (B + (n + 3)), .ref (B + (n + 4)), .ref (B + (n + 5)), .ref (B + (n + 6)), vi 0, vi 0, vi 0])) ∧ CHp (zD Z) B H0 (n + 7) z H := ⟨_, rfl, hH⟩
  have hA : E14 (n) = .inl (zC Z 6, 60, .inr (.inr (.inr (.inr fun _ => none)))) := by rw [e14]; exact (uE_ne (by omega)).trans hA
  have h_j : E14 (j) = .inr (8, [.null, .ref (B + (n)), .ref (B + (n + 1)), .ref (B + (n + 2)), .ref (B + (n + 3)), .ref (B + (n + 4)), .ref (B + (n + 5)), .ref (B + (n + 6)), vi 0, vi 0, vi 0]) := by rw [e14]; exact uE_self _ _ _
  refine lv_aload_n b.1 b.2.1 dX6_init_60 rfl (lv_at hl 0 rfl) ?_
  refine lv_aload_n b.1 b.2.1 dX6_init_61 rfl (lv_at hl 1 rfl) ?_
  refine ch_putG (k := 0) (j := j) (ty0 := tyX6) (fin := true) b hH (by omega) h_j rfl in_8 tyX6_ok nmX6 (by decide) rfl (Nat.le_of_ble_eq_true rfl) rfl rfl hnm rfl hlo hzB (li_2 0 (by decide +kernel) (by decide +kernel)) dX6_init_62 (fun H locs hH hlo => ?_)
  obtain ⟨E15, e15, hH⟩ : ∃ z, z = uE E14 (j) (.inr (8, [.ref a1, .ref (B + (n)), .ref (B + (n + 1)), .ref (B + (n + 2)), .ref (B + (n + 3)), .ref (B + (n + 4)), .ref (B + (n + 5)), .ref (B + (n + 6)), vi 0, vi 0, vi 0])) ∧ CHp (zD Z) B H0 (n + 7) z H := ⟨_, rfl, hH⟩
  have hA : E15 (n) = .inl (zC Z 6, 60, .inr (.inr (.inr (.inr fun _ => none)))) := by rw [e15]; exact (uE_ne (by omega)).trans hA
  have h_j : E15 (j) = .inr (8, [.ref a1, .ref (B + (n)), .ref (B + (n + 1)), .ref (B + (n + 2)), .ref (B + (n + 3)), .ref (B + (n + 4)), .ref (B + (n + 5)), .ref (B + (n + 6)), vi 0, vi 0, vi 0]) := by rw [e15]; exact uE_self _ _ _
  refine lv_iconst (v := Int32.ofInt 0) b.1 b.2.1 dX6_init_65 rfl ?_
  refine lv_istore_n (lv' := [(2, vi 0), (0, .ref (B + j)), (1, .ref a1)]) b.1 b.2.1 dX6_init_66 rfl hl (by decide) rfl (fun ls hl => ?_)
  refine W.widen (k := 7 + 0 * 0) (n := 362 + 0 * 0) (by omega) (by omega) ?_
  exact lp0 60 0 E15 H locs ls (by omega) (by subst e1 e2 e3 e4 e5 e6 e7 e8 e9 e10 e11 e12 e13 e14 e15 eE; rfl) hH h_j hA hlo (lv_sub hl [1, 2, 0] rfl)
def G_f (B n : Nat) : Nat → Nat → Option Nat
  | 0 => fun _ => none
  | i + 1 => va_up (G_f B n i) i (some (B + (n + 9 + 2 * i)))
def P_RX1 (Z : ZT) (B n j : Nat) (E : Nat → va_E) : Nat → va_E := uE (uE (uE (uE (uE (uE (uE (E_RX5 Z B (n + 6) (n + 5) (uE (uE (uE (uE (E_RX5 Z B (n + 3) (n + 2) (uE (uE (E_RX5 Z B (n + 1) (n) (uE E (n) (.inr (2, [.null, vi 0]))) ) (j) (.inr (1, [.ref (B + (n)), .null, .null, .null, .null, .null, vi 0, vi 0, vi 0, vi 0]))) (n + 2) (.inr (2, [.null, vi 0]))) ) (j) (.inr (1, [.ref (B + (n)), .ref (B + (n + 2)), .null, .null, .null, .null, vi 0, vi 0, vi 0, vi 0]))) (n + 4) (.inl (zC Z 4, 40, .inr (.inr (.inr (.inr fun _ => none)))))) (j) (.inr (1, [.ref (B + (n)), .ref (B + (n + 2)), .ref (B + (n + 4)), .null, .null, .null, vi 0, vi 0, vi 0, vi 0]))) (n + 5) (.inr (2, [.null, vi 0]))) ) (j) (.inr (1, [.ref (B + (n)), .ref (B + (n + 2)), .ref (B + (n + 4)), .ref (B + (n + 5)), .null, .null, vi 0, vi 0, vi 0, vi 0]))) (n + 7) (arI (zC Z 0) 40 (fun _ => 0))) (j) (.inr (1, [.ref (B + (n)), .ref (B + (n + 2)), .ref (B + (n + 4)), .ref (B + (n + 5)), .ref (B + (n + 7)), .null, vi 0, vi 0, vi 0, vi 0]))) (n + 8) (arI (zC Z 0) 9 (fun _ => 0))) (j) (.inr (1, [.ref (B + (n)), .ref (B + (n + 2)), .ref (B + (n + 4)), .ref (B + (n + 5)), .ref (B + (n + 7)), .ref (B + (n + 8)), vi 0, vi 0, vi 0, vi 0]))) (j) (.inr (1, [.ref (B + (n)), .ref (B + (n + 2)), .ref (B + (n + 4)), .ref (B + (n + 5)), .ref (B + (n + 7)), .ref (B + (n + 8)), vi 2, vi 0, vi 0, vi 0]))) (j) (.inr (1, [.ref (B + (n)), .ref (B + (n + 2)), .ref (B + (n + 4)), .ref (B + (n + 5)), .ref (B + (n + 7)), .ref (B + (n + 8)), vi 2, vi 0, vi 1, vi 0]))
def L0_RX1 (Z : ZT) (B n j : Nat) (E0 : Nat → va_E) : Nat → Nat → va_E
  | 0 => P_RX1 Z B n j E0
  | i + 1 => (fun E => uE (E_RX5 Z B (n + 9 + 2 * i + 1) (n + 9 + 2 * i) (uE E (n + 9 + 2 * i) (.inr (2, [.null, vi 0]))) ) (n + 4) (.inl (zC Z 4, 40, .inr (.inr (.inr (.inr (va_up (G_f B n i) i (some (B + (n + 9 + 2 * i)))))))))) (L0_RX1 Z B n j E0 i)
def E_RX1 (Z : ZT) (B n j : Nat) (E : Nat → va_E) : Nat → va_E := L0_RX1 Z B n j E 40
theorem L0_RX1_old {Z : ZT} {B n j q : Nat} {E : Nat → va_E} (h1 : q ≠ n + 4) : ∀ i : Nat, q < n + 9 → L0_RX1 Z B n j E i q = P_RX1 Z B n j E q
  | 0, _ => rfl
  | i + 1, h2 => by
    refine (uE_ne h1).trans ((E_RX5_old (by omega) (by omega)).trans ((uE_ne (by omega)).trans (L0_RX1_old h1 i h2)))
theorem E_RX1_old {Z : ZT} {B n j q : Nat} {E : Nat → va_E} (h1 : q ≠ j) (h2 : q < n) : E_RX1 Z B n j E q = E q := by
  refine (L0_RX1_old (by omega) 40 (by omega)).trans ?_
  simp only [P_RX1, E_RX5, uE_ne h1, uE]
  repeat (rw [if_neg (by omega)])
def gObj (Z : ZT) (B n : Nat) : va_E := .inr (1, [.ref (B + (n)), .ref (B + (n + 2)), .ref (B + (n + 4)), .ref (B + (n + 5)), .ref (B + (n + 7)), .ref (B + (n + 8)), vi 2, vi 0, vi 1, vi 0])
theorem E_RX1_self {Z : ZT} {B n j : Nat} {E : Nat → va_E} (hj : j < n) : E_RX1 Z B n j E j = gObj Z B n := by
  refine (L0_RX1_old (by omega) 40 (by omega)).trans ?_
  exact uE_self _ _ _
set_option maxRecDepth 20000 in
set_option maxHeartbeats 4000000 in
theorem C_RX1 (Z : ZT) (B : Nat) (H0 : Heap) (n j : Nat) (E0 : Nat → va_E) (hzB : zB Z ≤ B) (hj : j < n) (h_j : E0 j = .inr (1, [.null, .null, .null, .null, .null, .null, vi 0, vi 0, vi 0, vi 0])) : RunsC Z yX1_init cX1_init 2 2 [.ref (B + j)] 89 175 (CHp (zD Z) B H0 n E0) (CHp (zD Z) B H0 (n + 89) (E_RX1 Z B n j E0)) := by
  refine RunsC.of (by decide +kernel) rfl (Nat.le_of_ble_eq_true rfl) ?_
  intro p l e s m args below meth c ls hfl b hH hr hlk hnm hl
  have hl : lv_has ls 2 [(0, .ref (B + j))] := hl
  have b : BB p s m args c RX1 cX1_init 2 Z := b
  obtain ⟨H, eH⟩ : ∃ z, z = s.heap := ⟨_, rfl⟩
  rw [← eH] at hH ⊢
  have hlo : ∀ q ∈ ([] : List Loc), zN Z q.base := fun q hq => by cases hq
  have lp0 : ∀ (d i : Nat) (E : Nat → va_E) (H : Heap) (locs : List Loc) (ls : Array Slot), i + d = 40 → E = (L0_RX1 Z B n j E0) i → CHp (zD Z) B H0 (n + 9 + 2 * i) E H → E (j) = .inr (1, [.ref (B + (n)), .ref (B + (n + 2)), .ref (B + (n + 4)), .ref (B + (n + 5)), .ref (B + (n + 7)), .ref (B + (n + 8)), vi 2, vi 0, vi 1, vi 0]) → E (n + 4) = .inl (zC Z 4, 40, .inr (.inr (.inr (.inr (G_f B n i))))) → (∀ q ∈ locs, zN Z q.base) → lv_has ls 2 [(0, .ref (B + j)), (1, vi ((i : Nat) : Int))] → W p l e (rmH 2 89 175) s m args below meth c H locs (9 + 2 * i) (95 + 2 * i) (MQ below (QcC (CHp (zD Z) B H0 (n + 89) (E_RX1 Z B n j E0))) args s 89 175 (zN Z)) (F0 m 74 ls []) := by
    intro d
    induction d with
    | zero =>
      intro i E H locs ls hi hE hH h_j hA hlo hl
      refine lv_iload_n b.1 b.2.1 dX1_init_74 rfl (lv_at hl 1 rfl) ?_
      refine lv_bipush (v := Int32.ofInt 40) b.1 b.2.1 dX1_init_75 (by decide) ?_
      refine lv_icmp_ge (tgt := 99) b.1 b.2.1 dX1_init_77 (by decide) (fun c1 => ?_) (fun c1 => ?_)
      · obtain rfl : i = 40 := by omega
        refine ch_ret b hr hlk hlo ?_ (show _ ≤ (89 : Nat) by omega) (show _ ≤ (175 : Nat) by omega) dX1_init_99
        rw [hE] at hH
        exact hH
      · exact absurd ((w_le _ _).mpr (by rw [w32_of (by omega) (by omega), w32_of (by omega) (by omega)]; omega)) c1
    | succ d ih =>
      intro i E H locs ls hi hE hH h_j hA hlo hl
      refine lv_iload_n b.1 b.2.1 dX1_init_74 rfl (lv_at hl 1 rfl) ?_
      refine lv_bipush (v := Int32.ofInt 40) b.1 b.2.1 dX1_init_75 (by decide) ?_
      refine lv_icmp_ge (tgt := 99) b.1 b.2.1 dX1_init_77 (by decide) (fun c1 => ?_) (fun c1 => ?_)
      · exact absurd (show w32 ((i : Nat) : Int) < w32 40 by rw [w32_of (by omega) (by omega), w32_of (by omega) (by omega)]; omega) ((w_le _ _).mp c1)
      · skip
        refine lv_aload_n b.1 b.2.1 dX1_init_80 rfl (lv_at hl 0 rfl) ?_
        refine ch_get (k := 2) (j := j) b hH (by omega) h_j rfl in_1 (by decide) rfl rfl (li_1 61 (by decide +kernel) (by decide +kernel)) dX1_init_81 ?_
        refine lv_iload_n b.1 b.2.1 dX1_init_84 rfl (lv_at hl 1 rfl) ?_
        refine ch_new (ci := 2) tyX5 [.null, vi 0] b hH in_2 tyX5_ok (li_1 44 (by decide +kernel) (by decide +kernel)) (li_1 45 (by decide +kernel) (by decide +kernel)) (li_1 3 (by decide +kernel) (by decide +kernel)) rfl (fun j hj => by rcases (show j = 0 ∨ j = 1 by omega) with rfl | rfl <;> rfl) (show _ ≤ (89 : Nat) by omega) (show _ ≤ (175 : Nat) by omega) dX1_init_85 (fun H hH => ?_)
        obtain ⟨E101, e101, hH⟩ : ∃ z, z = uE E (n + 9 + 2 * i) (.inr (2, [.null, vi 0])) ∧ CHp (zD Z) B H0 (n + 9 + 2 * i + 1) z H := ⟨_, rfl, hH⟩
        have h_j : E101 (j) = .inr (1, [.ref (B + (n)), .ref (B + (n + 2)), .ref (B + (n + 4)), .ref (B + (n + 5)), .ref (B + (n + 7)), .ref (B + (n + 8)), vi 2, vi 0, vi 1, vi 0]) := by rw [e101]; exact (uE_ne (by omega)).trans h_j
        have hA : E101 (n + 4) = .inl (zC Z 4, 40, .inr (.inr (.inr (.inr (G_f B n i))))) := by rw [e101]; exact (uE_ne (by omega)).trans hA
        have hn4 : E101 (n + 9 + 2 * i) = .inr (2, [.null, vi 0]) := by rw [e101]; exact uE_self _ _ _
        refine lv_dup b.1 b.2.1 dX1_init_88 rfl ?_
        refine ch_callN (y' := yX5_init) (cc' := cX5_init) (maxL' := 1) (h' := 1) (nA := 0) (a := B + (n + 9 + 2 * i)) (As := []) (rest := [.ref (B + (n + 9 + 2 * i)), vi ((i : Nat) : Int), .ref (B + (n + 4))]) (host := "PairRules") b hl.1 (C_RX5 Z B H0 (n + 9 + 2 * i + 1) (n + 9 + 2 * i) E101 hzB (by omega) hn4) hH hfl (li_1 48 (by decide +kernel) (by decide +kernel)) (nw_in 183 (by decide +kernel) (by decide +kernel)) (li_1 47 (by decide +kernel) (by decide +kernel)) (li_1 3 (by decide +kernel) (by decide +kernel)) rfl (by decide +kernel) rfl rfl ⟨Nat.le_of_ble_eq_true rfl, Nat.le_of_ble_eq_true rfl⟩ (Nat.le_of_ble_eq_true rfl) ⟨show _ ≤ (89 : Nat) by omega, show _ ≤ (175 : Nat) by omega⟩ hlo dX1_init_89 (fun H locs hH hlo => ?_)
        obtain ⟨E102, e102, hH⟩ : ∃ z, z = E_RX5 Z B (n + 9 + 2 * i + 1) (n + 9 + 2 * i) E101  ∧ CHp (zD Z) B H0 (n + 9 + 2 * i + 2) z H := ⟨_, rfl, hH⟩
        have h_j : E102 (j) = .inr (1, [.ref (B + (n)), .ref (B + (n + 2)), .ref (B + (n + 4)), .ref (B + (n + 5)), .ref (B + (n + 7)), .ref (B + (n + 8)), vi 2, vi 0, vi 1, vi 0]) := by rw [e102]; exact (E_RX5_old (by omega) (by omega)).trans h_j
        have hA : E102 (n + 4) = .inl (zC Z 4, 40, .inr (.inr (.inr (.inr (G_f B n i))))) := by rw [e102]; exact (E_RX5_old (by omega) (by omega)).trans hA
        have hx1 : E102 (n + 9 + 2 * i) = .inr (2, [.ref (B + (n + 9 + 2 * i + 1)), vi 0]) := by rw [e102]; exact E_RX5_self
        refine ch_aast (t0 := 4) (ci := 2) (N' := 40) (x' := ((i : Nat) : Int)) (j := n + 4) (j2 := n + 9 + 2 * i) b hH (by omega) hA (by omega) hx1 rfl rfl (w32_of (by omega) (by omega)) (by omega) hlo hzB dX1_init_92 (fun H locs hH hlo => ?_)
        obtain ⟨E103, e103, hH⟩ : ∃ z, z = uE E102 (n + 4) (.inl (zC Z 4, 40, .inr (.inr (.inr (.inr (va_up (G_f B n i) i (some (B + (n + 9 + 2 * i))))))))) ∧ CHp (zD Z) B H0 (n + 9 + 2 * i + 2) z H := ⟨_, rfl, hH⟩
        have h_j : E103 (j) = .inr (1, [.ref (B + (n)), .ref (B + (n + 2)), .ref (B + (n + 4)), .ref (B + (n + 5)), .ref (B + (n + 7)), .ref (B + (n + 8)), vi 2, vi 0, vi 1, vi 0]) := by rw [e103]; exact (uE_ne (by omega)).trans h_j
        have hA : E103 (n + 4) = .inl (zC Z 4, 40, .inr (.inr (.inr (.inr (va_up (G_f B n i) i (some (B + (n + 9 + 2 * i)))))))) := by rw [e103]; exact uE_self _ _ _
        refine lv_iinc (v := Int32.ofInt (((i : Nat) : Int) + 1)) (lv' := [(1, vi (((i : Nat) : Int) + 1)), (0, .ref (B + j))]) b.1 b.2.1 dX1_init_93 hl (k := 1) rfl (i_add _ _) (by decide) rfl (fun ls hl => ?_)
        refine lv_goto (tgt := 74) b.1 b.2.1 dX1_init_96 (by decide) ?_
        refine W.widen (k := 9 + 2 * (i + 1)) (n := 95 + 2 * (i + 1)) (by omega) (by omega) ?_
        exact ih (i + 1) E103 H locs ls (by omega) (by subst e101 e102 e103; rw [hE]; rfl) (by rw [show n + 9 + 2 * (i + 1) = n + 9 + 2 * i + 2 by omega]; exact hH) h_j hA hlo (lv_sub hl [1, 0] rfl)
  obtain ⟨E, eE⟩ : ∃ z, z = E0 := ⟨_, rfl⟩
  rw [← eE] at h_j hH
  refine lv_aload_n b.1 b.2.1 dX1_init_0 rfl (lv_at hl 0 rfl) ?_
  refine ch_obj b hl.1 (li_1 43 (by decide +kernel) (by decide +kernel)) (Nat.le_of_ble_eq_true rfl) (Nat.le_of_ble_eq_true rfl) dX1_init_1 ?_
  refine lv_aload_n b.1 b.2.1 dX1_init_4 rfl (lv_at hl 0 rfl) ?_
  refine ch_new (ci := 2) tyX5 [.null, vi 0] b hH in_2 tyX5_ok (li_1 44 (by decide +kernel) (by decide +kernel)) (li_1 45 (by decide +kernel) (by decide +kernel)) (li_1 3 (by decide +kernel) (by decide +kernel)) rfl (fun j hj => by rcases (show j = 0 ∨ j = 1 by omega) with rfl | rfl <;> rfl) (show _ ≤ (89 : Nat) by omega) (show _ ≤ (175 : Nat) by omega) dX1_init_5 (fun H hH => ?_)
  obtain ⟨E1, e1, hH⟩ : ∃ z, z = uE E (n) (.inr (2, [.null, vi 0])) ∧ CHp (zD Z) B H0 (n + 1) z H := ⟨_, rfl, hH⟩
  have h_j : E1 (j) = .inr (1, [.null, .null, .null, .null, .null, .null, vi 0, vi 0, vi 0, vi 0]) := by rw [e1]; exact (uE_ne (by omega)).trans h_j
  have hn1 : E1 (n) = .inr (2, [.null, vi 0]) := by rw [e1]; exact uE_self _ _ _
  refine lv_dup b.1 b.2.1 dX1_init_8 rfl ?_
  refine ch_callN (y' := yX5_init) (cc' := cX5_init) (maxL' := 1) (h' := 1) (nA := 0) (a := B + (n)) (As := []) (rest := [.ref (B + (n)), .ref (B + j)]) (host := "PairRules") b hl.1 (C_RX5 Z B H0 (n + 1) (n) E1 hzB (by omega) hn1) hH hfl (li_1 48 (by decide +kernel) (by decide +kernel)) (nw_in 183 (by decide +kernel) (by decide +kernel)) (li_1 47 (by decide +kernel) (by decide +kernel)) (li_1 3 (by decide +kernel) (by decide +kernel)) rfl (by decide +kernel) rfl rfl ⟨Nat.le_of_ble_eq_true rfl, Nat.le_of_ble_eq_true rfl⟩ (Nat.le_of_ble_eq_true rfl) ⟨show _ ≤ (89 : Nat) by omega, show _ ≤ (175 : Nat) by omega⟩ hlo dX1_init_9 (fun H locs hH hlo => ?_)
  obtain ⟨E2, e2, hH⟩ : ∃ z, z = E_RX5 Z B (n + 1) (n) E1  ∧ CHp (zD Z) B H0 (n + 2) z H := ⟨_, rfl, hH⟩
  have h_j : E2 (j) = .inr (1, [.null, .null, .null, .null, .null, .null, vi 0, vi 0, vi 0, vi 0]) := by rw [e2]; exact (E_RX5_old (by omega) (by omega)).trans h_j
  refine ch_putG (k := 0) (j := j) (ty0 := tyX1) (fin := true) b hH (by omega) h_j rfl in_1 tyX1_ok nmX1 (by decide) rfl (Nat.le_of_ble_eq_true rfl) rfl rfl hnm rfl hlo hzB (li_1 59 (by decide +kernel) (by decide +kernel)) dX1_init_12 (fun H locs hH hlo => ?_)
  obtain ⟨E3, e3, hH⟩ : ∃ z, z = uE E2 (j) (.inr (1, [.ref (B + (n)), .null, .null, .null, .null, .null, vi 0, vi 0, vi 0, vi 0])) ∧ CHp (zD Z) B H0 (n + 2) z H := ⟨_, rfl, hH⟩
  have h_j : E3 (j) = .inr (1, [.ref (B + (n)), .null, .null, .null, .null, .null, vi 0, vi 0, vi 0, vi 0]) := by rw [e3]; exact uE_self _ _ _
  refine lv_aload_n b.1 b.2.1 dX1_init_15 rfl (lv_at hl 0 rfl) ?_
  refine ch_new (ci := 2) tyX5 [.null, vi 0] b hH in_2 tyX5_ok (li_1 44 (by decide +kernel) (by decide +kernel)) (li_1 45 (by decide +kernel) (by decide +kernel)) (li_1 3 (by decide +kernel) (by decide +kernel)) rfl (fun j hj => by rcases (show j = 0 ∨ j = 1 by omega) with rfl | rfl <;> rfl) (show _ ≤ (89 : Nat) by omega) (show _ ≤ (175 : Nat) by omega) dX1_init_16 (fun H hH => ?_)
  obtain ⟨E4, e4, hH⟩ : ∃ z, z = uE E3 (n + 2) (.inr (2, [.null, vi 0])) ∧ CHp (zD Z) B H0 (n + 3) z H := ⟨_, rfl, hH⟩
  have h_j : E4 (j) = .inr (1, [.ref (B + (n)), .null, .null, .null, .null, .null, vi 0, vi 0, vi 0, vi 0]) := by rw [e4]; exact (uE_ne (by omega)).trans h_j
  have hn2 : E4 (n + 2) = .inr (2, [.null, vi 0]) := by rw [e4]; exact uE_self _ _ _
  refine lv_dup b.1 b.2.1 dX1_init_19 rfl ?_
  refine ch_callN (y' := yX5_init) (cc' := cX5_init) (maxL' := 1) (h' := 1) (nA := 0) (a := B + (n + 2)) (As := []) (rest := [.ref (B + (n + 2)), .ref (B + j)]) (host := "PairRules") b hl.1 (C_RX5 Z B H0 (n + 3) (n + 2) E4 hzB (by omega) hn2) hH hfl (li_1 48 (by decide +kernel) (by decide +kernel)) (nw_in 183 (by decide +kernel) (by decide +kernel)) (li_1 47 (by decide +kernel) (by decide +kernel)) (li_1 3 (by decide +kernel) (by decide +kernel)) rfl (by decide +kernel) rfl rfl ⟨Nat.le_of_ble_eq_true rfl, Nat.le_of_ble_eq_true rfl⟩ (Nat.le_of_ble_eq_true rfl) ⟨show _ ≤ (89 : Nat) by omega, show _ ≤ (175 : Nat) by omega⟩ hlo dX1_init_20 (fun H locs hH hlo => ?_)
  obtain ⟨E5, e5, hH⟩ : ∃ z, z = E_RX5 Z B (n + 3) (n + 2) E4  ∧ CHp (zD Z) B H0 (n + 4) z H := ⟨_, rfl, hH⟩
  have h_j : E5 (j) = .inr (1, [.ref (B + (n)), .null, .null, .null, .null, .null, vi 0, vi 0, vi 0, vi 0]) := by rw [e5]; exact (E_RX5_old (by omega) (by omega)).trans h_j
  refine ch_putG (k := 1) (j := j) (ty0 := tyX1) (fin := true) b hH (by omega) h_j rfl in_1 tyX1_ok nmX1 (by decide) rfl (Nat.le_of_ble_eq_true rfl) rfl rfl hnm rfl hlo hzB (li_1 60 (by decide +kernel) (by decide +kernel)) dX1_init_23 (fun H locs hH hlo => ?_)
  obtain ⟨E6, e6, hH⟩ : ∃ z, z = uE E5 (j) (.inr (1, [.ref (B + (n)), .ref (B + (n + 2)), .null, .null, .null, .null, vi 0, vi 0, vi 0, vi 0])) ∧ CHp (zD Z) B H0 (n + 4) z H := ⟨_, rfl, hH⟩
  have h_j : E6 (j) = .inr (1, [.ref (B + (n)), .ref (B + (n + 2)), .null, .null, .null, .null, vi 0, vi 0, vi 0, vi 0]) := by rw [e6]; exact uE_self _ _ _
  refine lv_aload_n b.1 b.2.1 dX1_init_26 rfl (lv_at hl 0 rfl) ?_
  refine lv_bipush (v := Int32.ofInt 40) b.1 b.2.1 dX1_init_27 (by decide) ?_
  refine ch_newq (t0 := 4) (N' := 40) b hH (li_1 44 (by decide +kernel) (by decide +kernel)) (by decide) rfl (by decide) (Nat.le_of_ble_eq_true rfl) (show _ ≤ (89 : Nat) by omega) (show _ ≤ (175 : Nat) by omega) dX1_init_29 (fun H hH => ?_)
  obtain ⟨E7, e7, hH⟩ : ∃ z, z = uE E6 (n + 4) (.inl (zC Z 4, 40, .inr (.inr (.inr (.inr fun _ => none))))) ∧ CHp (zD Z) B H0 (n + 5) z H := ⟨_, rfl, hH⟩
  have h_j : E7 (j) = .inr (1, [.ref (B + (n)), .ref (B + (n + 2)), .null, .null, .null, .null, vi 0, vi 0, vi 0, vi 0]) := by rw [e7]; exact (uE_ne (by omega)).trans h_j
  have hA : E7 (n + 4) = .inl (zC Z 4, 40, .inr (.inr (.inr (.inr fun _ => none)))) := by rw [e7]; exact uE_self _ _ _
  refine ch_putG (k := 2) (j := j) (ty0 := tyX1) (fin := true) b hH (by omega) h_j rfl in_1 tyX1_ok nmX1 (by decide) rfl (Nat.le_of_ble_eq_true rfl) rfl rfl hnm rfl hlo hzB (li_1 61 (by decide +kernel) (by decide +kernel)) dX1_init_32 (fun H locs hH hlo => ?_)
  obtain ⟨E8, e8, hH⟩ : ∃ z, z = uE E7 (j) (.inr (1, [.ref (B + (n)), .ref (B + (n + 2)), .ref (B + (n + 4)), .null, .null, .null, vi 0, vi 0, vi 0, vi 0])) ∧ CHp (zD Z) B H0 (n + 5) z H := ⟨_, rfl, hH⟩
  have hA : E8 (n + 4) = .inl (zC Z 4, 40, .inr (.inr (.inr (.inr fun _ => none)))) := by rw [e8]; exact (uE_ne (by omega)).trans hA
  have h_j : E8 (j) = .inr (1, [.ref (B + (n)), .ref (B + (n + 2)), .ref (B + (n + 4)), .null, .null, .null, vi 0, vi 0, vi 0, vi 0]) := by rw [e8]; exact uE_self _ _ _
  refine lv_aload_n b.1 b.2.1 dX1_init_35 rfl (lv_at hl 0 rfl) ?_
  refine ch_new (ci := 2) tyX5 [.null, vi 0] b hH in_2 tyX5_ok (li_1 44 (by decide +kernel) (by decide +kernel)) (li_1 45 (by decide +kernel) (by decide +kernel)) (li_1 3 (by decide +kernel) (by decide +kernel)) rfl (fun j hj => by rcases (show j = 0 ∨ j = 1 by omega) with rfl | rfl <;> rfl) (show _ ≤ (89 : Nat) by omega) (show _ ≤ (175 : Nat) by omega) dX1_init_36 (fun H hH => ?_)
  obtain ⟨E9, e9, hH⟩ : ∃ z, z = uE E8 (n + 5) (.inr (2, [.null, vi 0])) ∧ CHp (zD Z) B H0 (n + 6) z H := ⟨_, rfl, hH⟩
  have h_j : E9 (j) = .inr (1, [.ref (B + (n)), .ref (B + (n + 2)), .ref (B + (n + 4)), .null, .null, .null, vi 0, vi 0, vi 0, vi 0]) := by rw [e9]; exact (uE_ne (by omega)).trans h_j
  have hA : E9 (n + 4) = .inl (zC Z 4, 40, .inr (.inr (.inr (.inr fun _ => none)))) := by rw [e9]; exact (uE_ne (by omega)).trans hA
  have hn3 : E9 (n + 5) = .inr (2, [.null, vi 0]) := by rw [e9]; exact uE_self _ _ _
  refine lv_dup b.1 b.2.1 dX1_init_39 rfl ?_
  refine ch_callN (y' := yX5_init) (cc' := cX5_init) (maxL' := 1) (h' := 1) (nA := 0) (a := B + (n + 5)) (As := []) (rest := [.ref (B + (n + 5)), .ref (B + j)]) (host := "PairRules") b hl.1 (C_RX5 Z B H0 (n + 6) (n + 5) E9 hzB (by omega) hn3) hH hfl (li_1 48 (by decide +kernel) (by decide +kernel)) (nw_in 183 (by decide +kernel) (by decide +kernel)) (li_1 47 (by decide +kernel) (by decide +kernel)) (li_1 3 (by decide +kernel) (by decide +kernel)) rfl (by decide +kernel) rfl rfl ⟨Nat.le_of_ble_eq_true rfl, Nat.le_of_ble_eq_true rfl⟩ (Nat.le_of_ble_eq_true rfl) ⟨show _ ≤ (89 : Nat) by omega, show _ ≤ (175 : Nat) by omega⟩ hlo dX1_init_40 (fun H locs hH hlo => ?_)
  obtain ⟨E10, e10, hH⟩ : ∃ z, z = E_RX5 Z B (n + 6) (n + 5) E9  ∧ CHp (zD Z) B H0 (n + 7) z H := ⟨_, rfl, hH⟩
  have h_j : E10 (j) = .inr (1, [.ref (B + (n)), .ref (B + (n + 2)), .ref (B + (n + 4)), .null, .null, .null, vi 0, vi 0, vi 0, vi 0]) := by rw [e10]; exact (E_RX5_old (by omega) (by omega)).trans h_j
  have hA : E10 (n + 4) = .inl (zC Z 4, 40, .inr (.inr (.inr (.inr fun _ => none)))) := by rw [e10]; exact (E_RX5_old (by omega) (by omega)).trans hA
  refine ch_putG (k := 3) (j := j) (ty0 := tyX1) (fin := true) b hH (by omega) h_j rfl in_1 tyX1_ok nmX1 (by decide) rfl (Nat.le_of_ble_eq_true rfl) rfl rfl hnm rfl hlo hzB (li_1 62 (by decide +kernel) (by decide +kernel)) dX1_init_43 (fun H locs hH hlo => ?_)
  obtain ⟨E11, e11, hH⟩ : ∃ z, z = uE E10 (j) (.inr (1, [.ref (B + (n)), .ref (B + (n + 2)), .ref (B + (n + 4)), .ref (B + (n + 5)), .null, .null, vi 0, vi 0, vi 0, vi 0])) ∧ CHp (zD Z) B H0 (n + 7) z H := ⟨_, rfl, hH⟩
  have hA : E11 (n + 4) = .inl (zC Z 4, 40, .inr (.inr (.inr (.inr fun _ => none)))) := by rw [e11]; exact (uE_ne (by omega)).trans hA
  have h_j : E11 (j) = .inr (1, [.ref (B + (n)), .ref (B + (n + 2)), .ref (B + (n + 4)), .ref (B + (n + 5)), .null, .null, vi 0, vi 0, vi 0, vi 0]) := by rw [e11]; exact uE_self _ _ _
  refine lv_aload_n b.1 b.2.1 dX1_init_46 rfl (lv_at hl 0 rfl) ?_
  refine lv_bipush (v := Int32.ofInt 40) b.1 b.2.1 dX1_init_47 (by decide) ?_
  refine ch_newa (atype := .int) (ty := .int) (cA := zC Z 0) (t0 := 0) (N' := 40) b hH (li_1 57 (by decide +kernel) (by decide +kernel)) rfl rfl (fun _ h => h) rfl (by decide) (Nat.le_of_ble_eq_true rfl) (show _ ≤ (89 : Nat) by omega) (show _ ≤ (175 : Nat) by omega) dX1_init_49 (fun H hH => ?_)
  obtain ⟨E12, e12, hH⟩ : ∃ z, z = uE E11 (n + 7) (arI (zC Z 0) 40 (fun _ => 0)) ∧ CHp (zD Z) B H0 (n + 8) z H := ⟨_, rfl, hH⟩
  have h_j : E12 (j) = .inr (1, [.ref (B + (n)), .ref (B + (n + 2)), .ref (B + (n + 4)), .ref (B + (n + 5)), .null, .null, vi 0, vi 0, vi 0, vi 0]) := by rw [e12]; exact (uE_ne (by omega)).trans h_j
  have hA : E12 (n + 4) = .inl (zC Z 4, 40, .inr (.inr (.inr (.inr fun _ => none)))) := by rw [e12]; exact (uE_ne (by omega)).trans hA
  refine ch_putG (k := 4) (j := j) (ty0 := tyX1) (fin := true) b hH (by omega) h_j rfl in_1 tyX1_ok nmX1 (by decide) rfl (Nat.le_of_ble_eq_true rfl) rfl rfl hnm rfl hlo hzB (li_1 63 (by decide +kernel) (by decide +kernel)) dX1_init_51 (fun H locs hH hlo => ?_)
  obtain ⟨E13, e13, hH⟩ : ∃ z, z = uE E12 (j) (.inr (1, [.ref (B + (n)), .ref (B + (n + 2)), .ref (B + (n + 4)), .ref (B + (n + 5)), .ref (B + (n + 7)), .null, vi 0, vi 0, vi 0, vi 0])) ∧ CHp (zD Z) B H0 (n + 8) z H := ⟨_, rfl, hH⟩
  have hA : E13 (n + 4) = .inl (zC Z 4, 40, .inr (.inr (.inr (.inr fun _ => none)))) := by rw [e13]; exact (uE_ne (by omega)).trans hA
  have h_j : E13 (j) = .inr (1, [.ref (B + (n)), .ref (B + (n + 2)), .ref (B + (n + 4)), .ref (B + (n + 5)), .ref (B + (n + 7)), .null, vi 0, vi 0, vi 0, vi 0]) := by rw [e13]; exact uE_self _ _ _
  refine lv_aload_n b.1 b.2.1 dX1_init_54 rfl (lv_at hl 0 rfl) ?_
  refine lv_bipush (v := Int32.ofInt 9) b.1 b.2.1 dX1_init_55 (by decide) ?_
  refine ch_newa (atype := .int) (ty := .int) (cA := zC Z 0) (t0 := 0) (N' := 9) b hH (li_1 57 (by decide +kernel) (by decide +kernel)) rfl rfl (fun _ h => h) rfl (by decide) (Nat.le_of_ble_eq_true rfl) (show _ ≤ (89 : Nat) by omega) (show _ ≤ (175 : Nat) by omega) dX1_init_57 (fun H hH => ?_)
  obtain ⟨E14, e14, hH⟩ : ∃ z, z = uE E13 (n + 8) (arI (zC Z 0) 9 (fun _ => 0)) ∧ CHp (zD Z) B H0 (n + 9) z H := ⟨_, rfl, hH⟩
  have h_j : E14 (j) = .inr (1, [.ref (B + (n)), .ref (B + (n + 2)), .ref (B + (n + 4)), .ref (B + (n + 5)), .ref (B + (n + 7)), .null, vi 0, vi 0, vi 0, vi 0]) := by rw [e14]; exact (uE_ne (by omega)).trans h_j
  have hA : E14 (n + 4) = .inl (zC Z 4, 40, .inr (.inr (.inr (.inr fun _ => none)))) := by rw [e14]; exact (uE_ne (by omega)).trans hA
  refine ch_putG (k := 5) (j := j) (ty0 := tyX1) (fin := true) b hH (by omega) h_j rfl in_1 tyX1_ok nmX1 (by decide) rfl (Nat.le_of_ble_eq_true rfl) rfl rfl hnm rfl hlo hzB (li_1 64 (by decide +kernel) (by decide +kernel)) dX1_init_59 (fun H locs hH hlo => ?_)
  obtain ⟨E15, e15, hH⟩ : ∃ z, z = uE E14 (j) (.inr (1, [.ref (B + (n)), .ref (B + (n + 2)), .ref (B + (n + 4)), .ref (B + (n + 5)), .ref (B + (n + 7)), .ref (B + (n + 8)), vi 0, vi 0, vi 0, vi 0])) ∧ CHp (zD Z) B H0 (n + 9) z H := ⟨_, rfl, hH⟩
  have hA : E15 (n + 4) = .inl (zC Z 4, 40, .inr (.inr (.inr (.inr fun _ => none)))) := by rw [e15]; exact (uE_ne (by omega)).trans hA
  have h_j : E15 (j) = .inr (1, [.ref (B + (n)), .ref (B + (n + 2)), .ref (B + (n + 4)), .ref (B + (n + 5)), .ref (B + (n + 7)), .ref (B + (n + 8)), vi 0, vi 0, vi 0, vi 0]) := by rw [e15]; exact uE_self _ _ _
  refine lv_aload_n b.1 b.2.1 dX1_init_62 rfl (lv_at hl 0 rfl) ?_
  refine lv_iconst (v := Int32.ofInt 2) b.1 b.2.1 dX1_init_63 rfl ?_
  refine ch_putG (k := 6) (j := j) (ty0 := tyX1) (fin := false) b hH (by omega) h_j rfl in_1 tyX1_ok nmX1 (by decide) rfl (Nat.le_of_ble_eq_true rfl) rfl rfl hnm rfl hlo hzB (li_1 65 (by decide +kernel) (by decide +kernel)) dX1_init_64 (fun H locs hH hlo => ?_)
  obtain ⟨E16, e16, hH⟩ : ∃ z, z = uE E15 (j) (.inr (1, [.ref (B + (n)), .ref (B + (n + 2)), .ref (B + (n + 4)), .ref (B + (n + 5)), .ref (B + (n + 7)), .ref (B + (n + 8)), vi 2, vi 0, vi 0, vi 0])) ∧ CHp (zD Z) B H0 (n + 9) z H := ⟨_, rfl, hH⟩
  have hA : E16 (n + 4) = .inl (zC Z 4, 40, .inr (.inr (.inr (.inr fun _ => none)))) := by rw [e16]; exact (uE_ne (by omega)).trans hA
  have h_j : E16 (j) = .inr (1, [.ref (B + (n)), .ref (B + (n + 2)), .ref (B + (n + 4)), .ref (B + (n + 5)), .ref (B + (n + 7)), .ref (B + (n + 8)), vi 2, vi 0, vi 0, vi 0]) := by rw [e16]; exact uE_self _ _ _
  refine lv_aload_n b.1 b.2.1 dX1_init_67 rfl (lv_at hl 0 rfl) ?_
  refine lv_iconst (v := Int32.ofInt 1) b.1 b.2.1 dX1_init_68 rfl ?_
  refine ch_putG (k := 8) (j := j) (ty0 := tyX1) (fin := false) b hH (by omega) h_j rfl in_1 tyX1_ok nmX1 (by decide) rfl (Nat.le_of_ble_eq_true rfl) rfl rfl hnm rfl hlo hzB (li_1 67 (by decide +kernel) (by decide +kernel)) dX1_init_69 (fun H locs hH hlo => ?_)
  obtain ⟨E17, e17, hH⟩ : ∃ z, z = uE E16 (j) (.inr (1, [.ref (B + (n)), .ref (B + (n + 2)), .ref (B + (n + 4)), .ref (B + (n + 5)), .ref (B + (n + 7)), .ref (B + (n + 8)), vi 2, vi 0, vi 1, vi 0])) ∧ CHp (zD Z) B H0 (n + 9) z H := ⟨_, rfl, hH⟩
  have hA : E17 (n + 4) = .inl (zC Z 4, 40, .inr (.inr (.inr (.inr fun _ => none)))) := by rw [e17]; exact (uE_ne (by omega)).trans hA
  have h_j : E17 (j) = .inr (1, [.ref (B + (n)), .ref (B + (n + 2)), .ref (B + (n + 4)), .ref (B + (n + 5)), .ref (B + (n + 7)), .ref (B + (n + 8)), vi 2, vi 0, vi 1, vi 0]) := by rw [e17]; exact uE_self _ _ _
  refine lv_iconst (v := Int32.ofInt 0) b.1 b.2.1 dX1_init_72 rfl ?_
  refine lv_istore_n (lv' := [(1, vi 0), (0, .ref (B + j))]) b.1 b.2.1 dX1_init_73 rfl hl (by decide) rfl (fun ls hl => ?_)
  refine W.widen (k := 9 + 2 * 0) (n := 95 + 2 * 0) (by omega) (by omega) ?_
  exact lp0 40 0 E17 H locs ls (by omega) (by subst e1 e2 e3 e4 e5 e6 e7 e8 e9 e10 e11 e12 e13 e14 e15 e16 e17 eE; rfl) hH h_j hA hlo (lv_sub hl [1, 0] rfl)
def H_f (B n : Nat) : Nat → Nat → Option Nat
  | 0 => fun _ => none
  | i + 1 => va_up (H_f B n i) i (some (B + (n + 90 * i)))
def P_RX2 (Z : ZT) (B n j : Nat) (E : Nat → va_E) : Nat → va_E := uE (uE (uE (uE (uE (uE E (n) (.inl (zC Z 5, 8, .inr (.inr (.inr (.inr fun _ => none)))))) (j) (.inr (9, [.ref (B + (n)), .null, .null, vi 0, vi 0]))) (n + 1) (.inl (zC Z 5, 2, .inr (.inr (.inr (.inr fun _ => none)))))) (j) (.inr (9, [.ref (B + (n)), .ref (B + (n + 1)), .null, vi 0, vi 0]))) (n + 2) (arI (zC Z 1) 2 (fun _ => 0))) (j) (.inr (9, [.ref (B + (n)), .ref (B + (n + 1)), .ref (B + (n + 2)), vi 0, vi 0]))
def L0_RX2 (Z : ZT) (B n j : Nat) (E0 : Nat → va_E) : Nat → Nat → va_E
  | 0 => P_RX2 Z B n j E0
  | i + 1 => (fun E => uE (E_RX1 Z B (n + 3 + 90 * i + 1) (n + 3 + 90 * i) (uE E (n + 3 + 90 * i) (.inr (1, [.null, .null, .null, .null, .null, .null, vi 0, vi 0, vi 0, vi 0]))) ) (n) (.inl (zC Z 5, 8, .inr (.inr (.inr (.inr (va_up (H_f B (n + 3) i) i (some (B + (n + 3 + 90 * i)))))))))) (L0_RX2 Z B n j E0 i)
def L1_RX2 (Z : ZT) (B n j : Nat) (E0 : Nat → va_E) : Nat → Nat → va_E
  | 0 => L0_RX2 Z B n j E0 8
  | i + 1 => (fun E => uE (E_RX1 Z B (n + 723 + 90 * i + 1) (n + 723 + 90 * i) (uE E (n + 723 + 90 * i) (.inr (1, [.null, .null, .null, .null, .null, .null, vi 0, vi 0, vi 0, vi 0]))) ) (n + 1) (.inl (zC Z 5, 2, .inr (.inr (.inr (.inr (va_up (H_f B (n + 723) i) i (some (B + (n + 723 + 90 * i)))))))))) (L1_RX2 Z B n j E0 i)
def E_RX2 (Z : ZT) (B n j : Nat) (E : Nat → va_E) : Nat → va_E := L1_RX2 Z B n j E 2
theorem L0_RX2_old {Z : ZT} {B n j q : Nat} {E : Nat → va_E} (h1 : q ≠ n) (h3 : q < n + 3) : ∀ i : Nat, i ≤ 8 → L0_RX2 Z B n j E i q = P_RX2 Z B n j E q
  | 0, _ => rfl
  | i + 1, h2 => by
    refine (uE_ne h1).trans ((E_RX1_old (by omega) (by omega)).trans ((uE_ne (by omega)).trans (L0_RX2_old h1 h3 i (by omega))))
theorem L1_RX2_old {Z : ZT} {B n j q : Nat} {E : Nat → va_E} (h1 : q ≠ n + 1) (h3 : q < n + 723) : ∀ i : Nat, i ≤ 2 → L1_RX2 Z B n j E i q = L0_RX2 Z B n j E 8 q
  | 0, _ => rfl
  | i + 1, h2 => by
    refine (uE_ne h1).trans ((E_RX1_old (by omega) (by omega)).trans ((uE_ne (by omega)).trans (L1_RX2_old h1 h3 i (by omega))))
theorem E_RX2_old {Z : ZT} {B n j q : Nat} {E : Nat → va_E} (h1 : q ≠ j) (h2 : q < n) : E_RX2 Z B n j E q = E q := by
  refine (L1_RX2_old (by omega) (by omega) 2 (by omega)).trans ((L0_RX2_old (by omega) (by omega) 8 (by omega)).trans ?_)
  simp only [P_RX2, uE_ne h1, uE]
  repeat (rw [if_neg (by omega)])
set_option maxRecDepth 20000 in
set_option maxHeartbeats 4000000 in
theorem C_RX2 (Z : ZT) (B : Nat) (H0 : Heap) (n j : Nat) (E0 : Nat → va_E) (hzB : zB Z ≤ B) (hj : j < n) (h_j : E0 j = .inr (9, [.null, .null, .null, vi 0, vi 0])) : RunsC Z yX2_init cX2_init 2 3 [.ref (B + j)] 903 1862 (CHp (zD Z) B H0 n E0) (CHp (zD Z) B H0 (n + 903) (E_RX2 Z B n j E0)) := by
  refine RunsC.of (by decide +kernel) rfl (Nat.le_of_ble_eq_true rfl) ?_
  intro p l e s m args below meth c ls hfl b hH hr hlk hnm hl
  have hl : lv_has ls 2 [(0, .ref (B + j))] := hl
  have b : BB p s m args c RX2 cX2_init 2 Z := b
  obtain ⟨H, eH⟩ : ∃ z, z = s.heap := ⟨_, rfl⟩
  rw [← eH] at hH ⊢
  have hlo : ∀ q ∈ ([] : List Loc), zN Z q.base := fun q hq => by cases hq
  have lp1 : ∀ (d i : Nat) (E : Nat → va_E) (H : Heap) (locs : List Loc) (ls : Array Slot), i + d = 2 → E = (L1_RX2 Z B n j E0) i → CHp (zD Z) B H0 (n + 723 + 90 * i) E H → E (j) = .inr (9, [.ref (B + (n)), .ref (B + (n + 1)), .ref (B + (n + 2)), vi 0, vi 0]) → E (n + 1) = .inl (zC Z 5, 2, .inr (.inr (.inr (.inr (H_f B (n + 723) i))))) → (∀ q ∈ locs, zN Z q.base) → lv_has ls 2 [(0, .ref (B + j)), (1, vi ((i : Nat) : Int))] → W p l e (rmH 3 903 1862) s m args below meth c H locs (723 + 90 * i) (1492 + 185 * i) (MQ below (QcC (CHp (zD Z) B H0 (n + 903) (E_RX2 Z B n j E0))) args s 903 1862 (zN Z)) (F0 m 57 ls []) := by
    intro d
    induction d with
    | zero =>
      intro i E H locs ls hi hE hH h_j hB hlo hl
      refine lv_iload_n b.1 b.2.1 dX2_init_57 rfl (lv_at hl 1 rfl) ?_
      refine lv_iconst (v := Int32.ofInt 2) b.1 b.2.1 dX2_init_58 rfl ?_
      refine lv_icmp_ge (tgt := 81) b.1 b.2.1 dX2_init_59 (by decide) (fun c1 => ?_) (fun c1 => ?_)
      · obtain rfl : i = 2 := by omega
        refine ch_ret b hr hlk hlo ?_ (show _ ≤ (903 : Nat) by omega) (show _ ≤ (1862 : Nat) by omega) dX2_init_81
        rw [hE] at hH
        exact hH
      · exact absurd ((w_le _ _).mpr (by rw [w32_of (by omega) (by omega), w32_of (by omega) (by omega)]; omega)) c1
    | succ d ih =>
      intro i E H locs ls hi hE hH h_j hB hlo hl
      refine lv_iload_n b.1 b.2.1 dX2_init_57 rfl (lv_at hl 1 rfl) ?_
      refine lv_iconst (v := Int32.ofInt 2) b.1 b.2.1 dX2_init_58 rfl ?_
      refine lv_icmp_ge (tgt := 81) b.1 b.2.1 dX2_init_59 (by decide) (fun c1 => ?_) (fun c1 => ?_)
      · exact absurd (show w32 ((i : Nat) : Int) < w32 2 by rw [w32_of (by omega) (by omega), w32_of (by omega) (by omega)]; omega) ((w_le _ _).mp c1)
      · skip
        refine lv_aload_n b.1 b.2.1 dX2_init_62 rfl (lv_at hl 0 rfl) ?_
        refine ch_get (k := 1) (j := j) b hH (by omega) h_j rfl in_9 (by decide) rfl rfl (li_2 44 (by decide +kernel) (by decide +kernel)) dX2_init_63 ?_
        refine lv_iload_n b.1 b.2.1 dX2_init_66 rfl (lv_at hl 1 rfl) ?_
        refine ch_new (ci := 1) tyX1 [.null, .null, .null, .null, .null, .null, vi 0, vi 0, vi 0, vi 0] b hH in_1 tyX1_ok (li_2 40 (by decide +kernel) (by decide +kernel)) (li_1 39 (by decide +kernel) (by decide +kernel)) (li_1 2 (by decide +kernel) (by decide +kernel)) rfl (fun j hj => by rcases (show j = 0 ∨ j = 1 ∨ j = 2 ∨ j = 3 ∨ j = 4 ∨ j = 5 ∨ j = 6 ∨ j = 7 ∨ j = 8 ∨ j = 9 by omega) with rfl | rfl | rfl | rfl | rfl | rfl | rfl | rfl | rfl | rfl <;> rfl) (show _ ≤ (903 : Nat) by omega) (show _ ≤ (1862 : Nat) by omega) dX2_init_67 (fun H hH => ?_)
        obtain ⟨E201, e201, hH⟩ : ∃ z, z = uE E (n + 723 + 90 * i) (.inr (1, [.null, .null, .null, .null, .null, .null, vi 0, vi 0, vi 0, vi 0])) ∧ CHp (zD Z) B H0 (n + 723 + 90 * i + 1) z H := ⟨_, rfl, hH⟩
        have h_j : E201 (j) = .inr (9, [.ref (B + (n)), .ref (B + (n + 1)), .ref (B + (n + 2)), vi 0, vi 0]) := by rw [e201]; exact (uE_ne (by omega)).trans h_j
        have hB : E201 (n + 1) = .inl (zC Z 5, 2, .inr (.inr (.inr (.inr (H_f B (n + 723) i))))) := by rw [e201]; exact (uE_ne (by omega)).trans hB
        have hn1 : E201 (n + 723 + 90 * i) = .inr (1, [.null, .null, .null, .null, .null, .null, vi 0, vi 0, vi 0, vi 0]) := by rw [e201]; exact uE_self _ _ _
        refine lv_dup b.1 b.2.1 dX2_init_70 rfl ?_
        refine ch_call (y' := yX1_init) (cc' := cX1_init) (maxL' := 2) (h' := 2) (nA := 0) (a := B + (n + 723 + 90 * i)) (As := []) (rest := [.ref (B + (n + 723 + 90 * i)), vi ((i : Nat) : Int), .ref (B + (n + 1))]) b hl.1 (C_RX1 Z B H0 (n + 723 + 90 * i + 1) (n + 723 + 90 * i) E201 hzB (by omega) hn1) hH hfl (li_1 42 (by decide +kernel) (by decide +kernel)) (li_2 42 (by decide +kernel) (by decide +kernel)) (li_1 41 (by decide +kernel) (by decide +kernel)) (li_1 2 (by decide +kernel) (by decide +kernel)) rfl (by decide +kernel) rfl rfl ⟨Nat.le_of_ble_eq_true rfl, Nat.le_of_ble_eq_true rfl⟩ (Nat.le_of_ble_eq_true rfl) ⟨show _ ≤ (903 : Nat) by omega, show _ ≤ (1862 : Nat) by omega⟩ hlo dX2_init_71 (fun H locs hH hlo => ?_)
        obtain ⟨E202, e202, hH⟩ : ∃ z, z = E_RX1 Z B (n + 723 + 90 * i + 1) (n + 723 + 90 * i) E201  ∧ CHp (zD Z) B H0 (n + 723 + 90 * i + 90) z H := ⟨_, rfl, hH⟩
        have h_j : E202 (j) = .inr (9, [.ref (B + (n)), .ref (B + (n + 1)), .ref (B + (n + 2)), vi 0, vi 0]) := by rw [e202]; exact (E_RX1_old (by omega) (by omega)).trans h_j
        have hB : E202 (n + 1) = .inl (zC Z 5, 2, .inr (.inr (.inr (.inr (H_f B (n + 723) i))))) := by rw [e202]; exact (E_RX1_old (by omega) (by omega)).trans hB
        have hx1 : E202 (n + 723 + 90 * i) = gObj Z B (n + 723 + 90 * i + 1) := by rw [e202]; exact E_RX1_self (by omega)
        refine ch_aast (t0 := 5) (ci := 1) (N' := 2) (x' := ((i : Nat) : Int)) (j := n + 1) (j2 := n + 723 + 90 * i) b hH (by omega) hB (by omega) hx1 rfl rfl (w32_of (by omega) (by omega)) (by omega) hlo hzB dX2_init_74 (fun H locs hH hlo => ?_)
        obtain ⟨E203, e203, hH⟩ : ∃ z, z = uE E202 (n + 1) (.inl (zC Z 5, 2, .inr (.inr (.inr (.inr (va_up (H_f B (n + 723) i) i (some (B + (n + 723 + 90 * i))))))))) ∧ CHp (zD Z) B H0 (n + 723 + 90 * i + 90) z H := ⟨_, rfl, hH⟩
        have h_j : E203 (j) = .inr (9, [.ref (B + (n)), .ref (B + (n + 1)), .ref (B + (n + 2)), vi 0, vi 0]) := by rw [e203]; exact (uE_ne (by omega)).trans h_j
        have hB : E203 (n + 1) = .inl (zC Z 5, 2, .inr (.inr (.inr (.inr (va_up (H_f B (n + 723) i) i (some (B + (n + 723 + 90 * i)))))))) := by rw [e203]; exact uE_self _ _ _
        refine lv_iinc (v := Int32.ofInt (((i : Nat) : Int) + 1)) (lv' := [(1, vi (((i : Nat) : Int) + 1)), (0, .ref (B + j))]) b.1 b.2.1 dX2_init_75 hl (k := 1) rfl (i_add _ _) (by decide) rfl (fun ls hl => ?_)
        refine lv_goto (tgt := 57) b.1 b.2.1 dX2_init_78 (by decide) ?_
        refine W.widen (k := 723 + 90 * (i + 1)) (n := 1492 + 185 * (i + 1)) (by omega) (by omega) ?_
        exact ih (i + 1) E203 H locs ls (by omega) (by subst e201 e202 e203; rw [hE]; rfl) (by rw [show n + 723 + 90 * (i + 1) = n + 723 + 90 * i + 90 by omega]; exact hH) h_j hB hlo (lv_sub hl [1, 0] rfl)
  have lp0 : ∀ (d i : Nat) (E : Nat → va_E) (H : Heap) (locs : List Loc) (ls : Array Slot), i + d = 8 → E = (L0_RX2 Z B n j E0) i → CHp (zD Z) B H0 (n + 3 + 90 * i) E H → E (j) = .inr (9, [.ref (B + (n)), .ref (B + (n + 1)), .ref (B + (n + 2)), vi 0, vi 0]) → E (n) = .inl (zC Z 5, 8, .inr (.inr (.inr (.inr (H_f B (n + 3) i))))) → (∀ q ∈ locs, zN Z q.base) → lv_has ls 2 [(0, .ref (B + j)), (1, vi ((i : Nat) : Int))] → W p l e (rmH 3 903 1862) s m args below meth c H locs (3 + 90 * i) (12 + 185 * i) (MQ below (QcC (CHp (zD Z) B H0 (n + 903) (E_RX2 Z B n j E0))) args s 903 1862 (zN Z)) (F0 m 30 ls []) := by
    intro d
    induction d with
    | zero =>
      intro i E H locs ls hi hE hH h_j hA hlo hl
      refine lv_iload_n b.1 b.2.1 dX2_init_30 rfl (lv_at hl 1 rfl) ?_
      refine lv_bipush (v := Int32.ofInt 8) b.1 b.2.1 dX2_init_31 (by decide) ?_
      refine lv_icmp_ge (tgt := 55) b.1 b.2.1 dX2_init_33 (by decide) (fun c1 => ?_) (fun c1 => ?_)
      · obtain rfl : i = 8 := by omega
        refine lv_iconst (v := Int32.ofInt 0) b.1 b.2.1 dX2_init_55 rfl ?_
        refine lv_istore_n (lv' := [(1, vi 0), (0, .ref (B + j))]) b.1 b.2.1 dX2_init_56 rfl hl (by decide) rfl (fun ls hl => ?_)
        refine W.widen (k := 723 + 90 * 0) (n := 1492 + 185 * 0) (by omega) (by omega) ?_
        exact lp1 2 0 E H locs ls (by omega) hE hH h_j (by rw [hE]; exact (L0_RX2_old (by omega) (by omega) 8 (by omega)).trans (by unfold P_RX2; rw [uE_ne (by omega), uE_ne (by omega), uE_ne (by omega), uE_self]; rfl)) hlo (lv_sub hl [1, 0] rfl)
      · exact absurd ((w_le _ _).mpr (by rw [w32_of (by omega) (by omega), w32_of (by omega) (by omega)]; omega)) c1
    | succ d ih =>
      intro i E H locs ls hi hE hH h_j hA hlo hl
      refine lv_iload_n b.1 b.2.1 dX2_init_30 rfl (lv_at hl 1 rfl) ?_
      refine lv_bipush (v := Int32.ofInt 8) b.1 b.2.1 dX2_init_31 (by decide) ?_
      refine lv_icmp_ge (tgt := 55) b.1 b.2.1 dX2_init_33 (by decide) (fun c1 => ?_) (fun c1 => ?_)
      · exact absurd (show w32 ((i : Nat) : Int) < w32 8 by rw [w32_of (by omega) (by omega), w32_of (by omega) (by omega)]; omega) ((w_le _ _).mp c1)
      · skip
        refine lv_aload_n b.1 b.2.1 dX2_init_36 rfl (lv_at hl 0 rfl) ?_
        refine ch_get (k := 0) (j := j) b hH (by omega) h_j rfl in_9 (by decide) rfl rfl (li_2 43 (by decide +kernel) (by decide +kernel)) dX2_init_37 ?_
        refine lv_iload_n b.1 b.2.1 dX2_init_40 rfl (lv_at hl 1 rfl) ?_
        refine ch_new (ci := 1) tyX1 [.null, .null, .null, .null, .null, .null, vi 0, vi 0, vi 0, vi 0] b hH in_1 tyX1_ok (li_2 40 (by decide +kernel) (by decide +kernel)) (li_1 39 (by decide +kernel) (by decide +kernel)) (li_1 2 (by decide +kernel) (by decide +kernel)) rfl (fun j hj => by rcases (show j = 0 ∨ j = 1 ∨ j = 2 ∨ j = 3 ∨ j = 4 ∨ j = 5 ∨ j = 6 ∨ j = 7 ∨ j = 8 ∨ j = 9 by omega) with rfl | rfl | rfl | rfl | rfl | rfl | rfl | rfl | rfl | rfl <;> rfl) (show _ ≤ (903 : Nat) by omega) (show _ ≤ (1862 : Nat) by omega) dX2_init_41 (fun H hH => ?_)
        obtain ⟨E101, e101, hH⟩ : ∃ z, z = uE E (n + 3 + 90 * i) (.inr (1, [.null, .null, .null, .null, .null, .null, vi 0, vi 0, vi 0, vi 0])) ∧ CHp (zD Z) B H0 (n + 3 + 90 * i + 1) z H := ⟨_, rfl, hH⟩
        have h_j : E101 (j) = .inr (9, [.ref (B + (n)), .ref (B + (n + 1)), .ref (B + (n + 2)), vi 0, vi 0]) := by rw [e101]; exact (uE_ne (by omega)).trans h_j
        have hA : E101 (n) = .inl (zC Z 5, 8, .inr (.inr (.inr (.inr (H_f B (n + 3) i))))) := by rw [e101]; exact (uE_ne (by omega)).trans hA
        have hn2 : E101 (n + 3 + 90 * i) = .inr (1, [.null, .null, .null, .null, .null, .null, vi 0, vi 0, vi 0, vi 0]) := by rw [e101]; exact uE_self _ _ _
        refine lv_dup b.1 b.2.1 dX2_init_44 rfl ?_
        refine ch_call (y' := yX1_init) (cc' := cX1_init) (maxL' := 2) (h' := 2) (nA := 0) (a := B + (n + 3 + 90 * i)) (As := []) (rest := [.ref (B + (n + 3 + 90 * i)), vi ((i : Nat) : Int), .ref (B + (n))]) b hl.1 (C_RX1 Z B H0 (n + 3 + 90 * i + 1) (n + 3 + 90 * i) E101 hzB (by omega) hn2) hH hfl (li_1 42 (by decide +kernel) (by decide +kernel)) (li_2 42 (by decide +kernel) (by decide +kernel)) (li_1 41 (by decide +kernel) (by decide +kernel)) (li_1 2 (by decide +kernel) (by decide +kernel)) rfl (by decide +kernel) rfl rfl ⟨Nat.le_of_ble_eq_true rfl, Nat.le_of_ble_eq_true rfl⟩ (Nat.le_of_ble_eq_true rfl) ⟨show _ ≤ (903 : Nat) by omega, show _ ≤ (1862 : Nat) by omega⟩ hlo dX2_init_45 (fun H locs hH hlo => ?_)
        obtain ⟨E102, e102, hH⟩ : ∃ z, z = E_RX1 Z B (n + 3 + 90 * i + 1) (n + 3 + 90 * i) E101  ∧ CHp (zD Z) B H0 (n + 3 + 90 * i + 90) z H := ⟨_, rfl, hH⟩
        have h_j : E102 (j) = .inr (9, [.ref (B + (n)), .ref (B + (n + 1)), .ref (B + (n + 2)), vi 0, vi 0]) := by rw [e102]; exact (E_RX1_old (by omega) (by omega)).trans h_j
        have hA : E102 (n) = .inl (zC Z 5, 8, .inr (.inr (.inr (.inr (H_f B (n + 3) i))))) := by rw [e102]; exact (E_RX1_old (by omega) (by omega)).trans hA
        have hx1 : E102 (n + 3 + 90 * i) = gObj Z B (n + 3 + 90 * i + 1) := by rw [e102]; exact E_RX1_self (by omega)
        refine ch_aast (t0 := 5) (ci := 1) (N' := 8) (x' := ((i : Nat) : Int)) (j := n) (j2 := n + 3 + 90 * i) b hH (by omega) hA (by omega) hx1 rfl rfl (w32_of (by omega) (by omega)) (by omega) hlo hzB dX2_init_48 (fun H locs hH hlo => ?_)
        obtain ⟨E103, e103, hH⟩ : ∃ z, z = uE E102 (n) (.inl (zC Z 5, 8, .inr (.inr (.inr (.inr (va_up (H_f B (n + 3) i) i (some (B + (n + 3 + 90 * i))))))))) ∧ CHp (zD Z) B H0 (n + 3 + 90 * i + 90) z H := ⟨_, rfl, hH⟩
        have h_j : E103 (j) = .inr (9, [.ref (B + (n)), .ref (B + (n + 1)), .ref (B + (n + 2)), vi 0, vi 0]) := by rw [e103]; exact (uE_ne (by omega)).trans h_j
        have hA : E103 (n) = .inl (zC Z 5, 8, .inr (.inr (.inr (.inr (va_up (H_f B (n + 3) i) i (some (B + (n + 3 + 90 * i)))))))) := by rw [e103]; exact uE_self _ _ _
        refine lv_iinc (v := Int32.ofInt (((i : Nat) : Int) + 1)) (lv' := [(1, vi (((i : Nat) : Int) + 1)), (0, .ref (B + j))]) b.1 b.2.1 dX2_init_49 hl (k := 1) rfl (i_add _ _) (by decide) rfl (fun ls hl => ?_)
        refine lv_goto (tgt := 30) b.1 b.2.1 dX2_init_52 (by decide) ?_
        refine W.widen (k := 3 + 90 * (i + 1)) (n := 12 + 185 * (i + 1)) (by omega) (by omega) ?_
        exact ih (i + 1) E103 H locs ls (by omega) (by subst e101 e102 e103; rw [hE]; rfl) (by rw [show n + 3 + 90 * (i + 1) = n + 3 + 90 * i + 90 by omega]; exact hH) h_j hA hlo (lv_sub hl [1, 0] rfl)
  obtain ⟨E, eE⟩ : ∃ z, z = E0 := ⟨_, rfl⟩
  rw [← eE] at h_j hH
  refine lv_aload_n b.1 b.2.1 dX2_init_0 rfl (lv_at hl 0 rfl) ?_
  refine ch_obj b hl.1 (li_2 39 (by decide +kernel) (by decide +kernel)) (Nat.le_of_ble_eq_true rfl) (Nat.le_of_ble_eq_true rfl) dX2_init_1 ?_
  refine lv_aload_n b.1 b.2.1 dX2_init_4 rfl (lv_at hl 0 rfl) ?_
  refine lv_bipush (v := Int32.ofInt 8) b.1 b.2.1 dX2_init_5 (by decide) ?_
  refine ch_newq (t0 := 5) (N' := 8) b hH (li_2 40 (by decide +kernel) (by decide +kernel)) (by decide) rfl (by decide) (Nat.le_of_ble_eq_true rfl) (show _ ≤ (903 : Nat) by omega) (show _ ≤ (1862 : Nat) by omega) dX2_init_7 (fun H hH => ?_)
  obtain ⟨E1, e1, hH⟩ : ∃ z, z = uE E (n) (.inl (zC Z 5, 8, .inr (.inr (.inr (.inr fun _ => none))))) ∧ CHp (zD Z) B H0 (n + 1) z H := ⟨_, rfl, hH⟩
  have h_j : E1 (j) = .inr (9, [.null, .null, .null, vi 0, vi 0]) := by rw [e1]; exact (uE_ne (by omega)).trans h_j
  have hA : E1 (n) = .inl (zC Z 5, 8, .inr (.inr (.inr (.inr fun _ => none)))) := by rw [e1]; exact uE_self _ _ _
  refine ch_putG (k := 0) (j := j) (ty0 := tyX2) (fin := true) b hH (by omega) h_j rfl in_9 tyX2_ok nmX2 (by decide) rfl (Nat.le_of_ble_eq_true rfl) rfl rfl hnm rfl hlo hzB (li_2 43 (by decide +kernel) (by decide +kernel)) dX2_init_10 (fun H locs hH hlo => ?_)
  obtain ⟨E2, e2, hH⟩ : ∃ z, z = uE E1 (j) (.inr (9, [.ref (B + (n)), .null, .null, vi 0, vi 0])) ∧ CHp (zD Z) B H0 (n + 1) z H := ⟨_, rfl, hH⟩
  have hA : E2 (n) = .inl (zC Z 5, 8, .inr (.inr (.inr (.inr fun _ => none)))) := by rw [e2]; exact (uE_ne (by omega)).trans hA
  have h_j : E2 (j) = .inr (9, [.ref (B + (n)), .null, .null, vi 0, vi 0]) := by rw [e2]; exact uE_self _ _ _
  refine lv_aload_n b.1 b.2.1 dX2_init_13 rfl (lv_at hl 0 rfl) ?_
  refine lv_iconst (v := Int32.ofInt 2) b.1 b.2.1 dX2_init_14 rfl ?_
  refine ch_newq (t0 := 5) (N' := 2) b hH (li_2 40 (by decide +kernel) (by decide +kernel)) (by decide) rfl (by decide) (Nat.le_of_ble_eq_true rfl) (show _ ≤ (903 : Nat) by omega) (show _ ≤ (1862 : Nat) by omega) dX2_init_15 (fun H hH => ?_)
  obtain ⟨E3, e3, hH⟩ : ∃ z, z = uE E2 (n + 1) (.inl (zC Z 5, 2, .inr (.inr (.inr (.inr fun _ => none))))) ∧ CHp (zD Z) B H0 (n + 2) z H := ⟨_, rfl, hH⟩
  have h_j : E3 (j) = .inr (9, [.ref (B + (n)), .null, .null, vi 0, vi 0]) := by rw [e3]; exact (uE_ne (by omega)).trans h_j
  have hA : E3 (n) = .inl (zC Z 5, 8, .inr (.inr (.inr (.inr fun _ => none)))) := by rw [e3]; exact (uE_ne (by omega)).trans hA
  have hB : E3 (n + 1) = .inl (zC Z 5, 2, .inr (.inr (.inr (.inr fun _ => none)))) := by rw [e3]; exact uE_self _ _ _
  refine ch_putG (k := 1) (j := j) (ty0 := tyX2) (fin := true) b hH (by omega) h_j rfl in_9 tyX2_ok nmX2 (by decide) rfl (Nat.le_of_ble_eq_true rfl) rfl rfl hnm rfl hlo hzB (li_2 44 (by decide +kernel) (by decide +kernel)) dX2_init_18 (fun H locs hH hlo => ?_)
  obtain ⟨E4, e4, hH⟩ : ∃ z, z = uE E3 (j) (.inr (9, [.ref (B + (n)), .ref (B + (n + 1)), .null, vi 0, vi 0])) ∧ CHp (zD Z) B H0 (n + 2) z H := ⟨_, rfl, hH⟩
  have hA : E4 (n) = .inl (zC Z 5, 8, .inr (.inr (.inr (.inr fun _ => none)))) := by rw [e4]; exact (uE_ne (by omega)).trans hA
  have hB : E4 (n + 1) = .inl (zC Z 5, 2, .inr (.inr (.inr (.inr fun _ => none)))) := by rw [e4]; exact (uE_ne (by omega)).trans hB
  have h_j : E4 (j) = .inr (9, [.ref (B + (n)), .ref (B + (n + 1)), .null, vi 0, vi 0]) := by rw [e4]; exact uE_self _ _ _
  refine lv_aload_n b.1 b.2.1 dX2_init_21 rfl (lv_at hl 0 rfl) ?_
  refine lv_iconst (v := Int32.ofInt 2) b.1 b.2.1 dX2_init_22 rfl ?_
  refine ch_newa (atype := .boolean) (ty := .boolean) (cA := zC Z 1) (t0 := 1) (N' := 2) b hH (li_2 59 (by decide +kernel) (by decide +kernel)) rfl rfl (fun _ h => h) rfl (by decide) (Nat.le_of_ble_eq_true rfl) (show _ ≤ (903 : Nat) by omega) (show _ ≤ (1862 : Nat) by omega) dX2_init_23 (fun H hH => ?_)
  obtain ⟨E5, e5, hH⟩ : ∃ z, z = uE E4 (n + 2) (arI (zC Z 1) 2 (fun _ => 0)) ∧ CHp (zD Z) B H0 (n + 3) z H := ⟨_, rfl, hH⟩
  have h_j : E5 (j) = .inr (9, [.ref (B + (n)), .ref (B + (n + 1)), .null, vi 0, vi 0]) := by rw [e5]; exact (uE_ne (by omega)).trans h_j
  have hA : E5 (n) = .inl (zC Z 5, 8, .inr (.inr (.inr (.inr fun _ => none)))) := by rw [e5]; exact (uE_ne (by omega)).trans hA
  have hB : E5 (n + 1) = .inl (zC Z 5, 2, .inr (.inr (.inr (.inr fun _ => none)))) := by rw [e5]; exact (uE_ne (by omega)).trans hB
  refine ch_putG (k := 2) (j := j) (ty0 := tyX2) (fin := true) b hH (by omega) h_j rfl in_9 tyX2_ok nmX2 (by decide) rfl (Nat.le_of_ble_eq_true rfl) rfl rfl hnm rfl hlo hzB (li_2 45 (by decide +kernel) (by decide +kernel)) dX2_init_25 (fun H locs hH hlo => ?_)
  obtain ⟨E6, e6, hH⟩ : ∃ z, z = uE E5 (j) (.inr (9, [.ref (B + (n)), .ref (B + (n + 1)), .ref (B + (n + 2)), vi 0, vi 0])) ∧ CHp (zD Z) B H0 (n + 3) z H := ⟨_, rfl, hH⟩
  have hA : E6 (n) = .inl (zC Z 5, 8, .inr (.inr (.inr (.inr fun _ => none)))) := by rw [e6]; exact (uE_ne (by omega)).trans hA
  have hB : E6 (n + 1) = .inl (zC Z 5, 2, .inr (.inr (.inr (.inr fun _ => none)))) := by rw [e6]; exact (uE_ne (by omega)).trans hB
  have h_j : E6 (j) = .inr (9, [.ref (B + (n)), .ref (B + (n + 1)), .ref (B + (n + 2)), vi 0, vi 0]) := by rw [e6]; exact uE_self _ _ _
  refine lv_iconst (v := Int32.ofInt 0) b.1 b.2.1 dX2_init_28 rfl ?_
  refine lv_istore_n (lv' := [(1, vi 0), (0, .ref (B + j))]) b.1 b.2.1 dX2_init_29 rfl hl (by decide) rfl (fun ls hl => ?_)
  refine W.widen (k := 3 + 90 * 0) (n := 12 + 185 * 0) (by omega) (by omega) ?_
  exact lp0 8 0 E6 H locs ls (by omega) (by subst e1 e2 e3 e4 e5 e6 eE; rfl) hH h_j hA hlo (lv_sub hl [1, 0] rfl)
def E_RX12 (Z : ZT) (B : Nat) (E : Nat → va_E) : Nat → va_E := uE (uE (E_RX4 Z B (1111) (1110) (uE (uE (E_RX2 Z B (207) (206) (uE (uE (E_RX6 Z B (199) (198) (uE (uE (E_RX7 Z B (198) (197) (uE (uE (E_RX8 Z B (196) (195) (uE (uE (E_RX10 Z B (189) (188) (uE (uE (E_RX9 Z B (182) (181) (uE (uE (E_RX1 Z B (92) (91) (uE (uE (E_RX1 Z B (2) (1) (uE E (1) (.inr (1, [.null, .null, .null, .null, .null, .null, vi 0, vi 0, vi 0, vi 0]))) ) (0) (.inr (0, [.ref (B + (1)), .null, .null, .null, .null, .null, .null, .null, .null, vi 0]))) (91) (.inr (1, [.null, .null, .null, .null, .null, .null, vi 0, vi 0, vi 0, vi 0]))) ) (0) (.inr (0, [.ref (B + (1)), .ref (B + (91)), .null, .null, .null, .null, .null, .null, .null, vi 0]))) (181) (.inr (3, [.null, .null]))) ) (0) (.inr (0, [.ref (B + (1)), .ref (B + (91)), .ref (B + (181)), .null, .null, .null, .null, .null, .null, vi 0]))) (188) (.inr (5, [.null, .null, .null, .null, .null, .null, vi 0, vi 0]))) ) (0) (.inr (0, [.ref (B + (1)), .ref (B + (91)), .ref (B + (181)), .ref (B + (188)), .null, .null, .null, .null, .null, vi 0]))) (195) (.inr (6, [.null, vi 0, vi 0, vi 0, vi 0, vi 0, vi 0, vi 0]))) ) (0) (.inr (0, [.ref (B + (1)), .ref (B + (91)), .ref (B + (181)), .ref (B + (188)), .ref (B + (195)), .null, .null, .null, .null, vi 0]))) (197) (.inr (7, [.null, .null, vi 0, vi 0, vi 0, vi 0, vi 0]))) ((B + (195))) ((B + (91))) ) (0) (.inr (0, [.ref (B + (1)), .ref (B + (91)), .ref (B + (181)), .ref (B + (188)), .ref (B + (195)), .ref (B + (197)), .null, .null, .null, vi 0]))) (198) (.inr (8, [.null, .null, .null, .null, .null, .null, .null, .null, vi 0, vi 0, vi 0]))) ((B + (195))) ) (0) (.inr (0, [.ref (B + (1)), .ref (B + (91)), .ref (B + (181)), .ref (B + (188)), .ref (B + (195)), .ref (B + (197)), .ref (B + (198)), .null, .null, vi 0]))) (206) (.inr (9, [.null, .null, .null, vi 0, vi 0]))) ) (0) (.inr (0, [.ref (B + (1)), .ref (B + (91)), .ref (B + (181)), .ref (B + (188)), .ref (B + (195)), .ref (B + (197)), .ref (B + (198)), .ref (B + (206)), .null, vi 0]))) (1110) (.inr (10, [.null, vi 0]))) ) (0) (.inr (0, [.ref (B + (1)), .ref (B + (91)), .ref (B + (181)), .ref (B + (188)), .ref (B + (195)), .ref (B + (197)), .ref (B + (198)), .ref (B + (206)), .ref (B + (1110)), vi 0]))) (0) (.inr (0, [.ref (B + (1)), .ref (B + (91)), .ref (B + (181)), .ref (B + (188)), .ref (B + (195)), .ref (B + (197)), .ref (B + (198)), .ref (B + (206)), .ref (B + (1110)), vi (-1)]))
set_option maxRecDepth 20000 in
set_option maxHeartbeats 4000000 in
theorem W_RX12 {p : Program} {l : Launch} {e : Env} {s : State} {m : MethodId} {args : Array Value} {below : List Frame} {meth : Method} {c : Code} {ls : Array Slot} {Q : State → Prop} {H : Heap} {mc ms : Nat} (Z : ZT) (B : Nat) (H0 : Heap) (E : Nat → va_E) (hfl : l.stackTraces = false) (hzB : zB Z ≤ B) (hZ : zB Z = B ∧ zH Z = H0) (hmc : 1111 ≤ mc) (hms : 21377 ≤ ms) (b : BB p s m args c RX12 cX12_init 1 Z) (hH : CHp (zD Z) B H0 1 E H) (h_j : E 0 = .inr (0, [.null, .null, .null, .null, .null, .null, .null, .null, .null, vi 0])) (hnm : meth.name = "<init>") (hl : lv_has ls 1 [(0, .ref (B + 0))])
    (kk : ∀ (H1 : Heap) (locs1 : List Loc), CHp (zD Z) B H0 1112 (E_RX12 Z B E) H1 → (∀ q ∈ locs1, zN Z q.base) → W p l e (rmH 4 mc ms) s m args below meth c H1 locs1 1111 21377 Q (F0 m 120 ls [])) : W p l e (rmH 4 mc ms) s m args below meth c H [] 0 0 Q (F0 m 0 ls []) := by
  have hlo : ∀ q ∈ ([] : List Loc), zN Z q.base := fun q hq => by cases hq
  refine lv_aload_n b.1 b.2.1 dX12_init_0 rfl (lv_at hl 0 rfl) ?_
  refine ch_obj b hl.1 (li_1 35 (by decide +kernel) (by decide +kernel)) (Nat.le_of_ble_eq_true rfl) (Nat.le_of_ble_eq_true rfl) dX12_init_1 ?_
  refine lv_aload_n b.1 b.2.1 dX12_init_4 rfl (lv_at hl 0 rfl) ?_
  refine ch_new (ci := 1) tyX1 [.null, .null, .null, .null, .null, .null, vi 0, vi 0, vi 0, vi 0] b hH in_1 tyX1_ok (li_1 38 (by decide +kernel) (by decide +kernel)) (li_1 39 (by decide +kernel) (by decide +kernel)) (li_1 2 (by decide +kernel) (by decide +kernel)) rfl (fun j hj => by rcases (show j = 0 ∨ j = 1 ∨ j = 2 ∨ j = 3 ∨ j = 4 ∨ j = 5 ∨ j = 6 ∨ j = 7 ∨ j = 8 ∨ j = 9 by omega) with rfl | rfl | rfl | rfl | rfl | rfl | rfl | rfl | rfl | rfl <;> rfl) (show _ ≤ (mc : Nat) by omega) (show _ ≤ (ms : Nat) by omega) dX12_init_5 (fun H hH => ?_)
  obtain ⟨E1, e1, hH⟩ : ∃ z, z = uE E (1) (.inr (1, [.null, .null, .null, .null, .null, .null, vi 0, vi 0, vi 0, vi 0])) ∧ CHp (zD Z) B H0 (2) z H := ⟨_, rfl, hH⟩
  have h_j : E1 (0) = .inr (0, [.null, .null, .null, .null, .null, .null, .null, .null, .null, vi 0]) := by rw [e1]; exact (uE_ne (by omega)).trans h_j
  have hn1 : E1 (1) = .inr (1, [.null, .null, .null, .null, .null, .null, vi 0, vi 0, vi 0, vi 0]) := by rw [e1]; exact uE_self _ _ _
  refine lv_dup b.1 b.2.1 dX12_init_8 rfl ?_
  refine ch_call (y' := yX1_init) (cc' := cX1_init) (maxL' := 2) (h' := 2) (nA := 0) (a := B + (1)) (As := []) (rest := [.ref (B + (1)), .ref (B + 0)]) b hl.1 (C_RX1 Z B H0 (2) (1) E1 hzB (by omega) hn1) hH hfl (li_1 42 (by decide +kernel) (by decide +kernel)) (li_1 40 (by decide +kernel) (by decide +kernel)) (li_1 41 (by decide +kernel) (by decide +kernel)) (li_1 2 (by decide +kernel) (by decide +kernel)) rfl (by decide +kernel) rfl rfl ⟨Nat.le_of_ble_eq_true rfl, Nat.le_of_ble_eq_true rfl⟩ (Nat.le_of_ble_eq_true rfl) ⟨show _ ≤ (mc : Nat) by omega, show _ ≤ (ms : Nat) by omega⟩ hlo dX12_init_9 (fun H locs hH hlo => ?_)
  obtain ⟨E2, e2, hH⟩ : ∃ z, z = E_RX1 Z B (2) (1) E1  ∧ CHp (zD Z) B H0 (91) z H := ⟨_, rfl, hH⟩
  have h_j : E2 (0) = .inr (0, [.null, .null, .null, .null, .null, .null, .null, .null, .null, vi 0]) := by rw [e2]; exact (E_RX1_old (by omega) (by omega)).trans h_j
  refine ch_putG (k := 0) (j := 0) (ty0 := tyX12) (fin := true) b hH (by omega) h_j rfl in_0 tyX12_ok nmX12 (by decide) rfl (Nat.le_of_ble_eq_true rfl) rfl rfl hnm rfl hlo hzB (li_2 100 (by decide +kernel) (by decide +kernel)) dX12_init_12 (fun H locs hH hlo => ?_)
  obtain ⟨E3, e3, hH⟩ : ∃ z, z = uE E2 (0) (.inr (0, [.ref (B + (1)), .null, .null, .null, .null, .null, .null, .null, .null, vi 0])) ∧ CHp (zD Z) B H0 (91) z H := ⟨_, rfl, hH⟩
  have h_j : E3 (0) = .inr (0, [.ref (B + (1)), .null, .null, .null, .null, .null, .null, .null, .null, vi 0]) := by rw [e3]; exact uE_self _ _ _
  refine lv_aload_n b.1 b.2.1 dX12_init_15 rfl (lv_at hl 0 rfl) ?_
  refine ch_new (ci := 1) tyX1 [.null, .null, .null, .null, .null, .null, vi 0, vi 0, vi 0, vi 0] b hH in_1 tyX1_ok (li_1 38 (by decide +kernel) (by decide +kernel)) (li_1 39 (by decide +kernel) (by decide +kernel)) (li_1 2 (by decide +kernel) (by decide +kernel)) rfl (fun j hj => by rcases (show j = 0 ∨ j = 1 ∨ j = 2 ∨ j = 3 ∨ j = 4 ∨ j = 5 ∨ j = 6 ∨ j = 7 ∨ j = 8 ∨ j = 9 by omega) with rfl | rfl | rfl | rfl | rfl | rfl | rfl | rfl | rfl | rfl <;> rfl) (show _ ≤ (mc : Nat) by omega) (show _ ≤ (ms : Nat) by omega) dX12_init_16 (fun H hH => ?_)
  obtain ⟨E4, e4, hH⟩ : ∃ z, z = uE E3 (91) (.inr (1, [.null, .null, .null, .null, .null, .null, vi 0, vi 0, vi 0, vi 0])) ∧ CHp (zD Z) B H0 (92) z H := ⟨_, rfl, hH⟩
  have h_j : E4 (0) = .inr (0, [.ref (B + (1)), .null, .null, .null, .null, .null, .null, .null, .null, vi 0]) := by rw [e4]; exact (uE_ne (by omega)).trans h_j
  have hn2 : E4 (91) = .inr (1, [.null, .null, .null, .null, .null, .null, vi 0, vi 0, vi 0, vi 0]) := by rw [e4]; exact uE_self _ _ _
  refine lv_dup b.1 b.2.1 dX12_init_19 rfl ?_
  refine ch_call (y' := yX1_init) (cc' := cX1_init) (maxL' := 2) (h' := 2) (nA := 0) (a := B + (91)) (As := []) (rest := [.ref (B + (91)), .ref (B + 0)]) b hl.1 (C_RX1 Z B H0 (92) (91) E4 hzB (by omega) hn2) hH hfl (li_1 42 (by decide +kernel) (by decide +kernel)) (li_1 40 (by decide +kernel) (by decide +kernel)) (li_1 41 (by decide +kernel) (by decide +kernel)) (li_1 2 (by decide +kernel) (by decide +kernel)) rfl (by decide +kernel) rfl rfl ⟨Nat.le_of_ble_eq_true rfl, Nat.le_of_ble_eq_true rfl⟩ (Nat.le_of_ble_eq_true rfl) ⟨show _ ≤ (mc : Nat) by omega, show _ ≤ (ms : Nat) by omega⟩ hlo dX12_init_20 (fun H locs hH hlo => ?_)
  obtain ⟨E5, e5, hH⟩ : ∃ z, z = E_RX1 Z B (92) (91) E4  ∧ CHp (zD Z) B H0 (181) z H := ⟨_, rfl, hH⟩
  have h_j : E5 (0) = .inr (0, [.ref (B + (1)), .null, .null, .null, .null, .null, .null, .null, .null, vi 0]) := by rw [e5]; exact (E_RX1_old (by omega) (by omega)).trans h_j
  refine ch_putG (k := 1) (j := 0) (ty0 := tyX12) (fin := true) b hH (by omega) h_j rfl in_0 tyX12_ok nmX12 (by decide) rfl (Nat.le_of_ble_eq_true rfl) rfl rfl hnm rfl hlo hzB (li_2 101 (by decide +kernel) (by decide +kernel)) dX12_init_23 (fun H locs hH hlo => ?_)
  obtain ⟨E6, e6, hH⟩ : ∃ z, z = uE E5 (0) (.inr (0, [.ref (B + (1)), .ref (B + (91)), .null, .null, .null, .null, .null, .null, .null, vi 0])) ∧ CHp (zD Z) B H0 (181) z H := ⟨_, rfl, hH⟩
  have h_j : E6 (0) = .inr (0, [.ref (B + (1)), .ref (B + (91)), .null, .null, .null, .null, .null, .null, .null, vi 0]) := by rw [e6]; exact uE_self _ _ _
  refine lv_aload_n b.1 b.2.1 dX12_init_26 rfl (lv_at hl 0 rfl) ?_
  refine ch_new (ci := 3) tyX9 [.null, .null] b hH in_3 tyX9_ok (li_1 90 (by decide +kernel) (by decide +kernel)) (li_1 91 (by decide +kernel) (by decide +kernel)) (li_1 4 (by decide +kernel) (by decide +kernel)) rfl (fun j hj => by rcases (show j = 0 ∨ j = 1 by omega) with rfl | rfl <;> rfl) (show _ ≤ (mc : Nat) by omega) (show _ ≤ (ms : Nat) by omega) dX12_init_27 (fun H hH => ?_)
  obtain ⟨E7, e7, hH⟩ : ∃ z, z = uE E6 (181) (.inr (3, [.null, .null])) ∧ CHp (zD Z) B H0 (182) z H := ⟨_, rfl, hH⟩
  have h_j : E7 (0) = .inr (0, [.ref (B + (1)), .ref (B + (91)), .null, .null, .null, .null, .null, .null, .null, vi 0]) := by rw [e7]; exact (uE_ne (by omega)).trans h_j
  have hn3 : E7 (181) = .inr (3, [.null, .null]) := by rw [e7]; exact uE_self _ _ _
  refine lv_dup b.1 b.2.1 dX12_init_30 rfl ?_
  refine ch_callN (y' := yX9_init) (cc' := cX9_init) (maxL' := 1) (h' := 2) (nA := 0) (a := B + (181)) (As := []) (rest := [.ref (B + (181)), .ref (B + 0)]) (host := "PairRules") b hl.1 (C_RX9 Z B H0 (182) (181) E7 hzB (by omega) hn3) hH hfl (li_1 94 (by decide +kernel) (by decide +kernel)) (nw_in 229 (by decide +kernel) (by decide +kernel)) (li_1 93 (by decide +kernel) (by decide +kernel)) (li_1 4 (by decide +kernel) (by decide +kernel)) rfl (by decide +kernel) rfl rfl ⟨Nat.le_of_ble_eq_true rfl, Nat.le_of_ble_eq_true rfl⟩ (Nat.le_of_ble_eq_true rfl) ⟨show _ ≤ (mc : Nat) by omega, show _ ≤ (ms : Nat) by omega⟩ hlo dX12_init_31 (fun H locs hH hlo => ?_)
  obtain ⟨E8, e8, hH⟩ : ∃ z, z = E_RX9 Z B (182) (181) E7  ∧ CHp (zD Z) B H0 (188) z H := ⟨_, rfl, hH⟩
  have h_j : E8 (0) = .inr (0, [.ref (B + (1)), .ref (B + (91)), .null, .null, .null, .null, .null, .null, .null, vi 0]) := by rw [e8]; exact (E_RX9_old (by omega) (by omega)).trans h_j
  refine ch_putG (k := 2) (j := 0) (ty0 := tyX12) (fin := true) b hH (by omega) h_j rfl in_0 tyX12_ok nmX12 (by decide) rfl (Nat.le_of_ble_eq_true rfl) rfl rfl hnm rfl hlo hzB (li_2 102 (by decide +kernel) (by decide +kernel)) dX12_init_34 (fun H locs hH hlo => ?_)
  obtain ⟨E9, e9, hH⟩ : ∃ z, z = uE E8 (0) (.inr (0, [.ref (B + (1)), .ref (B + (91)), .ref (B + (181)), .null, .null, .null, .null, .null, .null, vi 0])) ∧ CHp (zD Z) B H0 (188) z H := ⟨_, rfl, hH⟩
  have h_j : E9 (0) = .inr (0, [.ref (B + (1)), .ref (B + (91)), .ref (B + (181)), .null, .null, .null, .null, .null, .null, vi 0]) := by rw [e9]; exact uE_self _ _ _
  refine lv_aload_n b.1 b.2.1 dX12_init_37 rfl (lv_at hl 0 rfl) ?_
  refine ch_new (ci := 5) tyX10 [.null, .null, .null, .null, .null, .null, vi 0, vi 0] b hH in_5 tyX10_ok (li_1 140 (by decide +kernel) (by decide +kernel)) (li_1 141 (by decide +kernel) (by decide +kernel)) (li_1 6 (by decide +kernel) (by decide +kernel)) rfl (fun j hj => by rcases (show j = 0 ∨ j = 1 ∨ j = 2 ∨ j = 3 ∨ j = 4 ∨ j = 5 ∨ j = 6 ∨ j = 7 by omega) with rfl | rfl | rfl | rfl | rfl | rfl | rfl | rfl <;> rfl) (show _ ≤ (mc : Nat) by omega) (show _ ≤ (ms : Nat) by omega) dX12_init_38 (fun H hH => ?_)
  obtain ⟨E10, e10, hH⟩ : ∃ z, z = uE E9 (188) (.inr (5, [.null, .null, .null, .null, .null, .null, vi 0, vi 0])) ∧ CHp (zD Z) B H0 (189) z H := ⟨_, rfl, hH⟩
  have h_j : E10 (0) = .inr (0, [.ref (B + (1)), .ref (B + (91)), .ref (B + (181)), .null, .null, .null, .null, .null, .null, vi 0]) := by rw [e10]; exact (uE_ne (by omega)).trans h_j
  have hn4 : E10 (188) = .inr (5, [.null, .null, .null, .null, .null, .null, vi 0, vi 0]) := by rw [e10]; exact uE_self _ _ _
  refine lv_dup b.1 b.2.1 dX12_init_41 rfl ?_
  refine ch_callN (y' := yX10_init) (cc' := cX10_init) (maxL' := 1) (h' := 1) (nA := 0) (a := B + (188)) (As := []) (rest := [.ref (B + (188)), .ref (B + 0)]) (host := "PairRules") b hl.1 (C_RX10 Z B H0 (189) (188) E10 hzB (by omega) hn4) hH hfl (li_1 144 (by decide +kernel) (by decide +kernel)) (nw_in 279 (by decide +kernel) (by decide +kernel)) (li_1 143 (by decide +kernel) (by decide +kernel)) (li_1 6 (by decide +kernel) (by decide +kernel)) rfl (by decide +kernel) rfl rfl ⟨Nat.le_of_ble_eq_true rfl, Nat.le_of_ble_eq_true rfl⟩ (Nat.le_of_ble_eq_true rfl) ⟨show _ ≤ (mc : Nat) by omega, show _ ≤ (ms : Nat) by omega⟩ hlo dX12_init_42 (fun H locs hH hlo => ?_)
  obtain ⟨E11, e11, hH⟩ : ∃ z, z = E_RX10 Z B (189) (188) E10  ∧ CHp (zD Z) B H0 (195) z H := ⟨_, rfl, hH⟩
  have h_j : E11 (0) = .inr (0, [.ref (B + (1)), .ref (B + (91)), .ref (B + (181)), .null, .null, .null, .null, .null, .null, vi 0]) := by rw [e11]; exact (E_RX10_old (by omega) (by omega)).trans h_j
  refine ch_putG (k := 3) (j := 0) (ty0 := tyX12) (fin := true) b hH (by omega) h_j rfl in_0 tyX12_ok nmX12 (by decide) rfl (Nat.le_of_ble_eq_true rfl) rfl rfl hnm rfl hlo hzB (li_2 103 (by decide +kernel) (by decide +kernel)) dX12_init_45 (fun H locs hH hlo => ?_)
  obtain ⟨E12, e12, hH⟩ : ∃ z, z = uE E11 (0) (.inr (0, [.ref (B + (1)), .ref (B + (91)), .ref (B + (181)), .ref (B + (188)), .null, .null, .null, .null, .null, vi 0])) ∧ CHp (zD Z) B H0 (195) z H := ⟨_, rfl, hH⟩
  have h_j : E12 (0) = .inr (0, [.ref (B + (1)), .ref (B + (91)), .ref (B + (181)), .ref (B + (188)), .null, .null, .null, .null, .null, vi 0]) := by rw [e12]; exact uE_self _ _ _
  refine lv_aload_n b.1 b.2.1 dX12_init_48 rfl (lv_at hl 0 rfl) ?_
  refine ch_new (ci := 6) tyX8 [.null, vi 0, vi 0, vi 0, vi 0, vi 0, vi 0, vi 0] b hH in_6 tyX8_ok (li_1 171 (by decide +kernel) (by decide +kernel)) (li_1 172 (by decide +kernel) (by decide +kernel)) (li_1 7 (by decide +kernel) (by decide +kernel)) rfl (fun j hj => by rcases (show j = 0 ∨ j = 1 ∨ j = 2 ∨ j = 3 ∨ j = 4 ∨ j = 5 ∨ j = 6 ∨ j = 7 by omega) with rfl | rfl | rfl | rfl | rfl | rfl | rfl | rfl <;> rfl) (show _ ≤ (mc : Nat) by omega) (show _ ≤ (ms : Nat) by omega) dX12_init_49 (fun H hH => ?_)
  obtain ⟨E13, e13, hH⟩ : ∃ z, z = uE E12 (195) (.inr (6, [.null, vi 0, vi 0, vi 0, vi 0, vi 0, vi 0, vi 0])) ∧ CHp (zD Z) B H0 (196) z H := ⟨_, rfl, hH⟩
  have h_j : E13 (0) = .inr (0, [.ref (B + (1)), .ref (B + (91)), .ref (B + (181)), .ref (B + (188)), .null, .null, .null, .null, .null, vi 0]) := by rw [e13]; exact (uE_ne (by omega)).trans h_j
  have hn5 : E13 (195) = .inr (6, [.null, vi 0, vi 0, vi 0, vi 0, vi 0, vi 0, vi 0]) := by rw [e13]; exact uE_self _ _ _
  refine lv_dup b.1 b.2.1 dX12_init_52 rfl ?_
  refine ch_callN (y' := yX8_init) (cc' := cX8_init) (maxL' := 1) (h' := 1) (nA := 0) (a := B + (195)) (As := []) (rest := [.ref (B + (195)), .ref (B + 0)]) (host := "PairRules") b hl.1 (C_RX8 Z B H0 (196) (195) E13 hzB (by omega) hn5) hH hfl (li_1 175 (by decide +kernel) (by decide +kernel)) (nw_in 310 (by decide +kernel) (by decide +kernel)) (li_1 174 (by decide +kernel) (by decide +kernel)) (li_1 7 (by decide +kernel) (by decide +kernel)) rfl (by decide +kernel) rfl rfl ⟨Nat.le_of_ble_eq_true rfl, Nat.le_of_ble_eq_true rfl⟩ (Nat.le_of_ble_eq_true rfl) ⟨show _ ≤ (mc : Nat) by omega, show _ ≤ (ms : Nat) by omega⟩ hlo dX12_init_53 (fun H locs hH hlo => ?_)
  obtain ⟨E14, e14, hH⟩ : ∃ z, z = E_RX8 Z B (196) (195) E13  ∧ CHp (zD Z) B H0 (197) z H := ⟨_, rfl, hH⟩
  have h_j : E14 (0) = .inr (0, [.ref (B + (1)), .ref (B + (91)), .ref (B + (181)), .ref (B + (188)), .null, .null, .null, .null, .null, vi 0]) := by rw [e14]; exact (E_RX8_old (by omega) (by omega)).trans h_j
  refine ch_putG (k := 4) (j := 0) (ty0 := tyX12) (fin := true) b hH (by omega) h_j rfl in_0 tyX12_ok nmX12 (by decide) rfl (Nat.le_of_ble_eq_true rfl) rfl rfl hnm rfl hlo hzB (li_2 104 (by decide +kernel) (by decide +kernel)) dX12_init_56 (fun H locs hH hlo => ?_)
  obtain ⟨E15, e15, hH⟩ : ∃ z, z = uE E14 (0) (.inr (0, [.ref (B + (1)), .ref (B + (91)), .ref (B + (181)), .ref (B + (188)), .ref (B + (195)), .null, .null, .null, .null, vi 0])) ∧ CHp (zD Z) B H0 (197) z H := ⟨_, rfl, hH⟩
  have h_j : E15 (0) = .inr (0, [.ref (B + (1)), .ref (B + (91)), .ref (B + (181)), .ref (B + (188)), .ref (B + (195)), .null, .null, .null, .null, vi 0]) := by rw [e15]; exact uE_self _ _ _
  refine lv_aload_n b.1 b.2.1 dX12_init_59 rfl (lv_at hl 0 rfl) ?_
  refine ch_new (ci := 7) tyX7 [.null, .null, vi 0, vi 0, vi 0, vi 0, vi 0] b hH in_7 tyX7_ok (li_1 202 (by decide +kernel) (by decide +kernel)) (li_1 203 (by decide +kernel) (by decide +kernel)) (li_1 8 (by decide +kernel) (by decide +kernel)) rfl (fun j hj => by rcases (show j = 0 ∨ j = 1 ∨ j = 2 ∨ j = 3 ∨ j = 4 ∨ j = 5 ∨ j = 6 by omega) with rfl | rfl | rfl | rfl | rfl | rfl | rfl <;> rfl) (show _ ≤ (mc : Nat) by omega) (show _ ≤ (ms : Nat) by omega) dX12_init_60 (fun H hH => ?_)
  obtain ⟨E16, e16, hH⟩ : ∃ z, z = uE E15 (197) (.inr (7, [.null, .null, vi 0, vi 0, vi 0, vi 0, vi 0])) ∧ CHp (zD Z) B H0 (198) z H := ⟨_, rfl, hH⟩
  have h_j : E16 (0) = .inr (0, [.ref (B + (1)), .ref (B + (91)), .ref (B + (181)), .ref (B + (188)), .ref (B + (195)), .null, .null, .null, .null, vi 0]) := by rw [e16]; exact (uE_ne (by omega)).trans h_j
  have hn6 : E16 (197) = .inr (7, [.null, .null, vi 0, vi 0, vi 0, vi 0, vi 0]) := by rw [e16]; exact uE_self _ _ _
  refine lv_dup b.1 b.2.1 dX12_init_63 rfl ?_
  refine lv_aload_n b.1 b.2.1 dX12_init_64 rfl (lv_at hl 0 rfl) ?_
  refine ch_get (k := 4) (j := 0) b hH (by omega) h_j rfl in_0 (by decide) rfl rfl (li_2 104 (by decide +kernel) (by decide +kernel)) dX12_init_65 ?_
  refine lv_aload_n b.1 b.2.1 dX12_init_68 rfl (lv_at hl 0 rfl) ?_
  refine ch_get (k := 1) (j := 0) b hH (by omega) h_j rfl in_0 (by decide) rfl rfl (li_2 101 (by decide +kernel) (by decide +kernel)) dX12_init_69 ?_
  refine ch_call (y' := yX7_init) (cc' := cX7_init) (maxL' := 3) (h' := 1) (nA := 2) (a := B + (197)) (As := [.ref (B + (195)), .ref (B + (91))]) (rest := [.ref (B + (197)), .ref (B + 0)]) b hl.1 (C_RX7 Z B H0 (198) (197) E16 ((B + (195))) ((B + (91))) hzB (by omega) hn6) hH hfl (li_1 206 (by decide +kernel) (by decide +kernel)) (li_1 204 (by decide +kernel) (by decide +kernel)) (li_1 205 (by decide +kernel) (by decide +kernel)) (li_1 8 (by decide +kernel) (by decide +kernel)) rfl (by decide +kernel) rfl rfl ⟨Nat.le_of_ble_eq_true rfl, Nat.le_of_ble_eq_true rfl⟩ (Nat.le_of_ble_eq_true rfl) ⟨show _ ≤ (mc : Nat) by omega, show _ ≤ (ms : Nat) by omega⟩ hlo dX12_init_72 (fun H locs hH hlo => ?_)
  obtain ⟨E17, e17, hH⟩ : ∃ z, z = E_RX7 Z B (198) (197) E16 ((B + (195))) ((B + (91)))  ∧ CHp (zD Z) B H0 (198) z H := ⟨_, rfl, hH⟩
  have h_j : E17 (0) = .inr (0, [.ref (B + (1)), .ref (B + (91)), .ref (B + (181)), .ref (B + (188)), .ref (B + (195)), .null, .null, .null, .null, vi 0]) := by rw [e17]; exact (E_RX7_old (by omega) (by omega)).trans h_j
  refine ch_putG (k := 5) (j := 0) (ty0 := tyX12) (fin := true) b hH (by omega) h_j rfl in_0 tyX12_ok nmX12 (by decide) rfl (Nat.le_of_ble_eq_true rfl) rfl rfl hnm rfl hlo hzB (li_2 105 (by decide +kernel) (by decide +kernel)) dX12_init_75 (fun H locs hH hlo => ?_)
  obtain ⟨E18, e18, hH⟩ : ∃ z, z = uE E17 (0) (.inr (0, [.ref (B + (1)), .ref (B + (91)), .ref (B + (181)), .ref (B + (188)), .ref (B + (195)), .ref (B + (197)), .null, .null, .null, vi 0])) ∧ CHp (zD Z) B H0 (198) z H := ⟨_, rfl, hH⟩
  have h_j : E18 (0) = .inr (0, [.ref (B + (1)), .ref (B + (91)), .ref (B + (181)), .ref (B + (188)), .ref (B + (195)), .ref (B + (197)), .null, .null, .null, vi 0]) := by rw [e18]; exact uE_self _ _ _
  refine lv_aload_n b.1 b.2.1 dX12_init_78 rfl (lv_at hl 0 rfl) ?_
  refine ch_new (ci := 8) tyX6 [.null, .null, .null, .null, .null, .null, .null, .null, vi 0, vi 0, vi 0] b hH in_8 tyX6_ok (li_1 230 (by decide +kernel) (by decide +kernel)) (li_1 231 (by decide +kernel) (by decide +kernel)) (li_1 9 (by decide +kernel) (by decide +kernel)) rfl (fun j hj => by rcases (show j = 0 ∨ j = 1 ∨ j = 2 ∨ j = 3 ∨ j = 4 ∨ j = 5 ∨ j = 6 ∨ j = 7 ∨ j = 8 ∨ j = 9 ∨ j = 10 by omega) with rfl | rfl | rfl | rfl | rfl | rfl | rfl | rfl | rfl | rfl | rfl <;> rfl) (show _ ≤ (mc : Nat) by omega) (show _ ≤ (ms : Nat) by omega) dX12_init_79 (fun H hH => ?_)
  obtain ⟨E19, e19, hH⟩ : ∃ z, z = uE E18 (198) (.inr (8, [.null, .null, .null, .null, .null, .null, .null, .null, vi 0, vi 0, vi 0])) ∧ CHp (zD Z) B H0 (199) z H := ⟨_, rfl, hH⟩
  have h_j : E19 (0) = .inr (0, [.ref (B + (1)), .ref (B + (91)), .ref (B + (181)), .ref (B + (188)), .ref (B + (195)), .ref (B + (197)), .null, .null, .null, vi 0]) := by rw [e19]; exact (uE_ne (by omega)).trans h_j
  have hn7 : E19 (198) = .inr (8, [.null, .null, .null, .null, .null, .null, .null, .null, vi 0, vi 0, vi 0]) := by rw [e19]; exact uE_self _ _ _
  refine lv_dup b.1 b.2.1 dX12_init_82 rfl ?_
  refine lv_aload_n b.1 b.2.1 dX12_init_83 rfl (lv_at hl 0 rfl) ?_
  refine ch_get (k := 4) (j := 0) b hH (by omega) h_j rfl in_0 (by decide) rfl rfl (li_2 104 (by decide +kernel) (by decide +kernel)) dX12_init_84 ?_
  refine ch_call (y' := yX6_init) (cc' := cX6_init) (maxL' := 3) (h' := 1) (nA := 1) (a := B + (198)) (As := [.ref (B + (195))]) (rest := [.ref (B + (198)), .ref (B + 0)]) b hl.1 (C_RX6 Z B H0 (199) (198) E19 ((B + (195))) hzB hZ (by omega) hn7) hH hfl (li_1 234 (by decide +kernel) (by decide +kernel)) (li_1 232 (by decide +kernel) (by decide +kernel)) (li_1 233 (by decide +kernel) (by decide +kernel)) (li_1 9 (by decide +kernel) (by decide +kernel)) rfl (by decide +kernel) rfl rfl ⟨Nat.le_of_ble_eq_true rfl, Nat.le_of_ble_eq_true rfl⟩ (Nat.le_of_ble_eq_true rfl) ⟨show _ ≤ (mc : Nat) by omega, show _ ≤ (ms : Nat) by omega⟩ hlo dX12_init_87 (fun H locs hH hlo => ?_)
  obtain ⟨E20, e20, hH⟩ : ∃ z, z = E_RX6 Z B (199) (198) E19 ((B + (195)))  ∧ CHp (zD Z) B H0 (206) z H := ⟨_, rfl, hH⟩
  have h_j : E20 (0) = .inr (0, [.ref (B + (1)), .ref (B + (91)), .ref (B + (181)), .ref (B + (188)), .ref (B + (195)), .ref (B + (197)), .null, .null, .null, vi 0]) := by rw [e20]; exact (E_RX6_old (by omega) (by omega)).trans h_j
  refine ch_putG (k := 6) (j := 0) (ty0 := tyX12) (fin := true) b hH (by omega) h_j rfl in_0 tyX12_ok nmX12 (by decide) rfl (Nat.le_of_ble_eq_true rfl) rfl rfl hnm rfl hlo hzB (li_2 106 (by decide +kernel) (by decide +kernel)) dX12_init_90 (fun H locs hH hlo => ?_)
  obtain ⟨E21, e21, hH⟩ : ∃ z, z = uE E20 (0) (.inr (0, [.ref (B + (1)), .ref (B + (91)), .ref (B + (181)), .ref (B + (188)), .ref (B + (195)), .ref (B + (197)), .ref (B + (198)), .null, .null, vi 0])) ∧ CHp (zD Z) B H0 (206) z H := ⟨_, rfl, hH⟩
  have h_j : E21 (0) = .inr (0, [.ref (B + (1)), .ref (B + (91)), .ref (B + (181)), .ref (B + (188)), .ref (B + (195)), .ref (B + (197)), .ref (B + (198)), .null, .null, vi 0]) := by rw [e21]; exact uE_self _ _ _
  refine lv_aload_n b.1 b.2.1 dX12_init_93 rfl (lv_at hl 0 rfl) ?_
  refine ch_new (ci := 9) tyX2 [.null, .null, .null, vi 0, vi 0] b hH in_9 tyX2_ok (li_2 34 (by decide +kernel) (by decide +kernel)) (li_2 35 (by decide +kernel) (by decide +kernel)) (li_1 12 (by decide +kernel) (by decide +kernel)) rfl (fun j hj => by rcases (show j = 0 ∨ j = 1 ∨ j = 2 ∨ j = 3 ∨ j = 4 by omega) with rfl | rfl | rfl | rfl | rfl <;> rfl) (show _ ≤ (mc : Nat) by omega) (show _ ≤ (ms : Nat) by omega) dX12_init_94 (fun H hH => ?_)
  obtain ⟨E22, e22, hH⟩ : ∃ z, z = uE E21 (206) (.inr (9, [.null, .null, .null, vi 0, vi 0])) ∧ CHp (zD Z) B H0 (207) z H := ⟨_, rfl, hH⟩
  have h_j : E22 (0) = .inr (0, [.ref (B + (1)), .ref (B + (91)), .ref (B + (181)), .ref (B + (188)), .ref (B + (195)), .ref (B + (197)), .ref (B + (198)), .null, .null, vi 0]) := by rw [e22]; exact (uE_ne (by omega)).trans h_j
  have hn8 : E22 (206) = .inr (9, [.null, .null, .null, vi 0, vi 0]) := by rw [e22]; exact uE_self _ _ _
  refine lv_dup b.1 b.2.1 dX12_init_97 rfl ?_
  refine ch_call (y' := yX2_init) (cc' := cX2_init) (maxL' := 2) (h' := 3) (nA := 0) (a := B + (206)) (As := []) (rest := [.ref (B + (206)), .ref (B + 0)]) b hl.1 (C_RX2 Z B H0 (207) (206) E22 hzB (by omega) hn8) hH hfl (li_2 38 (by decide +kernel) (by decide +kernel)) (li_2 36 (by decide +kernel) (by decide +kernel)) (li_2 37 (by decide +kernel) (by decide +kernel)) (li_1 12 (by decide +kernel) (by decide +kernel)) rfl (by decide +kernel) rfl rfl ⟨Nat.le_of_ble_eq_true rfl, Nat.le_of_ble_eq_true rfl⟩ (Nat.le_of_ble_eq_true rfl) ⟨show _ ≤ (mc : Nat) by omega, show _ ≤ (ms : Nat) by omega⟩ hlo dX12_init_98 (fun H locs hH hlo => ?_)
  obtain ⟨E23, e23, hH⟩ : ∃ z, z = E_RX2 Z B (207) (206) E22  ∧ CHp (zD Z) B H0 (1110) z H := ⟨_, rfl, hH⟩
  have h_j : E23 (0) = .inr (0, [.ref (B + (1)), .ref (B + (91)), .ref (B + (181)), .ref (B + (188)), .ref (B + (195)), .ref (B + (197)), .ref (B + (198)), .null, .null, vi 0]) := by rw [e23]; exact (E_RX2_old (by omega) (by omega)).trans h_j
  refine ch_putG (k := 7) (j := 0) (ty0 := tyX12) (fin := true) b hH (by omega) h_j rfl in_0 tyX12_ok nmX12 (by decide) rfl (Nat.le_of_ble_eq_true rfl) rfl rfl hnm rfl hlo hzB (li_2 107 (by decide +kernel) (by decide +kernel)) dX12_init_101 (fun H locs hH hlo => ?_)
  obtain ⟨E24, e24, hH⟩ : ∃ z, z = uE E23 (0) (.inr (0, [.ref (B + (1)), .ref (B + (91)), .ref (B + (181)), .ref (B + (188)), .ref (B + (195)), .ref (B + (197)), .ref (B + (198)), .ref (B + (206)), .null, vi 0])) ∧ CHp (zD Z) B H0 (1110) z H := ⟨_, rfl, hH⟩
  have h_j : E24 (0) = .inr (0, [.ref (B + (1)), .ref (B + (91)), .ref (B + (181)), .ref (B + (188)), .ref (B + (195)), .ref (B + (197)), .ref (B + (198)), .ref (B + (206)), .null, vi 0]) := by rw [e24]; exact uE_self _ _ _
  refine lv_aload_n b.1 b.2.1 dX12_init_104 rfl (lv_at hl 0 rfl) ?_
  refine ch_new (ci := 10) tyX4 [.null, vi 0] b hH in_10 tyX4_ok (li_2 60 (by decide +kernel) (by decide +kernel)) (li_2 61 (by decide +kernel) (by decide +kernel)) (li_1 13 (by decide +kernel) (by decide +kernel)) rfl (fun j hj => by rcases (show j = 0 ∨ j = 1 by omega) with rfl | rfl <;> rfl) (show _ ≤ (mc : Nat) by omega) (show _ ≤ (ms : Nat) by omega) dX12_init_105 (fun H hH => ?_)
  obtain ⟨E25, e25, hH⟩ : ∃ z, z = uE E24 (1110) (.inr (10, [.null, vi 0])) ∧ CHp (zD Z) B H0 (1111) z H := ⟨_, rfl, hH⟩
  have h_j : E25 (0) = .inr (0, [.ref (B + (1)), .ref (B + (91)), .ref (B + (181)), .ref (B + (188)), .ref (B + (195)), .ref (B + (197)), .ref (B + (198)), .ref (B + (206)), .null, vi 0]) := by rw [e25]; exact (uE_ne (by omega)).trans h_j
  have hn9 : E25 (1110) = .inr (10, [.null, vi 0]) := by rw [e25]; exact uE_self _ _ _
  refine lv_dup b.1 b.2.1 dX12_init_108 rfl ?_
  refine ch_callN (y' := yX4_init) (cc' := cX4_init) (maxL' := 1) (h' := 1) (nA := 0) (a := B + (1110)) (As := []) (rest := [.ref (B + (1110)), .ref (B + 0)]) (host := "PairRules") b hl.1 (C_RX4 Z B H0 (1111) (1110) E25 hzB (by omega) hn9) hH hfl (li_2 64 (by decide +kernel) (by decide +kernel)) (nw_in 439 (by decide +kernel) (by decide +kernel)) (li_2 63 (by decide +kernel) (by decide +kernel)) (li_1 13 (by decide +kernel) (by decide +kernel)) rfl (by decide +kernel) rfl rfl ⟨Nat.le_of_ble_eq_true rfl, Nat.le_of_ble_eq_true rfl⟩ (Nat.le_of_ble_eq_true rfl) ⟨show _ ≤ (mc : Nat) by omega, show _ ≤ (ms : Nat) by omega⟩ hlo dX12_init_109 (fun H locs hH hlo => ?_)
  obtain ⟨E26, e26, hH⟩ : ∃ z, z = E_RX4 Z B (1111) (1110) E25  ∧ CHp (zD Z) B H0 (1112) z H := ⟨_, rfl, hH⟩
  have h_j : E26 (0) = .inr (0, [.ref (B + (1)), .ref (B + (91)), .ref (B + (181)), .ref (B + (188)), .ref (B + (195)), .ref (B + (197)), .ref (B + (198)), .ref (B + (206)), .null, vi 0]) := by rw [e26]; exact (E_RX4_old (by omega) (by omega)).trans h_j
  refine ch_putG (k := 8) (j := 0) (ty0 := tyX12) (fin := true) b hH (by omega) h_j rfl in_0 tyX12_ok nmX12 (by decide) rfl (Nat.le_of_ble_eq_true rfl) rfl rfl hnm rfl hlo hzB (li_2 108 (by decide +kernel) (by decide +kernel)) dX12_init_112 (fun H locs hH hlo => ?_)
  obtain ⟨E27, e27, hH⟩ : ∃ z, z = uE E26 (0) (.inr (0, [.ref (B + (1)), .ref (B + (91)), .ref (B + (181)), .ref (B + (188)), .ref (B + (195)), .ref (B + (197)), .ref (B + (198)), .ref (B + (206)), .ref (B + (1110)), vi 0])) ∧ CHp (zD Z) B H0 (1112) z H := ⟨_, rfl, hH⟩
  have h_j : E27 (0) = .inr (0, [.ref (B + (1)), .ref (B + (91)), .ref (B + (181)), .ref (B + (188)), .ref (B + (195)), .ref (B + (197)), .ref (B + (198)), .ref (B + (206)), .ref (B + (1110)), vi 0]) := by rw [e27]; exact uE_self _ _ _
  refine lv_aload_n b.1 b.2.1 dX12_init_115 rfl (lv_at hl 0 rfl) ?_
  refine lv_iconst (v := Int32.ofInt (-1)) b.1 b.2.1 dX12_init_116 rfl ?_
  refine ch_putG (k := 9) (j := 0) (ty0 := tyX12) (fin := false) b hH (by omega) h_j rfl in_0 tyX12_ok nmX12 (by decide) rfl (Nat.le_of_ble_eq_true rfl) rfl rfl hnm rfl hlo hzB (li_2 109 (by decide +kernel) (by decide +kernel)) dX12_init_117 (fun H locs hH hlo => ?_)
  obtain ⟨E28, e28, hH⟩ : ∃ z, z = uE E27 (0) (.inr (0, [.ref (B + (1)), .ref (B + (91)), .ref (B + (181)), .ref (B + (188)), .ref (B + (195)), .ref (B + (197)), .ref (B + (198)), .ref (B + (206)), .ref (B + (1110)), vi (-1)])) ∧ CHp (zD Z) B H0 (1112) z H := ⟨_, rfl, hH⟩
  have h_j : E28 (0) = .inr (0, [.ref (B + (1)), .ref (B + (91)), .ref (B + (181)), .ref (B + (188)), .ref (B + (195)), .ref (B + (197)), .ref (B + (198)), .ref (B + (206)), .ref (B + (1110)), vi (-1)]) := by rw [e28]; exact uE_self _ _ _
  refine W.widen (k := 1111) (n := 21377) (by omega) (by omega) ?_
  refine kk H locs ?_ hlo
  subst e1 e2 e3 e4 e5 e6 e7 e8 e9 e10 e11 e12 e13 e14 e15 e16 e17 e18 e19 e20 e21 e22 e23 e24 e25 e26 e27 e28
  exact hH
def E_RX13 (Z : ZT) (B : Nat) (E : Nat → va_E) : Nat → va_E := uE (uE (uE (uE (uE (uE (uE (uE (uE (uE (uE (uE (uE (uE (uE (uE (uE (uE (uE (uE (uE (uE (uE (uE (uE (uE (uE (uE (uE (uE (uE (uE (uE (uE (uE (uE (uE (uE (uE (uE (uE (uE (uE (uE (uE (uE (uE (uE (uE E (1) (arI (zC Z 0) 16860 (fun _ => 0))) (0) (.inr (11, [.ref (B + (1)), .null, .null, .null, .null, .null, vi 0, vi 0, .null, .null, vi 0, .null, .null, .null, .null, .null, .null, .null, vi 0, .null, vi 0, vi 0, vi 0, vi 0, vi 0, vi 0, vi 0, vi 0, vi 0, vi 0, vi 0, vi 0, .null, .null, .null, .null, .null, .null, vi 0, vi 0, vi 0, .null, .null, vi 0]))) (2) (arI (zC Z 0) 16860 (fun _ => 0))) (0) (.inr (11, [.ref (B + (1)), .ref (B + (2)), .null, .null, .null, .null, vi 0, vi 0, .null, .null, vi 0, .null, .null, .null, .null, .null, .null, .null, vi 0, .null, vi 0, vi 0, vi 0, vi 0, vi 0, vi 0, vi 0, vi 0, vi 0, vi 0, vi 0, vi 0, .null, .null, .null, .null, .null, .null, vi 0, vi 0, vi 0, .null, .null, vi 0]))) (3) (arI (zC Z 0) 16860 (fun _ => 0))) (0) (.inr (11, [.ref (B + (1)), .ref (B + (2)), .ref (B + (3)), .null, .null, .null, vi 0, vi 0, .null, .null, vi 0, .null, .null, .null, .null, .null, .null, .null, vi 0, .null, vi 0, vi 0, vi 0, vi 0, vi 0, vi 0, vi 0, vi 0, vi 0, vi 0, vi 0, vi 0, .null, .null, .null, .null, .null, .null, vi 0, vi 0, vi 0, .null, .null, vi 0]))) (4) (arI (zC Z 0) 134880 (fun _ => 0))) (0) (.inr (11, [.ref (B + (1)), .ref (B + (2)), .ref (B + (3)), .ref (B + (4)), .null, .null, vi 0, vi 0, .null, .null, vi 0, .null, .null, .null, .null, .null, .null, .null, vi 0, .null, vi 0, vi 0, vi 0, vi 0, vi 0, vi 0, vi 0, vi 0, vi 0, vi 0, vi 0, vi 0, .null, .null, .null, .null, .null, .null, vi 0, vi 0, vi 0, .null, .null, vi 0]))) (5) (arI (zC Z 0) 33720 (fun _ => 0))) (0) (.inr (11, [.ref (B + (1)), .ref (B + (2)), .ref (B + (3)), .ref (B + (4)), .ref (B + (5)), .null, vi 0, vi 0, .null, .null, vi 0, .null, .null, .null, .null, .null, .null, .null, vi 0, .null, vi 0, vi 0, vi 0, vi 0, vi 0, vi 0, vi 0, vi 0, vi 0, vi 0, vi 0, vi 0, .null, .null, .null, .null, .null, .null, vi 0, vi 0, vi 0, .null, .null, vi 0]))) (6) (arI (zC Z 1) 2 (fun _ => 0))) (0) (.inr (11, [.ref (B + (1)), .ref (B + (2)), .ref (B + (3)), .ref (B + (4)), .ref (B + (5)), .ref (B + (6)), vi 0, vi 0, .null, .null, vi 0, .null, .null, .null, .null, .null, .null, .null, vi 0, .null, vi 0, vi 0, vi 0, vi 0, vi 0, vi 0, vi 0, vi 0, vi 0, vi 0, vi 0, vi 0, .null, .null, .null, .null, .null, .null, vi 0, vi 0, vi 0, .null, .null, vi 0]))) (7) (arI (zC Z 0) 66 (fun _ => 0))) (0) (.inr (11, [.ref (B + (1)), .ref (B + (2)), .ref (B + (3)), .ref (B + (4)), .ref (B + (5)), .ref (B + (6)), vi 0, vi 0, .ref (B + (7)), .null, vi 0, .null, .null, .null, .null, .null, .null, .null, vi 0, .null, vi 0, vi 0, vi 0, vi 0, vi 0, vi 0, vi 0, vi 0, vi 0, vi 0, vi 0, vi 0, .null, .null, .null, .null, .null, .null, vi 0, vi 0, vi 0, .null, .null, vi 0]))) (8) (arI (zC Z 0) 66 (fun _ => 0))) (0) (.inr (11, [.ref (B + (1)), .ref (B + (2)), .ref (B + (3)), .ref (B + (4)), .ref (B + (5)), .ref (B + (6)), vi 0, vi 0, .ref (B + (7)), .ref (B + (8)), vi 0, .null, .null, .null, .null, .null, .null, .null, vi 0, .null, vi 0, vi 0, vi 0, vi 0, vi 0, vi 0, vi 0, vi 0, vi 0, vi 0, vi 0, vi 0, .null, .null, .null, .null, .null, .null, vi 0, vi 0, vi 0, .null, .null, vi 0]))) (9) (arI (zC Z 0) 401 (fun _ => 0))) (0) (.inr (11, [.ref (B + (1)), .ref (B + (2)), .ref (B + (3)), .ref (B + (4)), .ref (B + (5)), .ref (B + (6)), vi 0, vi 0, .ref (B + (7)), .ref (B + (8)), vi 0, .ref (B + (9)), .null, .null, .null, .null, .null, .null, vi 0, .null, vi 0, vi 0, vi 0, vi 0, vi 0, vi 0, vi 0, vi 0, vi 0, vi 0, vi 0, vi 0, .null, .null, .null, .null, .null, .null, vi 0, vi 0, vi 0, .null, .null, vi 0]))) (10) (arI (zC Z 0) 401 (fun _ => 0))) (0) (.inr (11, [.ref (B + (1)), .ref (B + (2)), .ref (B + (3)), .ref (B + (4)), .ref (B + (5)), .ref (B + (6)), vi 0, vi 0, .ref (B + (7)), .ref (B + (8)), vi 0, .ref (B + (9)), .ref (B + (10)), .null, .null, .null, .null, .null, vi 0, .null, vi 0, vi 0, vi 0, vi 0, vi 0, vi 0, vi 0, vi 0, vi 0, vi 0, vi 0, vi 0, .null, .null, .null, .null, .null, .null, vi 0, vi 0, vi 0, .null, .null, vi 0]))) (11) (arI (zC Z 0) 42 (fun _ => 0))) (0) (.inr (11, [.ref (B + (1)), .ref (B + (2)), .ref (B + (3)), .ref (B + (4)), .ref (B + (5)), .ref (B + (6)), vi 0, vi 0, .ref (B + (7)), .ref (B + (8)), vi 0, .ref (B + (9)), .ref (B + (10)), .ref (B + (11)), .null, .null, .null, .null, vi 0, .null, vi 0, vi 0, vi 0, vi 0, vi 0, vi 0, vi 0, vi 0, vi 0, vi 0, vi 0, vi 0, .null, .null, .null, .null, .null, .null, vi 0, vi 0, vi 0, .null, .null, vi 0]))) (12) (arI (zC Z 0) 42 (fun _ => 0))) (0) (.inr (11, [.ref (B + (1)), .ref (B + (2)), .ref (B + (3)), .ref (B + (4)), .ref (B + (5)), .ref (B + (6)), vi 0, vi 0, .ref (B + (7)), .ref (B + (8)), vi 0, .ref (B + (9)), .ref (B + (10)), .ref (B + (11)), .ref (B + (12)), .null, .null, .null, vi 0, .null, vi 0, vi 0, vi 0, vi 0, vi 0, vi 0, vi 0, vi 0, vi 0, vi 0, vi 0, vi 0, .null, .null, .null, .null, .null, .null, vi 0, vi 0, vi 0, .null, .null, vi 0]))) (13) (arI (zC Z 0) 4356 (fun _ => 0))) (0) (.inr (11, [.ref (B + (1)), .ref (B + (2)), .ref (B + (3)), .ref (B + (4)), .ref (B + (5)), .ref (B + (6)), vi 0, vi 0, .ref (B + (7)), .ref (B + (8)), vi 0, .ref (B + (9)), .ref (B + (10)), .ref (B + (11)), .ref (B + (12)), .ref (B + (13)), .null, .null, vi 0, .null, vi 0, vi 0, vi 0, vi 0, vi 0, vi 0, vi 0, vi 0, vi 0, vi 0, vi 0, vi 0, .null, .null, .null, .null, .null, .null, vi 0, vi 0, vi 0, .null, .null, vi 0]))) (14) (arI (zC Z 0) 4356 (fun _ => 0))) (0) (.inr (11, [.ref (B + (1)), .ref (B + (2)), .ref (B + (3)), .ref (B + (4)), .ref (B + (5)), .ref (B + (6)), vi 0, vi 0, .ref (B + (7)), .ref (B + (8)), vi 0, .ref (B + (9)), .ref (B + (10)), .ref (B + (11)), .ref (B + (12)), .ref (B + (13)), .ref (B + (14)), .null, vi 0, .null, vi 0, vi 0, vi 0, vi 0, vi 0, vi 0, vi 0, vi 0, vi 0, vi 0, vi 0, vi 0, .null, .null, .null, .null, .null, .null, vi 0, vi 0, vi 0, .null, .null, vi 0]))) (15) (arI (zC Z 0) 4356 (fun _ => 0))) (0) (.inr (11, [.ref (B + (1)), .ref (B + (2)), .ref (B + (3)), .ref (B + (4)), .ref (B + (5)), .ref (B + (6)), vi 0, vi 0, .ref (B + (7)), .ref (B + (8)), vi 0, .ref (B + (9)), .ref (B + (10)), .ref (B + (11)), .ref (B + (12)), .ref (B + (13)), .ref (B + (14)), .ref (B + (15)), vi 0, .null, vi 0, vi 0, vi 0, vi 0, vi 0, vi 0, vi 0, vi 0, vi 0, vi 0, vi 0, vi 0, .null, .null, .null, .null, .null, .null, vi 0, vi 0, vi 0, .null, .null, vi 0]))) (16) (arI (zC Z 0) 600 (fun _ => 0))) (0) (.inr (11, [.ref (B + (1)), .ref (B + (2)), .ref (B + (3)), .ref (B + (4)), .ref (B + (5)), .ref (B + (6)), vi 0, vi 0, .ref (B + (7)), .ref (B + (8)), vi 0, .ref (B + (9)), .ref (B + (10)), .ref (B + (11)), .ref (B + (12)), .ref (B + (13)), .ref (B + (14)), .ref (B + (15)), vi 0, .ref (B + (16)), vi 0, vi 0, vi 0, vi 0, vi 0, vi 0, vi 0, vi 0, vi 0, vi 0, vi 0, vi 0, .null, .null, .null, .null, .null, .null, vi 0, vi 0, vi 0, .null, .null, vi 0]))) (0) (.inr (11, [.ref (B + (1)), .ref (B + (2)), .ref (B + (3)), .ref (B + (4)), .ref (B + (5)), .ref (B + (6)), vi 0, vi 0, .ref (B + (7)), .ref (B + (8)), vi 0, .ref (B + (9)), .ref (B + (10)), .ref (B + (11)), .ref (B + (12)), .ref (B + (13)), .ref (B + (14)), .ref (B + (15)), vi 0, .ref (B + (16)), vi 0, vi 0, vi 0, vi 0, vi 0, vi 0, vi 0, vi (-1), vi 0, vi 0, vi 0, vi 0, .null, .null, .null, .null, .null, .null, vi 0, vi 0, vi 0, .null, .null, vi 0]))) (17) (arI (zC Z 0) 64 (fun _ => 0))) (0) (.inr (11, [.ref (B + (1)), .ref (B + (2)), .ref (B + (3)), .ref (B + (4)), .ref (B + (5)), .ref (B + (6)), vi 0, vi 0, .ref (B + (7)), .ref (B + (8)), vi 0, .ref (B + (9)), .ref (B + (10)), .ref (B + (11)), .ref (B + (12)), .ref (B + (13)), .ref (B + (14)), .ref (B + (15)), vi 0, .ref (B + (16)), vi 0, vi 0, vi 0, vi 0, vi 0, vi 0, vi 0, vi (-1), vi 0, vi 0, vi 0, vi 0, .ref (B + (17)), .null, .null, .null, .null, .null, vi 0, vi 0, vi 0, .null, .null, vi 0]))) (18) (arI (zC Z 0) 64 (fun _ => 0))) (0) (.inr (11, [.ref (B + (1)), .ref (B + (2)), .ref (B + (3)), .ref (B + (4)), .ref (B + (5)), .ref (B + (6)), vi 0, vi 0, .ref (B + (7)), .ref (B + (8)), vi 0, .ref (B + (9)), .ref (B + (10)), .ref (B + (11)), .ref (B + (12)), .ref (B + (13)), .ref (B + (14)), .ref (B + (15)), vi 0, .ref (B + (16)), vi 0, vi 0, vi 0, vi 0, vi 0, vi 0, vi 0, vi (-1), vi 0, vi 0, vi 0, vi 0, .ref (B + (17)), .ref (B + (18)), .null, .null, .null, .null, vi 0, vi 0, vi 0, .null, .null, vi 0]))) (19) (arI (zC Z 0) 64 (fun _ => 0))) (0) (.inr (11, [.ref (B + (1)), .ref (B + (2)), .ref (B + (3)), .ref (B + (4)), .ref (B + (5)), .ref (B + (6)), vi 0, vi 0, .ref (B + (7)), .ref (B + (8)), vi 0, .ref (B + (9)), .ref (B + (10)), .ref (B + (11)), .ref (B + (12)), .ref (B + (13)), .ref (B + (14)), .ref (B + (15)), vi 0, .ref (B + (16)), vi 0, vi 0, vi 0, vi 0, vi 0, vi 0, vi 0, vi (-1), vi 0, vi 0, vi 0, vi 0, .ref (B + (17)), .ref (B + (18)), .ref (B + (19)), .null, .null, .null, vi 0, vi 0, vi 0, .null, .null, vi 0]))) (20) (arI (zC Z 0) 64 (fun _ => 0))) (0) (.inr (11, [.ref (B + (1)), .ref (B + (2)), .ref (B + (3)), .ref (B + (4)), .ref (B + (5)), .ref (B + (6)), vi 0, vi 0, .ref (B + (7)), .ref (B + (8)), vi 0, .ref (B + (9)), .ref (B + (10)), .ref (B + (11)), .ref (B + (12)), .ref (B + (13)), .ref (B + (14)), .ref (B + (15)), vi 0, .ref (B + (16)), vi 0, vi 0, vi 0, vi 0, vi 0, vi 0, vi 0, vi (-1), vi 0, vi 0, vi 0, vi 0, .ref (B + (17)), .ref (B + (18)), .ref (B + (19)), .ref (B + (20)), .null, .null, vi 0, vi 0, vi 0, .null, .null, vi 0]))) (21) (arI (zC Z 0) 2 (fun _ => 0))) (0) (.inr (11, [.ref (B + (1)), .ref (B + (2)), .ref (B + (3)), .ref (B + (4)), .ref (B + (5)), .ref (B + (6)), vi 0, vi 0, .ref (B + (7)), .ref (B + (8)), vi 0, .ref (B + (9)), .ref (B + (10)), .ref (B + (11)), .ref (B + (12)), .ref (B + (13)), .ref (B + (14)), .ref (B + (15)), vi 0, .ref (B + (16)), vi 0, vi 0, vi 0, vi 0, vi 0, vi 0, vi 0, vi (-1), vi 0, vi 0, vi 0, vi 0, .ref (B + (17)), .ref (B + (18)), .ref (B + (19)), .ref (B + (20)), .ref (B + (21)), .null, vi 0, vi 0, vi 0, .null, .null, vi 0]))) (22) (arI (zC Z 0) 2 (fun _ => 0))) (0) (.inr (11, [.ref (B + (1)), .ref (B + (2)), .ref (B + (3)), .ref (B + (4)), .ref (B + (5)), .ref (B + (6)), vi 0, vi 0, .ref (B + (7)), .ref (B + (8)), vi 0, .ref (B + (9)), .ref (B + (10)), .ref (B + (11)), .ref (B + (12)), .ref (B + (13)), .ref (B + (14)), .ref (B + (15)), vi 0, .ref (B + (16)), vi 0, vi 0, vi 0, vi 0, vi 0, vi 0, vi 0, vi (-1), vi 0, vi 0, vi 0, vi 0, .ref (B + (17)), .ref (B + (18)), .ref (B + (19)), .ref (B + (20)), .ref (B + (21)), .ref (B + (22)), vi 0, vi 0, vi 0, .null, .null, vi 0]))) (23) (arI (zC Z 0) 66 (fun _ => 0))) (0) (.inr (11, [.ref (B + (1)), .ref (B + (2)), .ref (B + (3)), .ref (B + (4)), .ref (B + (5)), .ref (B + (6)), vi 0, vi 0, .ref (B + (7)), .ref (B + (8)), vi 0, .ref (B + (9)), .ref (B + (10)), .ref (B + (11)), .ref (B + (12)), .ref (B + (13)), .ref (B + (14)), .ref (B + (15)), vi 0, .ref (B + (16)), vi 0, vi 0, vi 0, vi 0, vi 0, vi 0, vi 0, vi (-1), vi 0, vi 0, vi 0, vi 0, .ref (B + (17)), .ref (B + (18)), .ref (B + (19)), .ref (B + (20)), .ref (B + (21)), .ref (B + (22)), vi 0, vi 0, vi 0, .ref (B + (23)), .null, vi 0]))) (24) (arI (zC Z 0) 70000 (fun _ => 0))) (0) (.inr (11, [.ref (B + (1)), .ref (B + (2)), .ref (B + (3)), .ref (B + (4)), .ref (B + (5)), .ref (B + (6)), vi 0, vi 0, .ref (B + (7)), .ref (B + (8)), vi 0, .ref (B + (9)), .ref (B + (10)), .ref (B + (11)), .ref (B + (12)), .ref (B + (13)), .ref (B + (14)), .ref (B + (15)), vi 0, .ref (B + (16)), vi 0, vi 0, vi 0, vi 0, vi 0, vi 0, vi 0, vi (-1), vi 0, vi 0, vi 0, vi 0, .ref (B + (17)), .ref (B + (18)), .ref (B + (19)), .ref (B + (20)), .ref (B + (21)), .ref (B + (22)), vi 0, vi 0, vi 0, .ref (B + (23)), .ref (B + (24)), vi 0]))
set_option maxRecDepth 20000 in
set_option maxHeartbeats 4000000 in
theorem W_RX13 {p : Program} {l : Launch} {e : Env} {s : State} {m : MethodId} {args : Array Value} {below : List Frame} {meth : Method} {c : Code} {ls : Array Slot} {Q : State → Prop} {H : Heap} {mc ms : Nat} (Z : ZT) (B : Nat) (H0 : Heap) (E : Nat → va_E) (hfl : l.stackTraces = false) (hzB : zB Z ≤ B) (hmc : 24 ≤ mc) (hms : 304194 ≤ ms) (b : BB p s m args c RX13 cX13_init 1 Z) (hH : CHp (zD Z) B H0 1 E H) (h_j : E 0 = .inr (11, [.null, .null, .null, .null, .null, .null, vi 0, vi 0, .null, .null, vi 0, .null, .null, .null, .null, .null, .null, .null, vi 0, .null, vi 0, vi 0, vi 0, vi 0, vi 0, vi 0, vi 0, vi 0, vi 0, vi 0, vi 0, vi 0, .null, .null, .null, .null, .null, .null, vi 0, vi 0, vi 0, .null, .null, vi 0])) (hnm : meth.name = "<init>") (hl : lv_has ls 1 [(0, .ref (B + 0))])
    (kk : ∀ (H1 : Heap) (locs1 : List Loc), CHp (zD Z) B H0 25 (E_RX13 Z B E) H1 → (∀ q ∈ locs1, zN Z q.base) → W p l e (rmH 6 mc ms) s m args below meth c H1 locs1 24 304194 Q (F0 m 207 ls [])) : W p l e (rmH 6 mc ms) s m args below meth c H [] 0 0 Q (F0 m 0 ls []) := by
  have hlo : ∀ q ∈ ([] : List Loc), zN Z q.base := fun q hq => by cases hq
  refine lv_aload_n b.1 b.2.1 dX13_init_0 rfl (lv_at hl 0 rfl) ?_
  refine ch_obj b hl.1 (li_7 11 (by decide +kernel) (by decide +kernel)) (Nat.le_of_ble_eq_true rfl) (Nat.le_of_ble_eq_true rfl) dX13_init_1 ?_
  refine lv_aload_n b.1 b.2.1 dX13_init_4 rfl (lv_at hl 0 rfl) ?_
  refine lv_sipush (v := Int32.ofInt 16860) b.1 b.2.1 dX13_init_5 (by decide) ?_
  refine ch_newa (atype := .int) (ty := .int) (cA := zC Z 0) (t0 := 0) (N' := 16860) b hH (li_1 57 (by decide +kernel) (by decide +kernel)) rfl rfl (fun _ h => h) rfl (by decide) (Nat.le_of_ble_eq_true rfl) (show _ ≤ (mc : Nat) by omega) (show _ ≤ (ms : Nat) by omega) dX13_init_8 (fun H hH => ?_)
  obtain ⟨E1, e1, hH⟩ : ∃ z, z = uE E (1) (arI (zC Z 0) 16860 (fun _ => 0)) ∧ CHp (zD Z) B H0 (2) z H := ⟨_, rfl, hH⟩
  have h_j : E1 (0) = .inr (11, [.null, .null, .null, .null, .null, .null, vi 0, vi 0, .null, .null, vi 0, .null, .null, .null, .null, .null, .null, .null, vi 0, .null, vi 0, vi 0, vi 0, vi 0, vi 0, vi 0, vi 0, vi 0, vi 0, vi 0, vi 0, vi 0, .null, .null, .null, .null, .null, .null, vi 0, vi 0, vi 0, .null, .null, vi 0]) := by rw [e1]; exact (uE_ne (by omega)).trans h_j
  refine ch_putG (k := 0) (j := 0) (ty0 := tyX13) (fin := true) b hH (by omega) h_j rfl in_26 tyX13_ok nmX13 (by decide) rfl (Nat.le_of_ble_eq_true rfl) rfl rfl hnm rfl hlo hzB (li_7 54 (by decide +kernel) (by decide +kernel)) dX13_init_10 (fun H locs hH hlo => ?_)
  obtain ⟨E2, e2, hH⟩ : ∃ z, z = uE E1 (0) (.inr (11, [.ref (B + (1)), .null, .null, .null, .null, .null, vi 0, vi 0, .null, .null, vi 0, .null, .null, .null, .null, .null, .null, .null, vi 0, .null, vi 0, vi 0, vi 0, vi 0, vi 0, vi 0, vi 0, vi 0, vi 0, vi 0, vi 0, vi 0, .null, .null, .null, .null, .null, .null, vi 0, vi 0, vi 0, .null, .null, vi 0])) ∧ CHp (zD Z) B H0 (2) z H := ⟨_, rfl, hH⟩
  have h_j : E2 (0) = .inr (11, [.ref (B + (1)), .null, .null, .null, .null, .null, vi 0, vi 0, .null, .null, vi 0, .null, .null, .null, .null, .null, .null, .null, vi 0, .null, vi 0, vi 0, vi 0, vi 0, vi 0, vi 0, vi 0, vi 0, vi 0, vi 0, vi 0, vi 0, .null, .null, .null, .null, .null, .null, vi 0, vi 0, vi 0, .null, .null, vi 0]) := by rw [e2]; exact uE_self _ _ _
  refine lv_aload_n b.1 b.2.1 dX13_init_13 rfl (lv_at hl 0 rfl) ?_
  refine lv_sipush (v := Int32.ofInt 16860) b.1 b.2.1 dX13_init_14 (by decide) ?_
  refine ch_newa (atype := .int) (ty := .int) (cA := zC Z 0) (t0 := 0) (N' := 16860) b hH (li_1 57 (by decide +kernel) (by decide +kernel)) rfl rfl (fun _ h => h) rfl (by decide) (Nat.le_of_ble_eq_true rfl) (show _ ≤ (mc : Nat) by omega) (show _ ≤ (ms : Nat) by omega) dX13_init_17 (fun H hH => ?_)
  obtain ⟨E3, e3, hH⟩ : ∃ z, z = uE E2 (2) (arI (zC Z 0) 16860 (fun _ => 0)) ∧ CHp (zD Z) B H0 (3) z H := ⟨_, rfl, hH⟩
  have h_j : E3 (0) = .inr (11, [.ref (B + (1)), .null, .null, .null, .null, .null, vi 0, vi 0, .null, .null, vi 0, .null, .null, .null, .null, .null, .null, .null, vi 0, .null, vi 0, vi 0, vi 0, vi 0, vi 0, vi 0, vi 0, vi 0, vi 0, vi 0, vi 0, vi 0, .null, .null, .null, .null, .null, .null, vi 0, vi 0, vi 0, .null, .null, vi 0]) := by rw [e3]; exact (uE_ne (by omega)).trans h_j
  refine ch_putG (k := 1) (j := 0) (ty0 := tyX13) (fin := true) b hH (by omega) h_j rfl in_26 tyX13_ok nmX13 (by decide) rfl (Nat.le_of_ble_eq_true rfl) rfl rfl hnm rfl hlo hzB (li_7 55 (by decide +kernel) (by decide +kernel)) dX13_init_19 (fun H locs hH hlo => ?_)
  obtain ⟨E4, e4, hH⟩ : ∃ z, z = uE E3 (0) (.inr (11, [.ref (B + (1)), .ref (B + (2)), .null, .null, .null, .null, vi 0, vi 0, .null, .null, vi 0, .null, .null, .null, .null, .null, .null, .null, vi 0, .null, vi 0, vi 0, vi 0, vi 0, vi 0, vi 0, vi 0, vi 0, vi 0, vi 0, vi 0, vi 0, .null, .null, .null, .null, .null, .null, vi 0, vi 0, vi 0, .null, .null, vi 0])) ∧ CHp (zD Z) B H0 (3) z H := ⟨_, rfl, hH⟩
  have h_j : E4 (0) = .inr (11, [.ref (B + (1)), .ref (B + (2)), .null, .null, .null, .null, vi 0, vi 0, .null, .null, vi 0, .null, .null, .null, .null, .null, .null, .null, vi 0, .null, vi 0, vi 0, vi 0, vi 0, vi 0, vi 0, vi 0, vi 0, vi 0, vi 0, vi 0, vi 0, .null, .null, .null, .null, .null, .null, vi 0, vi 0, vi 0, .null, .null, vi 0]) := by rw [e4]; exact uE_self _ _ _
  refine lv_aload_n b.1 b.2.1 dX13_init_22 rfl (lv_at hl 0 rfl) ?_
  refine lv_sipush (v := Int32.ofInt 16860) b.1 b.2.1 dX13_init_23 (by decide) ?_
  refine ch_newa (atype := .int) (ty := .int) (cA := zC Z 0) (t0 := 0) (N' := 16860) b hH (li_1 57 (by decide +kernel) (by decide +kernel)) rfl rfl (fun _ h => h) rfl (by decide) (Nat.le_of_ble_eq_true rfl) (show _ ≤ (mc : Nat) by omega) (show _ ≤ (ms : Nat) by omega) dX13_init_26 (fun H hH => ?_)
  obtain ⟨E5, e5, hH⟩ : ∃ z, z = uE E4 (3) (arI (zC Z 0) 16860 (fun _ => 0)) ∧ CHp (zD Z) B H0 (4) z H := ⟨_, rfl, hH⟩
  have h_j : E5 (0) = .inr (11, [.ref (B + (1)), .ref (B + (2)), .null, .null, .null, .null, vi 0, vi 0, .null, .null, vi 0, .null, .null, .null, .null, .null, .null, .null, vi 0, .null, vi 0, vi 0, vi 0, vi 0, vi 0, vi 0, vi 0, vi 0, vi 0, vi 0, vi 0, vi 0, .null, .null, .null, .null, .null, .null, vi 0, vi 0, vi 0, .null, .null, vi 0]) := by rw [e5]; exact (uE_ne (by omega)).trans h_j
  refine ch_putG (k := 2) (j := 0) (ty0 := tyX13) (fin := true) b hH (by omega) h_j rfl in_26 tyX13_ok nmX13 (by decide) rfl (Nat.le_of_ble_eq_true rfl) rfl rfl hnm rfl hlo hzB (li_7 56 (by decide +kernel) (by decide +kernel)) dX13_init_28 (fun H locs hH hlo => ?_)
  obtain ⟨E6, e6, hH⟩ : ∃ z, z = uE E5 (0) (.inr (11, [.ref (B + (1)), .ref (B + (2)), .ref (B + (3)), .null, .null, .null, vi 0, vi 0, .null, .null, vi 0, .null, .null, .null, .null, .null, .null, .null, vi 0, .null, vi 0, vi 0, vi 0, vi 0, vi 0, vi 0, vi 0, vi 0, vi 0, vi 0, vi 0, vi 0, .null, .null, .null, .null, .null, .null, vi 0, vi 0, vi 0, .null, .null, vi 0])) ∧ CHp (zD Z) B H0 (4) z H := ⟨_, rfl, hH⟩
  have h_j : E6 (0) = .inr (11, [.ref (B + (1)), .ref (B + (2)), .ref (B + (3)), .null, .null, .null, vi 0, vi 0, .null, .null, vi 0, .null, .null, .null, .null, .null, .null, .null, vi 0, .null, vi 0, vi 0, vi 0, vi 0, vi 0, vi 0, vi 0, vi 0, vi 0, vi 0, vi 0, vi 0, .null, .null, .null, .null, .null, .null, vi 0, vi 0, vi 0, .null, .null, vi 0]) := by rw [e6]; exact uE_self _ _ _
  refine lv_aload_n b.1 b.2.1 dX13_init_31 rfl (lv_at hl 0 rfl) ?_
  refine lv_ldc (v := Int32.ofInt 134880) b.1 b.2.1 b.2.2.1 (b.2.2.2.1 _ (li_7 12 (by decide +kernel) (by decide +kernel))) dX13_init_32 ?_
  refine ch_newa (atype := .int) (ty := .int) (cA := zC Z 0) (t0 := 0) (N' := 134880) b hH (li_1 57 (by decide +kernel) (by decide +kernel)) rfl rfl (fun _ h => h) rfl (by decide) (Nat.le_of_ble_eq_true rfl) (show _ ≤ (mc : Nat) by omega) (show _ ≤ (ms : Nat) by omega) dX13_init_34 (fun H hH => ?_)
  obtain ⟨E7, e7, hH⟩ : ∃ z, z = uE E6 (4) (arI (zC Z 0) 134880 (fun _ => 0)) ∧ CHp (zD Z) B H0 (5) z H := ⟨_, rfl, hH⟩
  have h_j : E7 (0) = .inr (11, [.ref (B + (1)), .ref (B + (2)), .ref (B + (3)), .null, .null, .null, vi 0, vi 0, .null, .null, vi 0, .null, .null, .null, .null, .null, .null, .null, vi 0, .null, vi 0, vi 0, vi 0, vi 0, vi 0, vi 0, vi 0, vi 0, vi 0, vi 0, vi 0, vi 0, .null, .null, .null, .null, .null, .null, vi 0, vi 0, vi 0, .null, .null, vi 0]) := by rw [e7]; exact (uE_ne (by omega)).trans h_j
  refine ch_putG (k := 3) (j := 0) (ty0 := tyX13) (fin := true) b hH (by omega) h_j rfl in_26 tyX13_ok nmX13 (by decide) rfl (Nat.le_of_ble_eq_true rfl) rfl rfl hnm rfl hlo hzB (li_7 57 (by decide +kernel) (by decide +kernel)) dX13_init_36 (fun H locs hH hlo => ?_)
  obtain ⟨E8, e8, hH⟩ : ∃ z, z = uE E7 (0) (.inr (11, [.ref (B + (1)), .ref (B + (2)), .ref (B + (3)), .ref (B + (4)), .null, .null, vi 0, vi 0, .null, .null, vi 0, .null, .null, .null, .null, .null, .null, .null, vi 0, .null, vi 0, vi 0, vi 0, vi 0, vi 0, vi 0, vi 0, vi 0, vi 0, vi 0, vi 0, vi 0, .null, .null, .null, .null, .null, .null, vi 0, vi 0, vi 0, .null, .null, vi 0])) ∧ CHp (zD Z) B H0 (5) z H := ⟨_, rfl, hH⟩
  have h_j : E8 (0) = .inr (11, [.ref (B + (1)), .ref (B + (2)), .ref (B + (3)), .ref (B + (4)), .null, .null, vi 0, vi 0, .null, .null, vi 0, .null, .null, .null, .null, .null, .null, .null, vi 0, .null, vi 0, vi 0, vi 0, vi 0, vi 0, vi 0, vi 0, vi 0, vi 0, vi 0, vi 0, vi 0, .null, .null, .null, .null, .null, .null, vi 0, vi 0, vi 0, .null, .null, vi 0]) := by rw [e8]; exact uE_self _ _ _
  refine lv_aload_n b.1 b.2.1 dX13_init_39 rfl (lv_at hl 0 rfl) ?_
  refine lv_ldc (v := Int32.ofInt 33720) b.1 b.2.1 b.2.2.1 (b.2.2.2.1 _ (li_7 13 (by decide +kernel) (by decide +kernel))) dX13_init_40 ?_
  refine ch_newa (atype := .int) (ty := .int) (cA := zC Z 0) (t0 := 0) (N' := 33720) b hH (li_1 57 (by decide +kernel) (by decide +kernel)) rfl rfl (fun _ h => h) rfl (by decide) (Nat.le_of_ble_eq_true rfl) (show _ ≤ (mc : Nat) by omega) (show _ ≤ (ms : Nat) by omega) dX13_init_42 (fun H hH => ?_)
  obtain ⟨E9, e9, hH⟩ : ∃ z, z = uE E8 (5) (arI (zC Z 0) 33720 (fun _ => 0)) ∧ CHp (zD Z) B H0 (6) z H := ⟨_, rfl, hH⟩
  have h_j : E9 (0) = .inr (11, [.ref (B + (1)), .ref (B + (2)), .ref (B + (3)), .ref (B + (4)), .null, .null, vi 0, vi 0, .null, .null, vi 0, .null, .null, .null, .null, .null, .null, .null, vi 0, .null, vi 0, vi 0, vi 0, vi 0, vi 0, vi 0, vi 0, vi 0, vi 0, vi 0, vi 0, vi 0, .null, .null, .null, .null, .null, .null, vi 0, vi 0, vi 0, .null, .null, vi 0]) := by rw [e9]; exact (uE_ne (by omega)).trans h_j
  refine ch_putG (k := 4) (j := 0) (ty0 := tyX13) (fin := true) b hH (by omega) h_j rfl in_26 tyX13_ok nmX13 (by decide) rfl (Nat.le_of_ble_eq_true rfl) rfl rfl hnm rfl hlo hzB (li_7 58 (by decide +kernel) (by decide +kernel)) dX13_init_44 (fun H locs hH hlo => ?_)
  obtain ⟨E10, e10, hH⟩ : ∃ z, z = uE E9 (0) (.inr (11, [.ref (B + (1)), .ref (B + (2)), .ref (B + (3)), .ref (B + (4)), .ref (B + (5)), .null, vi 0, vi 0, .null, .null, vi 0, .null, .null, .null, .null, .null, .null, .null, vi 0, .null, vi 0, vi 0, vi 0, vi 0, vi 0, vi 0, vi 0, vi 0, vi 0, vi 0, vi 0, vi 0, .null, .null, .null, .null, .null, .null, vi 0, vi 0, vi 0, .null, .null, vi 0])) ∧ CHp (zD Z) B H0 (6) z H := ⟨_, rfl, hH⟩
  have h_j : E10 (0) = .inr (11, [.ref (B + (1)), .ref (B + (2)), .ref (B + (3)), .ref (B + (4)), .ref (B + (5)), .null, vi 0, vi 0, .null, .null, vi 0, .null, .null, .null, .null, .null, .null, .null, vi 0, .null, vi 0, vi 0, vi 0, vi 0, vi 0, vi 0, vi 0, vi 0, vi 0, vi 0, vi 0, vi 0, .null, .null, .null, .null, .null, .null, vi 0, vi 0, vi 0, .null, .null, vi 0]) := by rw [e10]; exact uE_self _ _ _
  refine lv_aload_n b.1 b.2.1 dX13_init_47 rfl (lv_at hl 0 rfl) ?_
  refine lv_iconst (v := Int32.ofInt 2) b.1 b.2.1 dX13_init_48 rfl ?_
  refine ch_newa (atype := .boolean) (ty := .boolean) (cA := zC Z 1) (t0 := 1) (N' := 2) b hH (li_2 59 (by decide +kernel) (by decide +kernel)) rfl rfl (fun _ h => h) rfl (by decide) (Nat.le_of_ble_eq_true rfl) (show _ ≤ (mc : Nat) by omega) (show _ ≤ (ms : Nat) by omega) dX13_init_49 (fun H hH => ?_)
  obtain ⟨E11, e11, hH⟩ : ∃ z, z = uE E10 (6) (arI (zC Z 1) 2 (fun _ => 0)) ∧ CHp (zD Z) B H0 (7) z H := ⟨_, rfl, hH⟩
  have h_j : E11 (0) = .inr (11, [.ref (B + (1)), .ref (B + (2)), .ref (B + (3)), .ref (B + (4)), .ref (B + (5)), .null, vi 0, vi 0, .null, .null, vi 0, .null, .null, .null, .null, .null, .null, .null, vi 0, .null, vi 0, vi 0, vi 0, vi 0, vi 0, vi 0, vi 0, vi 0, vi 0, vi 0, vi 0, vi 0, .null, .null, .null, .null, .null, .null, vi 0, vi 0, vi 0, .null, .null, vi 0]) := by rw [e11]; exact (uE_ne (by omega)).trans h_j
  refine ch_putG (k := 5) (j := 0) (ty0 := tyX13) (fin := true) b hH (by omega) h_j rfl in_26 tyX13_ok nmX13 (by decide) rfl (Nat.le_of_ble_eq_true rfl) rfl rfl hnm rfl hlo hzB (li_7 59 (by decide +kernel) (by decide +kernel)) dX13_init_51 (fun H locs hH hlo => ?_)
  obtain ⟨E12, e12, hH⟩ : ∃ z, z = uE E11 (0) (.inr (11, [.ref (B + (1)), .ref (B + (2)), .ref (B + (3)), .ref (B + (4)), .ref (B + (5)), .ref (B + (6)), vi 0, vi 0, .null, .null, vi 0, .null, .null, .null, .null, .null, .null, .null, vi 0, .null, vi 0, vi 0, vi 0, vi 0, vi 0, vi 0, vi 0, vi 0, vi 0, vi 0, vi 0, vi 0, .null, .null, .null, .null, .null, .null, vi 0, vi 0, vi 0, .null, .null, vi 0])) ∧ CHp (zD Z) B H0 (7) z H := ⟨_, rfl, hH⟩
  have h_j : E12 (0) = .inr (11, [.ref (B + (1)), .ref (B + (2)), .ref (B + (3)), .ref (B + (4)), .ref (B + (5)), .ref (B + (6)), vi 0, vi 0, .null, .null, vi 0, .null, .null, .null, .null, .null, .null, .null, vi 0, .null, vi 0, vi 0, vi 0, vi 0, vi 0, vi 0, vi 0, vi 0, vi 0, vi 0, vi 0, vi 0, .null, .null, .null, .null, .null, .null, vi 0, vi 0, vi 0, .null, .null, vi 0]) := by rw [e12]; exact uE_self _ _ _
  refine lv_aload_n b.1 b.2.1 dX13_init_54 rfl (lv_at hl 0 rfl) ?_
  refine lv_bipush (v := Int32.ofInt 66) b.1 b.2.1 dX13_init_55 (by decide) ?_
  refine ch_newa (atype := .int) (ty := .int) (cA := zC Z 0) (t0 := 0) (N' := 66) b hH (li_1 57 (by decide +kernel) (by decide +kernel)) rfl rfl (fun _ h => h) rfl (by decide) (Nat.le_of_ble_eq_true rfl) (show _ ≤ (mc : Nat) by omega) (show _ ≤ (ms : Nat) by omega) dX13_init_57 (fun H hH => ?_)
  obtain ⟨E13, e13, hH⟩ : ∃ z, z = uE E12 (7) (arI (zC Z 0) 66 (fun _ => 0)) ∧ CHp (zD Z) B H0 (8) z H := ⟨_, rfl, hH⟩
  have h_j : E13 (0) = .inr (11, [.ref (B + (1)), .ref (B + (2)), .ref (B + (3)), .ref (B + (4)), .ref (B + (5)), .ref (B + (6)), vi 0, vi 0, .null, .null, vi 0, .null, .null, .null, .null, .null, .null, .null, vi 0, .null, vi 0, vi 0, vi 0, vi 0, vi 0, vi 0, vi 0, vi 0, vi 0, vi 0, vi 0, vi 0, .null, .null, .null, .null, .null, .null, vi 0, vi 0, vi 0, .null, .null, vi 0]) := by rw [e13]; exact (uE_ne (by omega)).trans h_j
  refine ch_putG (k := 8) (j := 0) (ty0 := tyX13) (fin := true) b hH (by omega) h_j rfl in_26 tyX13_ok nmX13 (by decide) rfl (Nat.le_of_ble_eq_true rfl) rfl rfl hnm rfl hlo hzB (li_7 62 (by decide +kernel) (by decide +kernel)) dX13_init_59 (fun H locs hH hlo => ?_)
  obtain ⟨E14, e14, hH⟩ : ∃ z, z = uE E13 (0) (.inr (11, [.ref (B + (1)), .ref (B + (2)), .ref (B + (3)), .ref (B + (4)), .ref (B + (5)), .ref (B + (6)), vi 0, vi 0, .ref (B + (7)), .null, vi 0, .null, .null, .null, .null, .null, .null, .null, vi 0, .null, vi 0, vi 0, vi 0, vi 0, vi 0, vi 0, vi 0, vi 0, vi 0, vi 0, vi 0, vi 0, .null, .null, .null, .null, .null, .null, vi 0, vi 0, vi 0, .null, .null, vi 0])) ∧ CHp (zD Z) B H0 (8) z H := ⟨_, rfl, hH⟩
  have h_j : E14 (0) = .inr (11, [.ref (B + (1)), .ref (B + (2)), .ref (B + (3)), .ref (B + (4)), .ref (B + (5)), .ref (B + (6)), vi 0, vi 0, .ref (B + (7)), .null, vi 0, .null, .null, .null, .null, .null, .null, .null, vi 0, .null, vi 0, vi 0, vi 0, vi 0, vi 0, vi 0, vi 0, vi 0, vi 0, vi 0, vi 0, vi 0, .null, .null, .null, .null, .null, .null, vi 0, vi 0, vi 0, .null, .null, vi 0]) := by rw [e14]; exact uE_self _ _ _
  refine lv_aload_n b.1 b.2.1 dX13_init_62 rfl (lv_at hl 0 rfl) ?_
  refine lv_bipush (v := Int32.ofInt 66) b.1 b.2.1 dX13_init_63 (by decide) ?_
  refine ch_newa (atype := .int) (ty := .int) (cA := zC Z 0) (t0 := 0) (N' := 66) b hH (li_1 57 (by decide +kernel) (by decide +kernel)) rfl rfl (fun _ h => h) rfl (by decide) (Nat.le_of_ble_eq_true rfl) (show _ ≤ (mc : Nat) by omega) (show _ ≤ (ms : Nat) by omega) dX13_init_65 (fun H hH => ?_)
  obtain ⟨E15, e15, hH⟩ : ∃ z, z = uE E14 (8) (arI (zC Z 0) 66 (fun _ => 0)) ∧ CHp (zD Z) B H0 (9) z H := ⟨_, rfl, hH⟩
  have h_j : E15 (0) = .inr (11, [.ref (B + (1)), .ref (B + (2)), .ref (B + (3)), .ref (B + (4)), .ref (B + (5)), .ref (B + (6)), vi 0, vi 0, .ref (B + (7)), .null, vi 0, .null, .null, .null, .null, .null, .null, .null, vi 0, .null, vi 0, vi 0, vi 0, vi 0, vi 0, vi 0, vi 0, vi 0, vi 0, vi 0, vi 0, vi 0, .null, .null, .null, .null, .null, .null, vi 0, vi 0, vi 0, .null, .null, vi 0]) := by rw [e15]; exact (uE_ne (by omega)).trans h_j
  refine ch_putG (k := 9) (j := 0) (ty0 := tyX13) (fin := true) b hH (by omega) h_j rfl in_26 tyX13_ok nmX13 (by decide) rfl (Nat.le_of_ble_eq_true rfl) rfl rfl hnm rfl hlo hzB (li_7 63 (by decide +kernel) (by decide +kernel)) dX13_init_67 (fun H locs hH hlo => ?_)
  obtain ⟨E16, e16, hH⟩ : ∃ z, z = uE E15 (0) (.inr (11, [.ref (B + (1)), .ref (B + (2)), .ref (B + (3)), .ref (B + (4)), .ref (B + (5)), .ref (B + (6)), vi 0, vi 0, .ref (B + (7)), .ref (B + (8)), vi 0, .null, .null, .null, .null, .null, .null, .null, vi 0, .null, vi 0, vi 0, vi 0, vi 0, vi 0, vi 0, vi 0, vi 0, vi 0, vi 0, vi 0, vi 0, .null, .null, .null, .null, .null, .null, vi 0, vi 0, vi 0, .null, .null, vi 0])) ∧ CHp (zD Z) B H0 (9) z H := ⟨_, rfl, hH⟩
  have h_j : E16 (0) = .inr (11, [.ref (B + (1)), .ref (B + (2)), .ref (B + (3)), .ref (B + (4)), .ref (B + (5)), .ref (B + (6)), vi 0, vi 0, .ref (B + (7)), .ref (B + (8)), vi 0, .null, .null, .null, .null, .null, .null, .null, vi 0, .null, vi 0, vi 0, vi 0, vi 0, vi 0, vi 0, vi 0, vi 0, vi 0, vi 0, vi 0, vi 0, .null, .null, .null, .null, .null, .null, vi 0, vi 0, vi 0, .null, .null, vi 0]) := by rw [e16]; exact uE_self _ _ _
  refine lv_aload_n b.1 b.2.1 dX13_init_70 rfl (lv_at hl 0 rfl) ?_
  refine lv_sipush (v := Int32.ofInt 401) b.1 b.2.1 dX13_init_71 (by decide) ?_
  refine ch_newa (atype := .int) (ty := .int) (cA := zC Z 0) (t0 := 0) (N' := 401) b hH (li_1 57 (by decide +kernel) (by decide +kernel)) rfl rfl (fun _ h => h) rfl (by decide) (Nat.le_of_ble_eq_true rfl) (show _ ≤ (mc : Nat) by omega) (show _ ≤ (ms : Nat) by omega) dX13_init_74 (fun H hH => ?_)
  obtain ⟨E17, e17, hH⟩ : ∃ z, z = uE E16 (9) (arI (zC Z 0) 401 (fun _ => 0)) ∧ CHp (zD Z) B H0 (10) z H := ⟨_, rfl, hH⟩
  have h_j : E17 (0) = .inr (11, [.ref (B + (1)), .ref (B + (2)), .ref (B + (3)), .ref (B + (4)), .ref (B + (5)), .ref (B + (6)), vi 0, vi 0, .ref (B + (7)), .ref (B + (8)), vi 0, .null, .null, .null, .null, .null, .null, .null, vi 0, .null, vi 0, vi 0, vi 0, vi 0, vi 0, vi 0, vi 0, vi 0, vi 0, vi 0, vi 0, vi 0, .null, .null, .null, .null, .null, .null, vi 0, vi 0, vi 0, .null, .null, vi 0]) := by rw [e17]; exact (uE_ne (by omega)).trans h_j
  refine ch_putG (k := 11) (j := 0) (ty0 := tyX13) (fin := true) b hH (by omega) h_j rfl in_26 tyX13_ok nmX13 (by decide) rfl (Nat.le_of_ble_eq_true rfl) rfl rfl hnm rfl hlo hzB (li_7 65 (by decide +kernel) (by decide +kernel)) dX13_init_76 (fun H locs hH hlo => ?_)
  obtain ⟨E18, e18, hH⟩ : ∃ z, z = uE E17 (0) (.inr (11, [.ref (B + (1)), .ref (B + (2)), .ref (B + (3)), .ref (B + (4)), .ref (B + (5)), .ref (B + (6)), vi 0, vi 0, .ref (B + (7)), .ref (B + (8)), vi 0, .ref (B + (9)), .null, .null, .null, .null, .null, .null, vi 0, .null, vi 0, vi 0, vi 0, vi 0, vi 0, vi 0, vi 0, vi 0, vi 0, vi 0, vi 0, vi 0, .null, .null, .null, .null, .null, .null, vi 0, vi 0, vi 0, .null, .null, vi 0])) ∧ CHp (zD Z) B H0 (10) z H := ⟨_, rfl, hH⟩
  have h_j : E18 (0) = .inr (11, [.ref (B + (1)), .ref (B + (2)), .ref (B + (3)), .ref (B + (4)), .ref (B + (5)), .ref (B + (6)), vi 0, vi 0, .ref (B + (7)), .ref (B + (8)), vi 0, .ref (B + (9)), .null, .null, .null, .null, .null, .null, vi 0, .null, vi 0, vi 0, vi 0, vi 0, vi 0, vi 0, vi 0, vi 0, vi 0, vi 0, vi 0, vi 0, .null, .null, .null, .null, .null, .null, vi 0, vi 0, vi 0, .null, .null, vi 0]) := by rw [e18]; exact uE_self _ _ _
  refine lv_aload_n b.1 b.2.1 dX13_init_79 rfl (lv_at hl 0 rfl) ?_
  refine lv_sipush (v := Int32.ofInt 401) b.1 b.2.1 dX13_init_80 (by decide) ?_
  refine ch_newa (atype := .int) (ty := .int) (cA := zC Z 0) (t0 := 0) (N' := 401) b hH (li_1 57 (by decide +kernel) (by decide +kernel)) rfl rfl (fun _ h => h) rfl (by decide) (Nat.le_of_ble_eq_true rfl) (show _ ≤ (mc : Nat) by omega) (show _ ≤ (ms : Nat) by omega) dX13_init_83 (fun H hH => ?_)
  obtain ⟨E19, e19, hH⟩ : ∃ z, z = uE E18 (10) (arI (zC Z 0) 401 (fun _ => 0)) ∧ CHp (zD Z) B H0 (11) z H := ⟨_, rfl, hH⟩
  have h_j : E19 (0) = .inr (11, [.ref (B + (1)), .ref (B + (2)), .ref (B + (3)), .ref (B + (4)), .ref (B + (5)), .ref (B + (6)), vi 0, vi 0, .ref (B + (7)), .ref (B + (8)), vi 0, .ref (B + (9)), .null, .null, .null, .null, .null, .null, vi 0, .null, vi 0, vi 0, vi 0, vi 0, vi 0, vi 0, vi 0, vi 0, vi 0, vi 0, vi 0, vi 0, .null, .null, .null, .null, .null, .null, vi 0, vi 0, vi 0, .null, .null, vi 0]) := by rw [e19]; exact (uE_ne (by omega)).trans h_j
  refine ch_putG (k := 12) (j := 0) (ty0 := tyX13) (fin := true) b hH (by omega) h_j rfl in_26 tyX13_ok nmX13 (by decide) rfl (Nat.le_of_ble_eq_true rfl) rfl rfl hnm rfl hlo hzB (li_7 66 (by decide +kernel) (by decide +kernel)) dX13_init_85 (fun H locs hH hlo => ?_)
  obtain ⟨E20, e20, hH⟩ : ∃ z, z = uE E19 (0) (.inr (11, [.ref (B + (1)), .ref (B + (2)), .ref (B + (3)), .ref (B + (4)), .ref (B + (5)), .ref (B + (6)), vi 0, vi 0, .ref (B + (7)), .ref (B + (8)), vi 0, .ref (B + (9)), .ref (B + (10)), .null, .null, .null, .null, .null, vi 0, .null, vi 0, vi 0, vi 0, vi 0, vi 0, vi 0, vi 0, vi 0, vi 0, vi 0, vi 0, vi 0, .null, .null, .null, .null, .null, .null, vi 0, vi 0, vi 0, .null, .null, vi 0])) ∧ CHp (zD Z) B H0 (11) z H := ⟨_, rfl, hH⟩
  have h_j : E20 (0) = .inr (11, [.ref (B + (1)), .ref (B + (2)), .ref (B + (3)), .ref (B + (4)), .ref (B + (5)), .ref (B + (6)), vi 0, vi 0, .ref (B + (7)), .ref (B + (8)), vi 0, .ref (B + (9)), .ref (B + (10)), .null, .null, .null, .null, .null, vi 0, .null, vi 0, vi 0, vi 0, vi 0, vi 0, vi 0, vi 0, vi 0, vi 0, vi 0, vi 0, vi 0, .null, .null, .null, .null, .null, .null, vi 0, vi 0, vi 0, .null, .null, vi 0]) := by rw [e20]; exact uE_self _ _ _
  refine lv_aload_n b.1 b.2.1 dX13_init_88 rfl (lv_at hl 0 rfl) ?_
  refine lv_bipush (v := Int32.ofInt 42) b.1 b.2.1 dX13_init_89 (by decide) ?_
  refine ch_newa (atype := .int) (ty := .int) (cA := zC Z 0) (t0 := 0) (N' := 42) b hH (li_1 57 (by decide +kernel) (by decide +kernel)) rfl rfl (fun _ h => h) rfl (by decide) (Nat.le_of_ble_eq_true rfl) (show _ ≤ (mc : Nat) by omega) (show _ ≤ (ms : Nat) by omega) dX13_init_91 (fun H hH => ?_)
  obtain ⟨E21, e21, hH⟩ : ∃ z, z = uE E20 (11) (arI (zC Z 0) 42 (fun _ => 0)) ∧ CHp (zD Z) B H0 (12) z H := ⟨_, rfl, hH⟩
  have h_j : E21 (0) = .inr (11, [.ref (B + (1)), .ref (B + (2)), .ref (B + (3)), .ref (B + (4)), .ref (B + (5)), .ref (B + (6)), vi 0, vi 0, .ref (B + (7)), .ref (B + (8)), vi 0, .ref (B + (9)), .ref (B + (10)), .null, .null, .null, .null, .null, vi 0, .null, vi 0, vi 0, vi 0, vi 0, vi 0, vi 0, vi 0, vi 0, vi 0, vi 0, vi 0, vi 0, .null, .null, .null, .null, .null, .null, vi 0, vi 0, vi 0, .null, .null, vi 0]) := by rw [e21]; exact (uE_ne (by omega)).trans h_j
  refine ch_putG (k := 13) (j := 0) (ty0 := tyX13) (fin := true) b hH (by omega) h_j rfl in_26 tyX13_ok nmX13 (by decide) rfl (Nat.le_of_ble_eq_true rfl) rfl rfl hnm rfl hlo hzB (li_7 67 (by decide +kernel) (by decide +kernel)) dX13_init_93 (fun H locs hH hlo => ?_)
  obtain ⟨E22, e22, hH⟩ : ∃ z, z = uE E21 (0) (.inr (11, [.ref (B + (1)), .ref (B + (2)), .ref (B + (3)), .ref (B + (4)), .ref (B + (5)), .ref (B + (6)), vi 0, vi 0, .ref (B + (7)), .ref (B + (8)), vi 0, .ref (B + (9)), .ref (B + (10)), .ref (B + (11)), .null, .null, .null, .null, vi 0, .null, vi 0, vi 0, vi 0, vi 0, vi 0, vi 0, vi 0, vi 0, vi 0, vi 0, vi 0, vi 0, .null, .null, .null, .null, .null, .null, vi 0, vi 0, vi 0, .null, .null, vi 0])) ∧ CHp (zD Z) B H0 (12) z H := ⟨_, rfl, hH⟩
  have h_j : E22 (0) = .inr (11, [.ref (B + (1)), .ref (B + (2)), .ref (B + (3)), .ref (B + (4)), .ref (B + (5)), .ref (B + (6)), vi 0, vi 0, .ref (B + (7)), .ref (B + (8)), vi 0, .ref (B + (9)), .ref (B + (10)), .ref (B + (11)), .null, .null, .null, .null, vi 0, .null, vi 0, vi 0, vi 0, vi 0, vi 0, vi 0, vi 0, vi 0, vi 0, vi 0, vi 0, vi 0, .null, .null, .null, .null, .null, .null, vi 0, vi 0, vi 0, .null, .null, vi 0]) := by rw [e22]; exact uE_self _ _ _
  refine lv_aload_n b.1 b.2.1 dX13_init_96 rfl (lv_at hl 0 rfl) ?_
  refine lv_bipush (v := Int32.ofInt 42) b.1 b.2.1 dX13_init_97 (by decide) ?_
  refine ch_newa (atype := .int) (ty := .int) (cA := zC Z 0) (t0 := 0) (N' := 42) b hH (li_1 57 (by decide +kernel) (by decide +kernel)) rfl rfl (fun _ h => h) rfl (by decide) (Nat.le_of_ble_eq_true rfl) (show _ ≤ (mc : Nat) by omega) (show _ ≤ (ms : Nat) by omega) dX13_init_99 (fun H hH => ?_)
  obtain ⟨E23, e23, hH⟩ : ∃ z, z = uE E22 (12) (arI (zC Z 0) 42 (fun _ => 0)) ∧ CHp (zD Z) B H0 (13) z H := ⟨_, rfl, hH⟩
  have h_j : E23 (0) = .inr (11, [.ref (B + (1)), .ref (B + (2)), .ref (B + (3)), .ref (B + (4)), .ref (B + (5)), .ref (B + (6)), vi 0, vi 0, .ref (B + (7)), .ref (B + (8)), vi 0, .ref (B + (9)), .ref (B + (10)), .ref (B + (11)), .null, .null, .null, .null, vi 0, .null, vi 0, vi 0, vi 0, vi 0, vi 0, vi 0, vi 0, vi 0, vi 0, vi 0, vi 0, vi 0, .null, .null, .null, .null, .null, .null, vi 0, vi 0, vi 0, .null, .null, vi 0]) := by rw [e23]; exact (uE_ne (by omega)).trans h_j
  refine ch_putG (k := 14) (j := 0) (ty0 := tyX13) (fin := true) b hH (by omega) h_j rfl in_26 tyX13_ok nmX13 (by decide) rfl (Nat.le_of_ble_eq_true rfl) rfl rfl hnm rfl hlo hzB (li_7 68 (by decide +kernel) (by decide +kernel)) dX13_init_101 (fun H locs hH hlo => ?_)
  obtain ⟨E24, e24, hH⟩ : ∃ z, z = uE E23 (0) (.inr (11, [.ref (B + (1)), .ref (B + (2)), .ref (B + (3)), .ref (B + (4)), .ref (B + (5)), .ref (B + (6)), vi 0, vi 0, .ref (B + (7)), .ref (B + (8)), vi 0, .ref (B + (9)), .ref (B + (10)), .ref (B + (11)), .ref (B + (12)), .null, .null, .null, vi 0, .null, vi 0, vi 0, vi 0, vi 0, vi 0, vi 0, vi 0, vi 0, vi 0, vi 0, vi 0, vi 0, .null, .null, .null, .null, .null, .null, vi 0, vi 0, vi 0, .null, .null, vi 0])) ∧ CHp (zD Z) B H0 (13) z H := ⟨_, rfl, hH⟩
  have h_j : E24 (0) = .inr (11, [.ref (B + (1)), .ref (B + (2)), .ref (B + (3)), .ref (B + (4)), .ref (B + (5)), .ref (B + (6)), vi 0, vi 0, .ref (B + (7)), .ref (B + (8)), vi 0, .ref (B + (9)), .ref (B + (10)), .ref (B + (11)), .ref (B + (12)), .null, .null, .null, vi 0, .null, vi 0, vi 0, vi 0, vi 0, vi 0, vi 0, vi 0, vi 0, vi 0, vi 0, vi 0, vi 0, .null, .null, .null, .null, .null, .null, vi 0, vi 0, vi 0, .null, .null, vi 0]) := by rw [e24]; exact uE_self _ _ _
  refine lv_aload_n b.1 b.2.1 dX13_init_104 rfl (lv_at hl 0 rfl) ?_
  refine lv_sipush (v := Int32.ofInt 4356) b.1 b.2.1 dX13_init_105 (by decide) ?_
  refine ch_newa (atype := .int) (ty := .int) (cA := zC Z 0) (t0 := 0) (N' := 4356) b hH (li_1 57 (by decide +kernel) (by decide +kernel)) rfl rfl (fun _ h => h) rfl (by decide) (Nat.le_of_ble_eq_true rfl) (show _ ≤ (mc : Nat) by omega) (show _ ≤ (ms : Nat) by omega) dX13_init_108 (fun H hH => ?_)
  obtain ⟨E25, e25, hH⟩ : ∃ z, z = uE E24 (13) (arI (zC Z 0) 4356 (fun _ => 0)) ∧ CHp (zD Z) B H0 (14) z H := ⟨_, rfl, hH⟩
  have h_j : E25 (0) = .inr (11, [.ref (B + (1)), .ref (B + (2)), .ref (B + (3)), .ref (B + (4)), .ref (B + (5)), .ref (B + (6)), vi 0, vi 0, .ref (B + (7)), .ref (B + (8)), vi 0, .ref (B + (9)), .ref (B + (10)), .ref (B + (11)), .ref (B + (12)), .null, .null, .null, vi 0, .null, vi 0, vi 0, vi 0, vi 0, vi 0, vi 0, vi 0, vi 0, vi 0, vi 0, vi 0, vi 0, .null, .null, .null, .null, .null, .null, vi 0, vi 0, vi 0, .null, .null, vi 0]) := by rw [e25]; exact (uE_ne (by omega)).trans h_j
  refine ch_putG (k := 15) (j := 0) (ty0 := tyX13) (fin := true) b hH (by omega) h_j rfl in_26 tyX13_ok nmX13 (by decide) rfl (Nat.le_of_ble_eq_true rfl) rfl rfl hnm rfl hlo hzB (li_7 69 (by decide +kernel) (by decide +kernel)) dX13_init_110 (fun H locs hH hlo => ?_)
  obtain ⟨E26, e26, hH⟩ : ∃ z, z = uE E25 (0) (.inr (11, [.ref (B + (1)), .ref (B + (2)), .ref (B + (3)), .ref (B + (4)), .ref (B + (5)), .ref (B + (6)), vi 0, vi 0, .ref (B + (7)), .ref (B + (8)), vi 0, .ref (B + (9)), .ref (B + (10)), .ref (B + (11)), .ref (B + (12)), .ref (B + (13)), .null, .null, vi 0, .null, vi 0, vi 0, vi 0, vi 0, vi 0, vi 0, vi 0, vi 0, vi 0, vi 0, vi 0, vi 0, .null, .null, .null, .null, .null, .null, vi 0, vi 0, vi 0, .null, .null, vi 0])) ∧ CHp (zD Z) B H0 (14) z H := ⟨_, rfl, hH⟩
  have h_j : E26 (0) = .inr (11, [.ref (B + (1)), .ref (B + (2)), .ref (B + (3)), .ref (B + (4)), .ref (B + (5)), .ref (B + (6)), vi 0, vi 0, .ref (B + (7)), .ref (B + (8)), vi 0, .ref (B + (9)), .ref (B + (10)), .ref (B + (11)), .ref (B + (12)), .ref (B + (13)), .null, .null, vi 0, .null, vi 0, vi 0, vi 0, vi 0, vi 0, vi 0, vi 0, vi 0, vi 0, vi 0, vi 0, vi 0, .null, .null, .null, .null, .null, .null, vi 0, vi 0, vi 0, .null, .null, vi 0]) := by rw [e26]; exact uE_self _ _ _
  refine lv_aload_n b.1 b.2.1 dX13_init_113 rfl (lv_at hl 0 rfl) ?_
  refine lv_sipush (v := Int32.ofInt 4356) b.1 b.2.1 dX13_init_114 (by decide) ?_
  refine ch_newa (atype := .int) (ty := .int) (cA := zC Z 0) (t0 := 0) (N' := 4356) b hH (li_1 57 (by decide +kernel) (by decide +kernel)) rfl rfl (fun _ h => h) rfl (by decide) (Nat.le_of_ble_eq_true rfl) (show _ ≤ (mc : Nat) by omega) (show _ ≤ (ms : Nat) by omega) dX13_init_117 (fun H hH => ?_)
  obtain ⟨E27, e27, hH⟩ : ∃ z, z = uE E26 (14) (arI (zC Z 0) 4356 (fun _ => 0)) ∧ CHp (zD Z) B H0 (15) z H := ⟨_, rfl, hH⟩
  have h_j : E27 (0) = .inr (11, [.ref (B + (1)), .ref (B + (2)), .ref (B + (3)), .ref (B + (4)), .ref (B + (5)), .ref (B + (6)), vi 0, vi 0, .ref (B + (7)), .ref (B + (8)), vi 0, .ref (B + (9)), .ref (B + (10)), .ref (B + (11)), .ref (B + (12)), .ref (B + (13)), .null, .null, vi 0, .null, vi 0, vi 0, vi 0, vi 0, vi 0, vi 0, vi 0, vi 0, vi 0, vi 0, vi 0, vi 0, .null, .null, .null, .null, .null, .null, vi 0, vi 0, vi 0, .null, .null, vi 0]) := by rw [e27]; exact (uE_ne (by omega)).trans h_j
  refine ch_putG (k := 16) (j := 0) (ty0 := tyX13) (fin := true) b hH (by omega) h_j rfl in_26 tyX13_ok nmX13 (by decide) rfl (Nat.le_of_ble_eq_true rfl) rfl rfl hnm rfl hlo hzB (li_7 70 (by decide +kernel) (by decide +kernel)) dX13_init_119 (fun H locs hH hlo => ?_)
  obtain ⟨E28, e28, hH⟩ : ∃ z, z = uE E27 (0) (.inr (11, [.ref (B + (1)), .ref (B + (2)), .ref (B + (3)), .ref (B + (4)), .ref (B + (5)), .ref (B + (6)), vi 0, vi 0, .ref (B + (7)), .ref (B + (8)), vi 0, .ref (B + (9)), .ref (B + (10)), .ref (B + (11)), .ref (B + (12)), .ref (B + (13)), .ref (B + (14)), .null, vi 0, .null, vi 0, vi 0, vi 0, vi 0, vi 0, vi 0, vi 0, vi 0, vi 0, vi 0, vi 0, vi 0, .null, .null, .null, .null, .null, .null, vi 0, vi 0, vi 0, .null, .null, vi 0])) ∧ CHp (zD Z) B H0 (15) z H := ⟨_, rfl, hH⟩
  have h_j : E28 (0) = .inr (11, [.ref (B + (1)), .ref (B + (2)), .ref (B + (3)), .ref (B + (4)), .ref (B + (5)), .ref (B + (6)), vi 0, vi 0, .ref (B + (7)), .ref (B + (8)), vi 0, .ref (B + (9)), .ref (B + (10)), .ref (B + (11)), .ref (B + (12)), .ref (B + (13)), .ref (B + (14)), .null, vi 0, .null, vi 0, vi 0, vi 0, vi 0, vi 0, vi 0, vi 0, vi 0, vi 0, vi 0, vi 0, vi 0, .null, .null, .null, .null, .null, .null, vi 0, vi 0, vi 0, .null, .null, vi 0]) := by rw [e28]; exact uE_self _ _ _
  refine lv_aload_n b.1 b.2.1 dX13_init_122 rfl (lv_at hl 0 rfl) ?_
  refine lv_sipush (v := Int32.ofInt 4356) b.1 b.2.1 dX13_init_123 (by decide) ?_
  refine ch_newa (atype := .int) (ty := .int) (cA := zC Z 0) (t0 := 0) (N' := 4356) b hH (li_1 57 (by decide +kernel) (by decide +kernel)) rfl rfl (fun _ h => h) rfl (by decide) (Nat.le_of_ble_eq_true rfl) (show _ ≤ (mc : Nat) by omega) (show _ ≤ (ms : Nat) by omega) dX13_init_126 (fun H hH => ?_)
  obtain ⟨E29, e29, hH⟩ : ∃ z, z = uE E28 (15) (arI (zC Z 0) 4356 (fun _ => 0)) ∧ CHp (zD Z) B H0 (16) z H := ⟨_, rfl, hH⟩
  have h_j : E29 (0) = .inr (11, [.ref (B + (1)), .ref (B + (2)), .ref (B + (3)), .ref (B + (4)), .ref (B + (5)), .ref (B + (6)), vi 0, vi 0, .ref (B + (7)), .ref (B + (8)), vi 0, .ref (B + (9)), .ref (B + (10)), .ref (B + (11)), .ref (B + (12)), .ref (B + (13)), .ref (B + (14)), .null, vi 0, .null, vi 0, vi 0, vi 0, vi 0, vi 0, vi 0, vi 0, vi 0, vi 0, vi 0, vi 0, vi 0, .null, .null, .null, .null, .null, .null, vi 0, vi 0, vi 0, .null, .null, vi 0]) := by rw [e29]; exact (uE_ne (by omega)).trans h_j
  refine ch_putG (k := 17) (j := 0) (ty0 := tyX13) (fin := true) b hH (by omega) h_j rfl in_26 tyX13_ok nmX13 (by decide) rfl (Nat.le_of_ble_eq_true rfl) rfl rfl hnm rfl hlo hzB (li_7 71 (by decide +kernel) (by decide +kernel)) dX13_init_128 (fun H locs hH hlo => ?_)
  obtain ⟨E30, e30, hH⟩ : ∃ z, z = uE E29 (0) (.inr (11, [.ref (B + (1)), .ref (B + (2)), .ref (B + (3)), .ref (B + (4)), .ref (B + (5)), .ref (B + (6)), vi 0, vi 0, .ref (B + (7)), .ref (B + (8)), vi 0, .ref (B + (9)), .ref (B + (10)), .ref (B + (11)), .ref (B + (12)), .ref (B + (13)), .ref (B + (14)), .ref (B + (15)), vi 0, .null, vi 0, vi 0, vi 0, vi 0, vi 0, vi 0, vi 0, vi 0, vi 0, vi 0, vi 0, vi 0, .null, .null, .null, .null, .null, .null, vi 0, vi 0, vi 0, .null, .null, vi 0])) ∧ CHp (zD Z) B H0 (16) z H := ⟨_, rfl, hH⟩
  have h_j : E30 (0) = .inr (11, [.ref (B + (1)), .ref (B + (2)), .ref (B + (3)), .ref (B + (4)), .ref (B + (5)), .ref (B + (6)), vi 0, vi 0, .ref (B + (7)), .ref (B + (8)), vi 0, .ref (B + (9)), .ref (B + (10)), .ref (B + (11)), .ref (B + (12)), .ref (B + (13)), .ref (B + (14)), .ref (B + (15)), vi 0, .null, vi 0, vi 0, vi 0, vi 0, vi 0, vi 0, vi 0, vi 0, vi 0, vi 0, vi 0, vi 0, .null, .null, .null, .null, .null, .null, vi 0, vi 0, vi 0, .null, .null, vi 0]) := by rw [e30]; exact uE_self _ _ _
  refine lv_aload_n b.1 b.2.1 dX13_init_131 rfl (lv_at hl 0 rfl) ?_
  refine lv_sipush (v := Int32.ofInt 600) b.1 b.2.1 dX13_init_132 (by decide) ?_
  refine ch_newa (atype := .int) (ty := .int) (cA := zC Z 0) (t0 := 0) (N' := 600) b hH (li_1 57 (by decide +kernel) (by decide +kernel)) rfl rfl (fun _ h => h) rfl (by decide) (Nat.le_of_ble_eq_true rfl) (show _ ≤ (mc : Nat) by omega) (show _ ≤ (ms : Nat) by omega) dX13_init_135 (fun H hH => ?_)
  obtain ⟨E31, e31, hH⟩ : ∃ z, z = uE E30 (16) (arI (zC Z 0) 600 (fun _ => 0)) ∧ CHp (zD Z) B H0 (17) z H := ⟨_, rfl, hH⟩
  have h_j : E31 (0) = .inr (11, [.ref (B + (1)), .ref (B + (2)), .ref (B + (3)), .ref (B + (4)), .ref (B + (5)), .ref (B + (6)), vi 0, vi 0, .ref (B + (7)), .ref (B + (8)), vi 0, .ref (B + (9)), .ref (B + (10)), .ref (B + (11)), .ref (B + (12)), .ref (B + (13)), .ref (B + (14)), .ref (B + (15)), vi 0, .null, vi 0, vi 0, vi 0, vi 0, vi 0, vi 0, vi 0, vi 0, vi 0, vi 0, vi 0, vi 0, .null, .null, .null, .null, .null, .null, vi 0, vi 0, vi 0, .null, .null, vi 0]) := by rw [e31]; exact (uE_ne (by omega)).trans h_j
  refine ch_putG (k := 19) (j := 0) (ty0 := tyX13) (fin := true) b hH (by omega) h_j rfl in_26 tyX13_ok nmX13 (by decide) rfl (Nat.le_of_ble_eq_true rfl) rfl rfl hnm rfl hlo hzB (li_7 73 (by decide +kernel) (by decide +kernel)) dX13_init_137 (fun H locs hH hlo => ?_)
  obtain ⟨E32, e32, hH⟩ : ∃ z, z = uE E31 (0) (.inr (11, [.ref (B + (1)), .ref (B + (2)), .ref (B + (3)), .ref (B + (4)), .ref (B + (5)), .ref (B + (6)), vi 0, vi 0, .ref (B + (7)), .ref (B + (8)), vi 0, .ref (B + (9)), .ref (B + (10)), .ref (B + (11)), .ref (B + (12)), .ref (B + (13)), .ref (B + (14)), .ref (B + (15)), vi 0, .ref (B + (16)), vi 0, vi 0, vi 0, vi 0, vi 0, vi 0, vi 0, vi 0, vi 0, vi 0, vi 0, vi 0, .null, .null, .null, .null, .null, .null, vi 0, vi 0, vi 0, .null, .null, vi 0])) ∧ CHp (zD Z) B H0 (17) z H := ⟨_, rfl, hH⟩
  have h_j : E32 (0) = .inr (11, [.ref (B + (1)), .ref (B + (2)), .ref (B + (3)), .ref (B + (4)), .ref (B + (5)), .ref (B + (6)), vi 0, vi 0, .ref (B + (7)), .ref (B + (8)), vi 0, .ref (B + (9)), .ref (B + (10)), .ref (B + (11)), .ref (B + (12)), .ref (B + (13)), .ref (B + (14)), .ref (B + (15)), vi 0, .ref (B + (16)), vi 0, vi 0, vi 0, vi 0, vi 0, vi 0, vi 0, vi 0, vi 0, vi 0, vi 0, vi 0, .null, .null, .null, .null, .null, .null, vi 0, vi 0, vi 0, .null, .null, vi 0]) := by rw [e32]; exact uE_self _ _ _
  refine lv_aload_n b.1 b.2.1 dX13_init_140 rfl (lv_at hl 0 rfl) ?_
  refine lv_iconst (v := Int32.ofInt (-1)) b.1 b.2.1 dX13_init_141 rfl ?_
  refine ch_putG (k := 27) (j := 0) (ty0 := tyX13) (fin := false) b hH (by omega) h_j rfl in_26 tyX13_ok nmX13 (by decide) rfl (Nat.le_of_ble_eq_true rfl) rfl rfl hnm rfl hlo hzB (li_7 81 (by decide +kernel) (by decide +kernel)) dX13_init_142 (fun H locs hH hlo => ?_)
  obtain ⟨E33, e33, hH⟩ : ∃ z, z = uE E32 (0) (.inr (11, [.ref (B + (1)), .ref (B + (2)), .ref (B + (3)), .ref (B + (4)), .ref (B + (5)), .ref (B + (6)), vi 0, vi 0, .ref (B + (7)), .ref (B + (8)), vi 0, .ref (B + (9)), .ref (B + (10)), .ref (B + (11)), .ref (B + (12)), .ref (B + (13)), .ref (B + (14)), .ref (B + (15)), vi 0, .ref (B + (16)), vi 0, vi 0, vi 0, vi 0, vi 0, vi 0, vi 0, vi (-1), vi 0, vi 0, vi 0, vi 0, .null, .null, .null, .null, .null, .null, vi 0, vi 0, vi 0, .null, .null, vi 0])) ∧ CHp (zD Z) B H0 (17) z H := ⟨_, rfl, hH⟩
  have h_j : E33 (0) = .inr (11, [.ref (B + (1)), .ref (B + (2)), .ref (B + (3)), .ref (B + (4)), .ref (B + (5)), .ref (B + (6)), vi 0, vi 0, .ref (B + (7)), .ref (B + (8)), vi 0, .ref (B + (9)), .ref (B + (10)), .ref (B + (11)), .ref (B + (12)), .ref (B + (13)), .ref (B + (14)), .ref (B + (15)), vi 0, .ref (B + (16)), vi 0, vi 0, vi 0, vi 0, vi 0, vi 0, vi 0, vi (-1), vi 0, vi 0, vi 0, vi 0, .null, .null, .null, .null, .null, .null, vi 0, vi 0, vi 0, .null, .null, vi 0]) := by rw [e33]; exact uE_self _ _ _
  refine lv_aload_n b.1 b.2.1 dX13_init_145 rfl (lv_at hl 0 rfl) ?_
  refine lv_bipush (v := Int32.ofInt 64) b.1 b.2.1 dX13_init_146 (by decide) ?_
  refine ch_newa (atype := .int) (ty := .int) (cA := zC Z 0) (t0 := 0) (N' := 64) b hH (li_1 57 (by decide +kernel) (by decide +kernel)) rfl rfl (fun _ h => h) rfl (by decide) (Nat.le_of_ble_eq_true rfl) (show _ ≤ (mc : Nat) by omega) (show _ ≤ (ms : Nat) by omega) dX13_init_148 (fun H hH => ?_)
  obtain ⟨E34, e34, hH⟩ : ∃ z, z = uE E33 (17) (arI (zC Z 0) 64 (fun _ => 0)) ∧ CHp (zD Z) B H0 (18) z H := ⟨_, rfl, hH⟩
  have h_j : E34 (0) = .inr (11, [.ref (B + (1)), .ref (B + (2)), .ref (B + (3)), .ref (B + (4)), .ref (B + (5)), .ref (B + (6)), vi 0, vi 0, .ref (B + (7)), .ref (B + (8)), vi 0, .ref (B + (9)), .ref (B + (10)), .ref (B + (11)), .ref (B + (12)), .ref (B + (13)), .ref (B + (14)), .ref (B + (15)), vi 0, .ref (B + (16)), vi 0, vi 0, vi 0, vi 0, vi 0, vi 0, vi 0, vi (-1), vi 0, vi 0, vi 0, vi 0, .null, .null, .null, .null, .null, .null, vi 0, vi 0, vi 0, .null, .null, vi 0]) := by rw [e34]; exact (uE_ne (by omega)).trans h_j
  refine ch_putG (k := 32) (j := 0) (ty0 := tyX13) (fin := true) b hH (by omega) h_j rfl in_26 tyX13_ok nmX13 (by decide) rfl (Nat.le_of_ble_eq_true rfl) rfl rfl hnm rfl hlo hzB (li_7 86 (by decide +kernel) (by decide +kernel)) dX13_init_150 (fun H locs hH hlo => ?_)
  obtain ⟨E35, e35, hH⟩ : ∃ z, z = uE E34 (0) (.inr (11, [.ref (B + (1)), .ref (B + (2)), .ref (B + (3)), .ref (B + (4)), .ref (B + (5)), .ref (B + (6)), vi 0, vi 0, .ref (B + (7)), .ref (B + (8)), vi 0, .ref (B + (9)), .ref (B + (10)), .ref (B + (11)), .ref (B + (12)), .ref (B + (13)), .ref (B + (14)), .ref (B + (15)), vi 0, .ref (B + (16)), vi 0, vi 0, vi 0, vi 0, vi 0, vi 0, vi 0, vi (-1), vi 0, vi 0, vi 0, vi 0, .ref (B + (17)), .null, .null, .null, .null, .null, vi 0, vi 0, vi 0, .null, .null, vi 0])) ∧ CHp (zD Z) B H0 (18) z H := ⟨_, rfl, hH⟩
  have h_j : E35 (0) = .inr (11, [.ref (B + (1)), .ref (B + (2)), .ref (B + (3)), .ref (B + (4)), .ref (B + (5)), .ref (B + (6)), vi 0, vi 0, .ref (B + (7)), .ref (B + (8)), vi 0, .ref (B + (9)), .ref (B + (10)), .ref (B + (11)), .ref (B + (12)), .ref (B + (13)), .ref (B + (14)), .ref (B + (15)), vi 0, .ref (B + (16)), vi 0, vi 0, vi 0, vi 0, vi 0, vi 0, vi 0, vi (-1), vi 0, vi 0, vi 0, vi 0, .ref (B + (17)), .null, .null, .null, .null, .null, vi 0, vi 0, vi 0, .null, .null, vi 0]) := by rw [e35]; exact uE_self _ _ _
  refine lv_aload_n b.1 b.2.1 dX13_init_153 rfl (lv_at hl 0 rfl) ?_
  refine lv_bipush (v := Int32.ofInt 64) b.1 b.2.1 dX13_init_154 (by decide) ?_
  refine ch_newa (atype := .int) (ty := .int) (cA := zC Z 0) (t0 := 0) (N' := 64) b hH (li_1 57 (by decide +kernel) (by decide +kernel)) rfl rfl (fun _ h => h) rfl (by decide) (Nat.le_of_ble_eq_true rfl) (show _ ≤ (mc : Nat) by omega) (show _ ≤ (ms : Nat) by omega) dX13_init_156 (fun H hH => ?_)
  obtain ⟨E36, e36, hH⟩ : ∃ z, z = uE E35 (18) (arI (zC Z 0) 64 (fun _ => 0)) ∧ CHp (zD Z) B H0 (19) z H := ⟨_, rfl, hH⟩
  have h_j : E36 (0) = .inr (11, [.ref (B + (1)), .ref (B + (2)), .ref (B + (3)), .ref (B + (4)), .ref (B + (5)), .ref (B + (6)), vi 0, vi 0, .ref (B + (7)), .ref (B + (8)), vi 0, .ref (B + (9)), .ref (B + (10)), .ref (B + (11)), .ref (B + (12)), .ref (B + (13)), .ref (B + (14)), .ref (B + (15)), vi 0, .ref (B + (16)), vi 0, vi 0, vi 0, vi 0, vi 0, vi 0, vi 0, vi (-1), vi 0, vi 0, vi 0, vi 0, .ref (B + (17)), .null, .null, .null, .null, .null, vi 0, vi 0, vi 0, .null, .null, vi 0]) := by rw [e36]; exact (uE_ne (by omega)).trans h_j
  refine ch_putG (k := 33) (j := 0) (ty0 := tyX13) (fin := true) b hH (by omega) h_j rfl in_26 tyX13_ok nmX13 (by decide) rfl (Nat.le_of_ble_eq_true rfl) rfl rfl hnm rfl hlo hzB (li_7 87 (by decide +kernel) (by decide +kernel)) dX13_init_158 (fun H locs hH hlo => ?_)
  obtain ⟨E37, e37, hH⟩ : ∃ z, z = uE E36 (0) (.inr (11, [.ref (B + (1)), .ref (B + (2)), .ref (B + (3)), .ref (B + (4)), .ref (B + (5)), .ref (B + (6)), vi 0, vi 0, .ref (B + (7)), .ref (B + (8)), vi 0, .ref (B + (9)), .ref (B + (10)), .ref (B + (11)), .ref (B + (12)), .ref (B + (13)), .ref (B + (14)), .ref (B + (15)), vi 0, .ref (B + (16)), vi 0, vi 0, vi 0, vi 0, vi 0, vi 0, vi 0, vi (-1), vi 0, vi 0, vi 0, vi 0, .ref (B + (17)), .ref (B + (18)), .null, .null, .null, .null, vi 0, vi 0, vi 0, .null, .null, vi 0])) ∧ CHp (zD Z) B H0 (19) z H := ⟨_, rfl, hH⟩
  have h_j : E37 (0) = .inr (11, [.ref (B + (1)), .ref (B + (2)), .ref (B + (3)), .ref (B + (4)), .ref (B + (5)), .ref (B + (6)), vi 0, vi 0, .ref (B + (7)), .ref (B + (8)), vi 0, .ref (B + (9)), .ref (B + (10)), .ref (B + (11)), .ref (B + (12)), .ref (B + (13)), .ref (B + (14)), .ref (B + (15)), vi 0, .ref (B + (16)), vi 0, vi 0, vi 0, vi 0, vi 0, vi 0, vi 0, vi (-1), vi 0, vi 0, vi 0, vi 0, .ref (B + (17)), .ref (B + (18)), .null, .null, .null, .null, vi 0, vi 0, vi 0, .null, .null, vi 0]) := by rw [e37]; exact uE_self _ _ _
  refine lv_aload_n b.1 b.2.1 dX13_init_161 rfl (lv_at hl 0 rfl) ?_
  refine lv_bipush (v := Int32.ofInt 64) b.1 b.2.1 dX13_init_162 (by decide) ?_
  refine ch_newa (atype := .int) (ty := .int) (cA := zC Z 0) (t0 := 0) (N' := 64) b hH (li_1 57 (by decide +kernel) (by decide +kernel)) rfl rfl (fun _ h => h) rfl (by decide) (Nat.le_of_ble_eq_true rfl) (show _ ≤ (mc : Nat) by omega) (show _ ≤ (ms : Nat) by omega) dX13_init_164 (fun H hH => ?_)
  obtain ⟨E38, e38, hH⟩ : ∃ z, z = uE E37 (19) (arI (zC Z 0) 64 (fun _ => 0)) ∧ CHp (zD Z) B H0 (20) z H := ⟨_, rfl, hH⟩
  have h_j : E38 (0) = .inr (11, [.ref (B + (1)), .ref (B + (2)), .ref (B + (3)), .ref (B + (4)), .ref (B + (5)), .ref (B + (6)), vi 0, vi 0, .ref (B + (7)), .ref (B + (8)), vi 0, .ref (B + (9)), .ref (B + (10)), .ref (B + (11)), .ref (B + (12)), .ref (B + (13)), .ref (B + (14)), .ref (B + (15)), vi 0, .ref (B + (16)), vi 0, vi 0, vi 0, vi 0, vi 0, vi 0, vi 0, vi (-1), vi 0, vi 0, vi 0, vi 0, .ref (B + (17)), .ref (B + (18)), .null, .null, .null, .null, vi 0, vi 0, vi 0, .null, .null, vi 0]) := by rw [e38]; exact (uE_ne (by omega)).trans h_j
  refine ch_putG (k := 34) (j := 0) (ty0 := tyX13) (fin := true) b hH (by omega) h_j rfl in_26 tyX13_ok nmX13 (by decide) rfl (Nat.le_of_ble_eq_true rfl) rfl rfl hnm rfl hlo hzB (li_7 88 (by decide +kernel) (by decide +kernel)) dX13_init_166 (fun H locs hH hlo => ?_)
  obtain ⟨E39, e39, hH⟩ : ∃ z, z = uE E38 (0) (.inr (11, [.ref (B + (1)), .ref (B + (2)), .ref (B + (3)), .ref (B + (4)), .ref (B + (5)), .ref (B + (6)), vi 0, vi 0, .ref (B + (7)), .ref (B + (8)), vi 0, .ref (B + (9)), .ref (B + (10)), .ref (B + (11)), .ref (B + (12)), .ref (B + (13)), .ref (B + (14)), .ref (B + (15)), vi 0, .ref (B + (16)), vi 0, vi 0, vi 0, vi 0, vi 0, vi 0, vi 0, vi (-1), vi 0, vi 0, vi 0, vi 0, .ref (B + (17)), .ref (B + (18)), .ref (B + (19)), .null, .null, .null, vi 0, vi 0, vi 0, .null, .null, vi 0])) ∧ CHp (zD Z) B H0 (20) z H := ⟨_, rfl, hH⟩
  have h_j : E39 (0) = .inr (11, [.ref (B + (1)), .ref (B + (2)), .ref (B + (3)), .ref (B + (4)), .ref (B + (5)), .ref (B + (6)), vi 0, vi 0, .ref (B + (7)), .ref (B + (8)), vi 0, .ref (B + (9)), .ref (B + (10)), .ref (B + (11)), .ref (B + (12)), .ref (B + (13)), .ref (B + (14)), .ref (B + (15)), vi 0, .ref (B + (16)), vi 0, vi 0, vi 0, vi 0, vi 0, vi 0, vi 0, vi (-1), vi 0, vi 0, vi 0, vi 0, .ref (B + (17)), .ref (B + (18)), .ref (B + (19)), .null, .null, .null, vi 0, vi 0, vi 0, .null, .null, vi 0]) := by rw [e39]; exact uE_self _ _ _
  refine lv_aload_n b.1 b.2.1 dX13_init_169 rfl (lv_at hl 0 rfl) ?_
  refine lv_bipush (v := Int32.ofInt 64) b.1 b.2.1 dX13_init_170 (by decide) ?_
  refine ch_newa (atype := .int) (ty := .int) (cA := zC Z 0) (t0 := 0) (N' := 64) b hH (li_1 57 (by decide +kernel) (by decide +kernel)) rfl rfl (fun _ h => h) rfl (by decide) (Nat.le_of_ble_eq_true rfl) (show _ ≤ (mc : Nat) by omega) (show _ ≤ (ms : Nat) by omega) dX13_init_172 (fun H hH => ?_)
  obtain ⟨E40, e40, hH⟩ : ∃ z, z = uE E39 (20) (arI (zC Z 0) 64 (fun _ => 0)) ∧ CHp (zD Z) B H0 (21) z H := ⟨_, rfl, hH⟩
  have h_j : E40 (0) = .inr (11, [.ref (B + (1)), .ref (B + (2)), .ref (B + (3)), .ref (B + (4)), .ref (B + (5)), .ref (B + (6)), vi 0, vi 0, .ref (B + (7)), .ref (B + (8)), vi 0, .ref (B + (9)), .ref (B + (10)), .ref (B + (11)), .ref (B + (12)), .ref (B + (13)), .ref (B + (14)), .ref (B + (15)), vi 0, .ref (B + (16)), vi 0, vi 0, vi 0, vi 0, vi 0, vi 0, vi 0, vi (-1), vi 0, vi 0, vi 0, vi 0, .ref (B + (17)), .ref (B + (18)), .ref (B + (19)), .null, .null, .null, vi 0, vi 0, vi 0, .null, .null, vi 0]) := by rw [e40]; exact (uE_ne (by omega)).trans h_j
  refine ch_putG (k := 35) (j := 0) (ty0 := tyX13) (fin := true) b hH (by omega) h_j rfl in_26 tyX13_ok nmX13 (by decide) rfl (Nat.le_of_ble_eq_true rfl) rfl rfl hnm rfl hlo hzB (li_7 89 (by decide +kernel) (by decide +kernel)) dX13_init_174 (fun H locs hH hlo => ?_)
  obtain ⟨E41, e41, hH⟩ : ∃ z, z = uE E40 (0) (.inr (11, [.ref (B + (1)), .ref (B + (2)), .ref (B + (3)), .ref (B + (4)), .ref (B + (5)), .ref (B + (6)), vi 0, vi 0, .ref (B + (7)), .ref (B + (8)), vi 0, .ref (B + (9)), .ref (B + (10)), .ref (B + (11)), .ref (B + (12)), .ref (B + (13)), .ref (B + (14)), .ref (B + (15)), vi 0, .ref (B + (16)), vi 0, vi 0, vi 0, vi 0, vi 0, vi 0, vi 0, vi (-1), vi 0, vi 0, vi 0, vi 0, .ref (B + (17)), .ref (B + (18)), .ref (B + (19)), .ref (B + (20)), .null, .null, vi 0, vi 0, vi 0, .null, .null, vi 0])) ∧ CHp (zD Z) B H0 (21) z H := ⟨_, rfl, hH⟩
  have h_j : E41 (0) = .inr (11, [.ref (B + (1)), .ref (B + (2)), .ref (B + (3)), .ref (B + (4)), .ref (B + (5)), .ref (B + (6)), vi 0, vi 0, .ref (B + (7)), .ref (B + (8)), vi 0, .ref (B + (9)), .ref (B + (10)), .ref (B + (11)), .ref (B + (12)), .ref (B + (13)), .ref (B + (14)), .ref (B + (15)), vi 0, .ref (B + (16)), vi 0, vi 0, vi 0, vi 0, vi 0, vi 0, vi 0, vi (-1), vi 0, vi 0, vi 0, vi 0, .ref (B + (17)), .ref (B + (18)), .ref (B + (19)), .ref (B + (20)), .null, .null, vi 0, vi 0, vi 0, .null, .null, vi 0]) := by rw [e41]; exact uE_self _ _ _
  refine lv_aload_n b.1 b.2.1 dX13_init_177 rfl (lv_at hl 0 rfl) ?_
  refine lv_iconst (v := Int32.ofInt 2) b.1 b.2.1 dX13_init_178 rfl ?_
  refine ch_newa (atype := .int) (ty := .int) (cA := zC Z 0) (t0 := 0) (N' := 2) b hH (li_1 57 (by decide +kernel) (by decide +kernel)) rfl rfl (fun _ h => h) rfl (by decide) (Nat.le_of_ble_eq_true rfl) (show _ ≤ (mc : Nat) by omega) (show _ ≤ (ms : Nat) by omega) dX13_init_179 (fun H hH => ?_)
  obtain ⟨E42, e42, hH⟩ : ∃ z, z = uE E41 (21) (arI (zC Z 0) 2 (fun _ => 0)) ∧ CHp (zD Z) B H0 (22) z H := ⟨_, rfl, hH⟩
  have h_j : E42 (0) = .inr (11, [.ref (B + (1)), .ref (B + (2)), .ref (B + (3)), .ref (B + (4)), .ref (B + (5)), .ref (B + (6)), vi 0, vi 0, .ref (B + (7)), .ref (B + (8)), vi 0, .ref (B + (9)), .ref (B + (10)), .ref (B + (11)), .ref (B + (12)), .ref (B + (13)), .ref (B + (14)), .ref (B + (15)), vi 0, .ref (B + (16)), vi 0, vi 0, vi 0, vi 0, vi 0, vi 0, vi 0, vi (-1), vi 0, vi 0, vi 0, vi 0, .ref (B + (17)), .ref (B + (18)), .ref (B + (19)), .ref (B + (20)), .null, .null, vi 0, vi 0, vi 0, .null, .null, vi 0]) := by rw [e42]; exact (uE_ne (by omega)).trans h_j
  refine ch_putG (k := 36) (j := 0) (ty0 := tyX13) (fin := true) b hH (by omega) h_j rfl in_26 tyX13_ok nmX13 (by decide) rfl (Nat.le_of_ble_eq_true rfl) rfl rfl hnm rfl hlo hzB (li_7 90 (by decide +kernel) (by decide +kernel)) dX13_init_181 (fun H locs hH hlo => ?_)
  obtain ⟨E43, e43, hH⟩ : ∃ z, z = uE E42 (0) (.inr (11, [.ref (B + (1)), .ref (B + (2)), .ref (B + (3)), .ref (B + (4)), .ref (B + (5)), .ref (B + (6)), vi 0, vi 0, .ref (B + (7)), .ref (B + (8)), vi 0, .ref (B + (9)), .ref (B + (10)), .ref (B + (11)), .ref (B + (12)), .ref (B + (13)), .ref (B + (14)), .ref (B + (15)), vi 0, .ref (B + (16)), vi 0, vi 0, vi 0, vi 0, vi 0, vi 0, vi 0, vi (-1), vi 0, vi 0, vi 0, vi 0, .ref (B + (17)), .ref (B + (18)), .ref (B + (19)), .ref (B + (20)), .ref (B + (21)), .null, vi 0, vi 0, vi 0, .null, .null, vi 0])) ∧ CHp (zD Z) B H0 (22) z H := ⟨_, rfl, hH⟩
  have h_j : E43 (0) = .inr (11, [.ref (B + (1)), .ref (B + (2)), .ref (B + (3)), .ref (B + (4)), .ref (B + (5)), .ref (B + (6)), vi 0, vi 0, .ref (B + (7)), .ref (B + (8)), vi 0, .ref (B + (9)), .ref (B + (10)), .ref (B + (11)), .ref (B + (12)), .ref (B + (13)), .ref (B + (14)), .ref (B + (15)), vi 0, .ref (B + (16)), vi 0, vi 0, vi 0, vi 0, vi 0, vi 0, vi 0, vi (-1), vi 0, vi 0, vi 0, vi 0, .ref (B + (17)), .ref (B + (18)), .ref (B + (19)), .ref (B + (20)), .ref (B + (21)), .null, vi 0, vi 0, vi 0, .null, .null, vi 0]) := by rw [e43]; exact uE_self _ _ _
  refine lv_aload_n b.1 b.2.1 dX13_init_184 rfl (lv_at hl 0 rfl) ?_
  refine lv_iconst (v := Int32.ofInt 2) b.1 b.2.1 dX13_init_185 rfl ?_
  refine ch_newa (atype := .int) (ty := .int) (cA := zC Z 0) (t0 := 0) (N' := 2) b hH (li_1 57 (by decide +kernel) (by decide +kernel)) rfl rfl (fun _ h => h) rfl (by decide) (Nat.le_of_ble_eq_true rfl) (show _ ≤ (mc : Nat) by omega) (show _ ≤ (ms : Nat) by omega) dX13_init_186 (fun H hH => ?_)
  obtain ⟨E44, e44, hH⟩ : ∃ z, z = uE E43 (22) (arI (zC Z 0) 2 (fun _ => 0)) ∧ CHp (zD Z) B H0 (23) z H := ⟨_, rfl, hH⟩
  have h_j : E44 (0) = .inr (11, [.ref (B + (1)), .ref (B + (2)), .ref (B + (3)), .ref (B + (4)), .ref (B + (5)), .ref (B + (6)), vi 0, vi 0, .ref (B + (7)), .ref (B + (8)), vi 0, .ref (B + (9)), .ref (B + (10)), .ref (B + (11)), .ref (B + (12)), .ref (B + (13)), .ref (B + (14)), .ref (B + (15)), vi 0, .ref (B + (16)), vi 0, vi 0, vi 0, vi 0, vi 0, vi 0, vi 0, vi (-1), vi 0, vi 0, vi 0, vi 0, .ref (B + (17)), .ref (B + (18)), .ref (B + (19)), .ref (B + (20)), .ref (B + (21)), .null, vi 0, vi 0, vi 0, .null, .null, vi 0]) := by rw [e44]; exact (uE_ne (by omega)).trans h_j
  refine ch_putG (k := 37) (j := 0) (ty0 := tyX13) (fin := true) b hH (by omega) h_j rfl in_26 tyX13_ok nmX13 (by decide) rfl (Nat.le_of_ble_eq_true rfl) rfl rfl hnm rfl hlo hzB (li_7 91 (by decide +kernel) (by decide +kernel)) dX13_init_188 (fun H locs hH hlo => ?_)
  obtain ⟨E45, e45, hH⟩ : ∃ z, z = uE E44 (0) (.inr (11, [.ref (B + (1)), .ref (B + (2)), .ref (B + (3)), .ref (B + (4)), .ref (B + (5)), .ref (B + (6)), vi 0, vi 0, .ref (B + (7)), .ref (B + (8)), vi 0, .ref (B + (9)), .ref (B + (10)), .ref (B + (11)), .ref (B + (12)), .ref (B + (13)), .ref (B + (14)), .ref (B + (15)), vi 0, .ref (B + (16)), vi 0, vi 0, vi 0, vi 0, vi 0, vi 0, vi 0, vi (-1), vi 0, vi 0, vi 0, vi 0, .ref (B + (17)), .ref (B + (18)), .ref (B + (19)), .ref (B + (20)), .ref (B + (21)), .ref (B + (22)), vi 0, vi 0, vi 0, .null, .null, vi 0])) ∧ CHp (zD Z) B H0 (23) z H := ⟨_, rfl, hH⟩
  have h_j : E45 (0) = .inr (11, [.ref (B + (1)), .ref (B + (2)), .ref (B + (3)), .ref (B + (4)), .ref (B + (5)), .ref (B + (6)), vi 0, vi 0, .ref (B + (7)), .ref (B + (8)), vi 0, .ref (B + (9)), .ref (B + (10)), .ref (B + (11)), .ref (B + (12)), .ref (B + (13)), .ref (B + (14)), .ref (B + (15)), vi 0, .ref (B + (16)), vi 0, vi 0, vi 0, vi 0, vi 0, vi 0, vi 0, vi (-1), vi 0, vi 0, vi 0, vi 0, .ref (B + (17)), .ref (B + (18)), .ref (B + (19)), .ref (B + (20)), .ref (B + (21)), .ref (B + (22)), vi 0, vi 0, vi 0, .null, .null, vi 0]) := by rw [e45]; exact uE_self _ _ _
  refine lv_aload_n b.1 b.2.1 dX13_init_191 rfl (lv_at hl 0 rfl) ?_
  refine lv_bipush (v := Int32.ofInt 66) b.1 b.2.1 dX13_init_192 (by decide) ?_
  refine ch_newa (atype := .int) (ty := .int) (cA := zC Z 0) (t0 := 0) (N' := 66) b hH (li_1 57 (by decide +kernel) (by decide +kernel)) rfl rfl (fun _ h => h) rfl (by decide) (Nat.le_of_ble_eq_true rfl) (show _ ≤ (mc : Nat) by omega) (show _ ≤ (ms : Nat) by omega) dX13_init_194 (fun H hH => ?_)
  obtain ⟨E46, e46, hH⟩ : ∃ z, z = uE E45 (23) (arI (zC Z 0) 66 (fun _ => 0)) ∧ CHp (zD Z) B H0 (24) z H := ⟨_, rfl, hH⟩
  have h_j : E46 (0) = .inr (11, [.ref (B + (1)), .ref (B + (2)), .ref (B + (3)), .ref (B + (4)), .ref (B + (5)), .ref (B + (6)), vi 0, vi 0, .ref (B + (7)), .ref (B + (8)), vi 0, .ref (B + (9)), .ref (B + (10)), .ref (B + (11)), .ref (B + (12)), .ref (B + (13)), .ref (B + (14)), .ref (B + (15)), vi 0, .ref (B + (16)), vi 0, vi 0, vi 0, vi 0, vi 0, vi 0, vi 0, vi (-1), vi 0, vi 0, vi 0, vi 0, .ref (B + (17)), .ref (B + (18)), .ref (B + (19)), .ref (B + (20)), .ref (B + (21)), .ref (B + (22)), vi 0, vi 0, vi 0, .null, .null, vi 0]) := by rw [e46]; exact (uE_ne (by omega)).trans h_j
  refine ch_putG (k := 41) (j := 0) (ty0 := tyX13) (fin := true) b hH (by omega) h_j rfl in_26 tyX13_ok nmX13 (by decide) rfl (Nat.le_of_ble_eq_true rfl) rfl rfl hnm rfl hlo hzB (li_7 95 (by decide +kernel) (by decide +kernel)) dX13_init_196 (fun H locs hH hlo => ?_)
  obtain ⟨E47, e47, hH⟩ : ∃ z, z = uE E46 (0) (.inr (11, [.ref (B + (1)), .ref (B + (2)), .ref (B + (3)), .ref (B + (4)), .ref (B + (5)), .ref (B + (6)), vi 0, vi 0, .ref (B + (7)), .ref (B + (8)), vi 0, .ref (B + (9)), .ref (B + (10)), .ref (B + (11)), .ref (B + (12)), .ref (B + (13)), .ref (B + (14)), .ref (B + (15)), vi 0, .ref (B + (16)), vi 0, vi 0, vi 0, vi 0, vi 0, vi 0, vi 0, vi (-1), vi 0, vi 0, vi 0, vi 0, .ref (B + (17)), .ref (B + (18)), .ref (B + (19)), .ref (B + (20)), .ref (B + (21)), .ref (B + (22)), vi 0, vi 0, vi 0, .ref (B + (23)), .null, vi 0])) ∧ CHp (zD Z) B H0 (24) z H := ⟨_, rfl, hH⟩
  have h_j : E47 (0) = .inr (11, [.ref (B + (1)), .ref (B + (2)), .ref (B + (3)), .ref (B + (4)), .ref (B + (5)), .ref (B + (6)), vi 0, vi 0, .ref (B + (7)), .ref (B + (8)), vi 0, .ref (B + (9)), .ref (B + (10)), .ref (B + (11)), .ref (B + (12)), .ref (B + (13)), .ref (B + (14)), .ref (B + (15)), vi 0, .ref (B + (16)), vi 0, vi 0, vi 0, vi 0, vi 0, vi 0, vi 0, vi (-1), vi 0, vi 0, vi 0, vi 0, .ref (B + (17)), .ref (B + (18)), .ref (B + (19)), .ref (B + (20)), .ref (B + (21)), .ref (B + (22)), vi 0, vi 0, vi 0, .ref (B + (23)), .null, vi 0]) := by rw [e47]; exact uE_self _ _ _
  refine lv_aload_n b.1 b.2.1 dX13_init_199 rfl (lv_at hl 0 rfl) ?_
  refine lv_ldc (v := Int32.ofInt 70000) b.1 b.2.1 b.2.2.1 (b.2.2.2.1 _ (li_7 14 (by decide +kernel) (by decide +kernel))) dX13_init_200 ?_
  refine ch_newa (atype := .int) (ty := .int) (cA := zC Z 0) (t0 := 0) (N' := 70000) b hH (li_1 57 (by decide +kernel) (by decide +kernel)) rfl rfl (fun _ h => h) rfl (by decide) (Nat.le_of_ble_eq_true rfl) (show _ ≤ (mc : Nat) by omega) (show _ ≤ (ms : Nat) by omega) dX13_init_202 (fun H hH => ?_)
  obtain ⟨E48, e48, hH⟩ : ∃ z, z = uE E47 (24) (arI (zC Z 0) 70000 (fun _ => 0)) ∧ CHp (zD Z) B H0 (25) z H := ⟨_, rfl, hH⟩
  have h_j : E48 (0) = .inr (11, [.ref (B + (1)), .ref (B + (2)), .ref (B + (3)), .ref (B + (4)), .ref (B + (5)), .ref (B + (6)), vi 0, vi 0, .ref (B + (7)), .ref (B + (8)), vi 0, .ref (B + (9)), .ref (B + (10)), .ref (B + (11)), .ref (B + (12)), .ref (B + (13)), .ref (B + (14)), .ref (B + (15)), vi 0, .ref (B + (16)), vi 0, vi 0, vi 0, vi 0, vi 0, vi 0, vi 0, vi (-1), vi 0, vi 0, vi 0, vi 0, .ref (B + (17)), .ref (B + (18)), .ref (B + (19)), .ref (B + (20)), .ref (B + (21)), .ref (B + (22)), vi 0, vi 0, vi 0, .ref (B + (23)), .null, vi 0]) := by rw [e48]; exact (uE_ne (by omega)).trans h_j
  refine ch_putG (k := 42) (j := 0) (ty0 := tyX13) (fin := true) b hH (by omega) h_j rfl in_26 tyX13_ok nmX13 (by decide) rfl (Nat.le_of_ble_eq_true rfl) rfl rfl hnm rfl hlo hzB (li_7 96 (by decide +kernel) (by decide +kernel)) dX13_init_204 (fun H locs hH hlo => ?_)
  obtain ⟨E49, e49, hH⟩ : ∃ z, z = uE E48 (0) (.inr (11, [.ref (B + (1)), .ref (B + (2)), .ref (B + (3)), .ref (B + (4)), .ref (B + (5)), .ref (B + (6)), vi 0, vi 0, .ref (B + (7)), .ref (B + (8)), vi 0, .ref (B + (9)), .ref (B + (10)), .ref (B + (11)), .ref (B + (12)), .ref (B + (13)), .ref (B + (14)), .ref (B + (15)), vi 0, .ref (B + (16)), vi 0, vi 0, vi 0, vi 0, vi 0, vi 0, vi 0, vi (-1), vi 0, vi 0, vi 0, vi 0, .ref (B + (17)), .ref (B + (18)), .ref (B + (19)), .ref (B + (20)), .ref (B + (21)), .ref (B + (22)), vi 0, vi 0, vi 0, .ref (B + (23)), .ref (B + (24)), vi 0])) ∧ CHp (zD Z) B H0 (25) z H := ⟨_, rfl, hH⟩
  have h_j : E49 (0) = .inr (11, [.ref (B + (1)), .ref (B + (2)), .ref (B + (3)), .ref (B + (4)), .ref (B + (5)), .ref (B + (6)), vi 0, vi 0, .ref (B + (7)), .ref (B + (8)), vi 0, .ref (B + (9)), .ref (B + (10)), .ref (B + (11)), .ref (B + (12)), .ref (B + (13)), .ref (B + (14)), .ref (B + (15)), vi 0, .ref (B + (16)), vi 0, vi 0, vi 0, vi 0, vi 0, vi 0, vi 0, vi (-1), vi 0, vi 0, vi 0, vi 0, .ref (B + (17)), .ref (B + (18)), .ref (B + (19)), .ref (B + (20)), .ref (B + (21)), .ref (B + (22)), vi 0, vi 0, vi 0, .ref (B + (23)), .ref (B + (24)), vi 0]) := by rw [e49]; exact uE_self _ _ _
  refine W.widen (k := 24) (n := 304194) (by omega) (by omega) ?_
  refine kk H locs ?_ hlo
  subst e1 e2 e3 e4 e5 e6 e7 e8 e9 e10 e11 e12 e13 e14 e15 e16 e17 e18 e19 e20 e21 e22 e23 e24 e25 e26 e27 e28 e29 e30 e31 e32 e33 e34 e35 e36 e37 e38 e39 e40 e41 e42 e43 e44 e45 e46 e47 e48 e49
  exact hH
end
section
/-! ===== the fresh object: where all lies, what is in it ===== -/
theorem uE_eq {E : Nat → va_E} {j q : Nat} {e : va_E} (h : q = j) : uE E j e q = e := if_pos h
def gp (g : Nat) : Nat := if g < 2 then 1 + 90 * g else 210 + 90 * (g - 2)
def rp (r : Nat) : Nat := if r < 3 then (if r = 0 then 1 else if r = 1 then 3 else 6) else 10 + 2 * (r - 3)
def pos (k i : Nat) : Nat := match k with
  | 1 => gp i | 2 => gp (i / 43) + rp (i % 43) | 12 => gp (i / 43) + rp (i % 43) + 1 | 13 => gp i + 5 | 14 => gp i + 8 | 15 => gp i + 9
  | 3 => 181 | 4 => 182 | 16 => 183 + i | 17 => 187 | 5 => 188 | 18 => 189 + i | 6 => 195 | 19 => 196 | 7 => 197 | 8 => 198 | 20 => 199 | 21 => 200 + i | 9 => 206 | 22 => 207 | 23 => 208 | 24 => 209 | 10 => 1110 | 25 => 1111 | _ => 0
def ginv (g r : Nat) : Nat × Nat := if r = 0 then (1, g) else if r = 1 then (2, 43 * g) else if r = 2 then (12, 43 * g) else if r = 3 then (2, 43 * g + 1) else if r = 4 then (12, 43 * g + 1) else if r = 5 then (13, g) else if r = 6 then (2, 43 * g + 2) else if r = 7 then (12, 43 * g + 2) else if r = 8 then (14, g) else if r = 9 then (15, g) else if r % 2 = 0 then (2, 43 * g + 3 + (r - 10) / 2) else (12, 43 * g + 3 + (r - 10) / 2)
def inv (p : Nat) : Nat × Nat := if p = 0 then (0, 0) else if p < 181 then ginv ((p - 1) / 90) ((p - 1) % 90) else if p < 210 then ([(3, 0), (4, 0), (16, 0), (16, 1), (16, 2), (16, 3), (17, 0), (5, 0), (18, 0), (18, 1), (18, 2), (18, 3), (18, 4), (18, 5), (6, 0), (19, 0), (7, 0), (8, 0), (20, 0), (21, 0), (21, 1), (21, 2), (21, 3), (21, 4), (21, 5), (9, 0), (22, 0), (23, 0), (24, 0)] : List (Nat × Nat)).getD (p - 181) (0, 0) else if p < 1110 then ginv (2 + (p - 210) / 90) ((p - 210) % 90) else if p = 1110 then (10, 0) else (25, 0)
set_option maxRecDepth 100000 in
theorem inv_pos : ∀ k, k < 26 → ∀ i, i < ksz_a k → inv (pos k i) = (k, i) ∧ pos k i < 1112 := by decide +kernel
theorem ka_lt {k i : Nat} (h : i < ksz_a k) : k < 26 := by
  rcases Nat.lt_or_ge k 26 with q | q
  · exact q
  · exfalso
    unfold ksz_a at h
    split at h <;> first | omega | (rw [if_neg (by omega)] at h; omega)
def FR0 : Mem := fun k i s => match k with
  | 0 => if s = 9 then -1 else 0
  | 1 => if s = 6 then 2 else if s = 8 then 1 else 0
  | 4 => if s = 5 then -1 else if s = 7 then -1 else 0
  | 10 => if s = 2 then 64 else 0
  | 16 => if i = 2 then (if s < 4356 then -1 else 0) else 0
  | 20 => 14
  | 26 => if s = 27 then -1 else 0
  | _ => 0
def AtF (Z : ZT) : Prop := ∀ k i : Nat, i < ksz_a k → k ≠ 12 → k ≠ 25 → zA Z k i = zB Z + pos k i
def gr0 (Z : ZT) (i : Nat) : Nat := if i = 516 then zB Z + 1111 else zB Z + pos 12 i
theorem AtF.ad {Z : ZT} (h : AtF Z) {k i : Nat} (hi : i < ksz_a k) : adG Z (gr0 Z) k i = zB Z + pos k i := by
  unfold adG
  by_cases h12 : k = 12
  · subst h12
    have hi : i < 516 := hi
    rw [if_pos rfl, gr0, if_neg (by omega)]
  · rw [if_neg h12]
    by_cases h25 : k = 25
    · subst h25
      rw [if_pos rfl, gr0, if_pos rfl]
      rfl
    · rw [if_neg h25]; exact h k i hi h12 h25
section FRESH
variable {Z : ZT} {B n j : Nat} {E : Nat → va_E}
theorem RX1_at0 (hj : j < n) : E_RX1 Z B n j E (n + 0) = .inr (2, [.ref (B + (n + 0 + 1)), vi 0]) := by
  refine (L0_RX1_old (by omega) 40 (by omega)).trans ?_
  unfold P_RX1 E_RX5
  repeat (first | rw [uE_ne (by omega)] | rw [uE_eq (by omega)])
theorem RX1_at1 (hj : j < n) : E_RX1 Z B n j E (n + 1) = arI (zC Z 0) 0 (fun _ => 0) := by
  refine (L0_RX1_old (by omega) 40 (by omega)).trans ?_
  unfold P_RX1 E_RX5
  repeat (first | rw [uE_ne (by omega)] | rw [uE_eq (by omega)])
theorem RX1_at2 (hj : j < n) : E_RX1 Z B n j E (n + 2) = .inr (2, [.ref (B + (n + 2 + 1)), vi 0]) := by
  refine (L0_RX1_old (by omega) 40 (by omega)).trans ?_
  unfold P_RX1 E_RX5
  repeat (first | rw [uE_ne (by omega)] | rw [uE_eq (by omega)])
theorem RX1_at3 (hj : j < n) : E_RX1 Z B n j E (n + 3) = arI (zC Z 0) 0 (fun _ => 0) := by
  refine (L0_RX1_old (by omega) 40 (by omega)).trans ?_
  unfold P_RX1 E_RX5
  repeat (first | rw [uE_ne (by omega)] | rw [uE_eq (by omega)])
theorem RX1_at5 (hj : j < n) : E_RX1 Z B n j E (n + 5) = .inr (2, [.ref (B + (n + 5 + 1)), vi 0]) := by
  refine (L0_RX1_old (by omega) 40 (by omega)).trans ?_
  unfold P_RX1 E_RX5
  repeat (first | rw [uE_ne (by omega)] | rw [uE_eq (by omega)])
theorem RX1_at6 (hj : j < n) : E_RX1 Z B n j E (n + 6) = arI (zC Z 0) 0 (fun _ => 0) := by
  refine (L0_RX1_old (by omega) 40 (by omega)).trans ?_
  unfold P_RX1 E_RX5
  repeat (first | rw [uE_ne (by omega)] | rw [uE_eq (by omega)])
theorem RX1_at7 (hj : j < n) : E_RX1 Z B n j E (n + 7) = arI (zC Z 0) 40 (fun _ => 0) := by
  refine (L0_RX1_old (by omega) 40 (by omega)).trans ?_
  unfold P_RX1 E_RX5
  repeat (first | rw [uE_ne (by omega)] | rw [uE_eq (by omega)])
theorem RX1_at8 (hj : j < n) : E_RX1 Z B n j E (n + 8) = arI (zC Z 0) 9 (fun _ => 0) := by
  refine (L0_RX1_old (by omega) 40 (by omega)).trans ?_
  unfold P_RX1 E_RX5
  repeat (first | rw [uE_ne (by omega)] | rw [uE_eq (by omega)])
theorem L0_RX1_arr (hj : j < n) : ∀ i : Nat, L0_RX1 Z B n j E i (n + 4) = .inl (zC Z 4, 40, .inr (.inr (.inr (.inr (G_f B n i)))))
  | 0 => by
    show P_RX1 Z B n j E (n + 4) = _
    unfold P_RX1 E_RX5
    repeat (first | rw [uE_ne (by omega)] | rw [uE_eq (by omega)])
    rfl
  | i + 1 => uE_self _ _ _
theorem L0_RX1_row (hj : j < n) (k : Nat) : ∀ i : Nat, k < i → L0_RX1 Z B n j E i (n + 9 + 2 * k) = .inr (2, [.ref (B + (n + 9 + 2 * k + 1)), vi 0]) ∧ L0_RX1 Z B n j E i (n + 9 + 2 * k + 1) = arI (zC Z 0) 0 (fun _ => 0)
  | 0, h => absurd h (Nat.not_lt_zero _)
  | i + 1, h => by
    by_cases hk : k = i
    · subst hk
      refine ⟨(uE_ne (by omega)).trans E_RX5_self, (uE_ne (by omega)).trans ?_⟩
      unfold E_RX5
      rw [uE_ne (by omega), uE_eq (by omega)]
    · have h1 := L0_RX1_row hj k i (by omega)
      exact ⟨(uE_ne (by omega)).trans ((E_RX5_old (by omega) (by omega)).trans ((uE_ne (by omega)).trans h1.1)), (uE_ne (by omega)).trans ((E_RX5_old (by omega) (by omega)).trans ((uE_ne (by omega)).trans h1.2))⟩
theorem G_f_at (q : Nat) : ∀ i : Nat, q < i → G_f B n i q = some (B + (n + 9 + 2 * q))
  | 0, h => absurd h (Nat.not_lt_zero _)
  | i + 1, h => by
    show va_up (G_f B n i) i (some (B + (n + 9 + 2 * i))) q = _
    unfold va_up
    by_cases hk : q = i
    · rw [if_pos hk, hk]
    · rw [if_neg hk]; exact G_f_at q i (by omega)
theorem H_f_at (q : Nat) : ∀ i : Nat, q < i → H_f B n i q = some (B + (n + 90 * q))
  | 0, h => absurd h (Nat.not_lt_zero _)
  | i + 1, h => by
    show va_up (H_f B n i) i (some (B + (n + 90 * i))) q = _
    unfold va_up
    by_cases hk : q = i
    · rw [if_pos hk, hk]
    · rw [if_neg hk]; exact H_f_at q i (by omega)
theorem S_f_at (q : Nat) : ∀ i : Nat, q < i → S_f Z i q = some (zA Z 11 14)
  | 0, h => absurd h (Nat.not_lt_zero _)
  | i + 1, h => by
    show va_up (S_f Z i) i (some (zA Z 11 14)) q = _
    unfold va_up
    by_cases hk : q = i
    · rw [if_pos hk]
    · rw [if_neg hk]; exact S_f_at q i (by omega)
theorem T_f_at (q : Nat) : ∀ i : Nat, T_f i q = if q < i then (-1) else 0
  | 0 => by rw [if_neg (Nat.not_lt_zero _)]; rfl
  | i + 1 => by
    show (if q = i then (-1) else T_f i q) = _
    by_cases hk : q = i
    · rw [if_pos hk, if_pos (by omega)]
    · rw [if_neg hk, T_f_at q i]
      by_cases h : q < i
      · rw [if_pos h, if_pos (by omega)]
      · rw [if_neg h, if_neg (by omega)]
def gC (Z : ZT) (B n r : Nat) : va_E := if r = 4 then .inl (zC Z 4, 40, .inr (.inr (.inr (.inr (G_f B n 40))))) else if r = 7 then arI (zC Z 0) 40 (fun _ => 0) else if r = 8 then arI (zC Z 0) 9 (fun _ => 0) else if r = 0 ∨ r = 2 ∨ r = 5 ∨ (9 ≤ r ∧ r % 2 = 1) then .inr (2, [.ref (B + (n + r + 1)), vi 0]) else arI (zC Z 0) 0 (fun _ => 0)
theorem RX1_at (hj : j < n) (r : Nat) (hr : r < 89) : E_RX1 Z B n j E (n + r) = gC Z B n r := by
  unfold gC
  rcases (show r = 0 ∨ r = 1 ∨ r = 2 ∨ r = 3 ∨ r = 4 ∨ r = 5 ∨ r = 6 ∨ r = 7 ∨ r = 8 ∨ 9 ≤ r by omega) with rfl | rfl | rfl | rfl | rfl | rfl | rfl | rfl | rfl | h9
  · exact RX1_at0 hj
  · exact RX1_at1 hj
  · exact RX1_at2 hj
  · exact RX1_at3 hj
  · exact L0_RX1_arr hj 40
  · exact RX1_at5 hj
  · exact RX1_at6 hj
  · exact RX1_at7 hj
  · exact RX1_at8 hj
  · rw [if_neg (by omega), if_neg (by omega), if_neg (by omega)]
    obtain ⟨k, hk⟩ : ∃ k, r = 9 + 2 * k ∨ r = 9 + 2 * k + 1 := ⟨(r - 9) / 2, by omega⟩
    rcases hk with rfl | rfl
    · rw [if_pos (by omega), show n + (9 + 2 * k) = n + 9 + 2 * k by omega]
      exact (L0_RX1_row hj k 40 (by omega)).1
    · rw [if_neg (by omega), show n + (9 + 2 * k + 1) = n + 9 + 2 * k + 1 by omega]
      exact (L0_RX1_row hj k 40 (by omega)).2
/-- a grammar whole: the object and what it made -/
def gW (Z : ZT) (B g r : Nat) : va_E := if r = 0 then gObj Z B (g + 1) else gC Z B (g + 1) (r - 1)
theorem RX1_gW {g : Nat} (r : Nat) (hr : r < 90) : E_RX1 Z B (g + 1) g E (g + r) = gW Z B g r := by
  unfold gW
  by_cases h : r = 0
  · subst h; rw [if_pos rfl]; exact E_RX1_self (by omega)
  · rw [if_neg h, ← RX1_at (j := g) (E := E) (by omega) (r - 1) (by omega), show g + 1 + (r - 1) = g + r by omega]
theorem L0_RX2_at (a r : Nat) (hr : r < 90) : ∀ i : Nat, a < i → L0_RX2 Z B n j E i (n + 3 + 90 * a + r) = gW Z B (n + 3 + 90 * a) r
  | 0, h => absurd h (Nat.not_lt_zero _)
  | i + 1, h => by
    by_cases hk : a = i
    · subst hk
      exact (uE_ne (by omega)).trans (RX1_gW r hr)
    · exact (uE_ne (by omega)).trans ((E_RX1_old (by omega) (by omega)).trans ((uE_ne (by omega)).trans (L0_RX2_at a r hr i (by omega))))
theorem L1_RX2_at (a r : Nat) (hr : r < 90) : ∀ i : Nat, a < i → L1_RX2 Z B n j E i (n + 723 + 90 * a + r) = gW Z B (n + 723 + 90 * a) r
  | 0, h => absurd h (Nat.not_lt_zero _)
  | i + 1, h => by
    by_cases hk : a = i
    · subst hk
      exact (uE_ne (by omega)).trans (RX1_gW r hr)
    · exact (uE_ne (by omega)).trans ((E_RX1_old (by omega) (by omega)).trans ((uE_ne (by omega)).trans (L1_RX2_at a r hr i (by omega))))
theorem RX2_at1 (a r : Nat) (ha : a < 8) (hr : r < 90) : E_RX2 Z B n j E (n + 3 + 90 * a + r) = gW Z B (n + 3 + 90 * a) r := (L1_RX2_old (by omega) (by omega) 2 (by omega)).trans (L0_RX2_at a r hr 8 ha)
theorem RX2_at2 (a r : Nat) (ha : a < 2) (hr : r < 90) : E_RX2 Z B n j E (n + 723 + 90 * a + r) = gW Z B (n + 723 + 90 * a) r := L1_RX2_at a r hr 2 ha
theorem L0_RX2_arr (hj : j < n) : ∀ i : Nat, L0_RX2 Z B n j E i n = .inl (zC Z 5, 8, .inr (.inr (.inr (.inr (H_f B (n + 3) i)))))
  | 0 => by
    show P_RX2 Z B n j E n = _
    unfold P_RX2
    repeat (first | rw [uE_ne (by omega)] | rw [uE_eq (by omega)])
    rfl
  | i + 1 => uE_self _ _ _
theorem L1_RX2_arr (hj : j < n) : ∀ i : Nat, L1_RX2 Z B n j E i (n + 1) = .inl (zC Z 5, 2, .inr (.inr (.inr (.inr (H_f B (n + 723) i)))))
  | 0 => by
    refine (L0_RX2_old (by omega) (by omega) 8 (by omega)).trans ?_
    unfold P_RX2
    repeat (first | rw [uE_ne (by omega)] | rw [uE_eq (by omega)])
    rfl
  | i + 1 => uE_self _ _ _
theorem E12_g (g r : Nat) (hg : g < 12) (hr : r < 90) : E_RX12 Z B E (gp g + r) = gW Z B (gp g) r := by
  unfold E_RX12 gp
  rcases (show g = 0 ∨ g = 1 ∨ (2 ≤ g ∧ g < 10) ∨ (10 ≤ g ∧ g < 12) by omega) with rfl | rfl | h2 | h3
  · rw [if_pos (by omega), show 1 + 90 * 0 = 1 by rfl]
    repeat (first | rw [uE_ne (by omega)] | rw [uE_eq (by omega)] | rw [E_RX4_old (by omega) (by omega)] | rw [E_RX2_old (by omega) (by omega)] | rw [E_RX6_old (by omega) (by omega)] | rw [E_RX7_old (by omega) (by omega)] | rw [E_RX8_old (by omega) (by omega)] | rw [E_RX10_old (by omega) (by omega)] | rw [E_RX9_old (by omega) (by omega)] | rw [E_RX1_old (by omega) (by omega)])
    exact RX1_gW (g := 1) r hr
  · rw [if_pos (by omega), show 1 + 90 * 1 = 91 by rfl]
    repeat (first | rw [uE_ne (by omega)] | rw [uE_eq (by omega)] | rw [E_RX4_old (by omega) (by omega)] | rw [E_RX2_old (by omega) (by omega)] | rw [E_RX6_old (by omega) (by omega)] | rw [E_RX7_old (by omega) (by omega)] | rw [E_RX8_old (by omega) (by omega)] | rw [E_RX10_old (by omega) (by omega)] | rw [E_RX9_old (by omega) (by omega)] | rw [E_RX1_old (by omega) (by omega)])
    exact RX1_gW (g := 91) r hr
  · rw [if_neg (by omega)]
    repeat (first | rw [uE_ne (by omega)] | rw [uE_eq (by omega)] | rw [E_RX4_old (by omega) (by omega)])
    exact RX2_at1 (n := 207) (g - 2) r (by omega) hr
  · rw [if_neg (by omega), show 210 + 90 * (g - 2) = 207 + 723 + 90 * (g - 10) by omega]
    repeat (first | rw [uE_ne (by omega)] | rw [uE_eq (by omega)] | rw [E_RX4_old (by omega) (by omega)])
    exact RX2_at2 (n := 207) (g - 10) r (by omega) hr
theorem E12_0 : E_RX12 Z B E 0 = .inr (0, [.ref (B + 1), .ref (B + 91), .ref (B + 181), .ref (B + 188), .ref (B + 195), .ref (B + 197), .ref (B + 198), .ref (B + 206), .ref (B + 1110), vi (-1)]) := by
  unfold E_RX12
  repeat (first | rw [uE_ne (by omega)] | rw [uE_eq (by omega)])
theorem E12_181 : E_RX12 Z B E 181 = .inr (3, [.ref (B + 182), .ref (B + 187)]) := by
  unfold E_RX12
  repeat (first | rw [uE_ne (by omega)] | rw [uE_eq (by omega)] | rw [E_RX4_old (by omega) (by omega)] | rw [E_RX2_old (by omega) (by omega)] | rw [E_RX6_old (by omega) (by omega)] | rw [E_RX7_old (by omega) (by omega)] | rw [E_RX8_old (by omega) (by omega)] | rw [E_RX10_old (by omega) (by omega)] | rw [E_RX1_old (by omega) (by omega)])
  unfold E_RX9
  repeat (first | rw [uE_ne (by omega)] | rw [uE_eq (by omega)] | rw [E_RX3_old (by omega) (by omega)])
theorem L0_RX3_arr (hj : j < n) : ∀ i : Nat, L0_RX3 Z B n j E i (n + 2) = arI (zC Z 0) 4356 (T_f i)
  | 0 => by
    show P_RX3 Z B n j E (n + 2) = _
    unfold P_RX3
    repeat (first | rw [uE_ne (by omega)] | rw [uE_eq (by omega)])
    rfl
  | i + 1 => uE_self _ _ _
theorem E12_182 : E_RX12 Z B E 182 = .inr (4, [.ref (B + 183), .ref (B + 184), .ref (B + 185), .ref (B + 186), vi 0, .null, vi 0, vi (-1), vi 0, vi 0]) := by
  unfold E_RX12
  repeat (first | rw [uE_ne (by omega)] | rw [uE_eq (by omega)] | rw [E_RX4_old (by omega) (by omega)] | rw [E_RX2_old (by omega) (by omega)] | rw [E_RX6_old (by omega) (by omega)] | rw [E_RX7_old (by omega) (by omega)] | rw [E_RX8_old (by omega) (by omega)] | rw [E_RX10_old (by omega) (by omega)] | rw [E_RX1_old (by omega) (by omega)])
  unfold E_RX9
  repeat (first | rw [uE_ne (by omega)] | rw [uE_eq (by omega)])
  refine (L0_RX3_old (by omega) 4356).trans ?_
  unfold P_RX3
  repeat (first | rw [uE_ne (by omega)] | rw [uE_eq (by omega)])
theorem E12_183 : E_RX12 Z B E 183 = arI (zC Z 0) 4356 (fun _ => 0) := by
  unfold E_RX12
  repeat (first | rw [uE_ne (by omega)] | rw [uE_eq (by omega)] | rw [E_RX4_old (by omega) (by omega)] | rw [E_RX2_old (by omega) (by omega)] | rw [E_RX6_old (by omega) (by omega)] | rw [E_RX7_old (by omega) (by omega)] | rw [E_RX8_old (by omega) (by omega)] | rw [E_RX10_old (by omega) (by omega)] | rw [E_RX1_old (by omega) (by omega)])
  unfold E_RX9
  repeat (first | rw [uE_ne (by omega)] | rw [uE_eq (by omega)])
  refine (L0_RX3_old (by omega) 4356).trans ?_
  unfold P_RX3
  repeat (first | rw [uE_ne (by omega)] | rw [uE_eq (by omega)])
theorem E12_184 : E_RX12 Z B E 184 = arI (zC Z 0) 4356 (fun _ => 0) := by
  unfold E_RX12
  repeat (first | rw [uE_ne (by omega)] | rw [uE_eq (by omega)] | rw [E_RX4_old (by omega) (by omega)] | rw [E_RX2_old (by omega) (by omega)] | rw [E_RX6_old (by omega) (by omega)] | rw [E_RX7_old (by omega) (by omega)] | rw [E_RX8_old (by omega) (by omega)] | rw [E_RX10_old (by omega) (by omega)] | rw [E_RX1_old (by omega) (by omega)])
  unfold E_RX9
  repeat (first | rw [uE_ne (by omega)] | rw [uE_eq (by omega)])
  refine (L0_RX3_old (by omega) 4356).trans ?_
  unfold P_RX3
  repeat (first | rw [uE_ne (by omega)] | rw [uE_eq (by omega)])
theorem E12_185 : E_RX12 Z B E 185 = arI (zC Z 0) 4356 (T_f 4356) := by
  unfold E_RX12
  repeat (first | rw [uE_ne (by omega)] | rw [uE_eq (by omega)] | rw [E_RX4_old (by omega) (by omega)] | rw [E_RX2_old (by omega) (by omega)] | rw [E_RX6_old (by omega) (by omega)] | rw [E_RX7_old (by omega) (by omega)] | rw [E_RX8_old (by omega) (by omega)] | rw [E_RX10_old (by omega) (by omega)] | rw [E_RX1_old (by omega) (by omega)])
  unfold E_RX9
  repeat (first | rw [uE_ne (by omega)] | rw [uE_eq (by omega)])
  exact L0_RX3_arr (n := 183) (by omega) 4356
theorem E12_186 : E_RX12 Z B E 186 = arI (zC Z 0) 4356 (fun _ => 0) := by
  unfold E_RX12
  repeat (first | rw [uE_ne (by omega)] | rw [uE_eq (by omega)] | rw [E_RX4_old (by omega) (by omega)] | rw [E_RX2_old (by omega) (by omega)] | rw [E_RX6_old (by omega) (by omega)] | rw [E_RX7_old (by omega) (by omega)] | rw [E_RX8_old (by omega) (by omega)] | rw [E_RX10_old (by omega) (by omega)] | rw [E_RX1_old (by omega) (by omega)])
  unfold E_RX9
  repeat (first | rw [uE_ne (by omega)] | rw [uE_eq (by omega)])
  refine (L0_RX3_old (by omega) 4356).trans ?_
  unfold P_RX3
  repeat (first | rw [uE_ne (by omega)] | rw [uE_eq (by omega)])
theorem E12_187 : E_RX12 Z B E 187 = arI (zC Z 0) 40 (fun _ => 0) := by
  unfold E_RX12
  repeat (first | rw [uE_ne (by omega)] | rw [uE_eq (by omega)] | rw [E_RX4_old (by omega) (by omega)] | rw [E_RX2_old (by omega) (by omega)] | rw [E_RX6_old (by omega) (by omega)] | rw [E_RX7_old (by omega) (by omega)] | rw [E_RX8_old (by omega) (by omega)] | rw [E_RX10_old (by omega) (by omega)] | rw [E_RX1_old (by omega) (by omega)])
  unfold E_RX9
  repeat (first | rw [uE_ne (by omega)] | rw [uE_eq (by omega)] | rw [E_RX3_old (by omega) (by omega)])

theorem E12_188 : E_RX12 Z B E 188 = .inr (5, [.ref (B + 189), .ref (B + 190), .ref (B + 191), .ref (B + 192), .ref (B + 193), .ref (B + 194), vi 0, vi 0]) := by
  unfold E_RX12
  repeat (first | rw [uE_ne (by omega)] | rw [uE_eq (by omega)] | rw [E_RX4_old (by omega) (by omega)] | rw [E_RX2_old (by omega) (by omega)] | rw [E_RX6_old (by omega) (by omega)] | rw [E_RX7_old (by omega) (by omega)] | rw [E_RX8_old (by omega) (by omega)])
  unfold E_RX10
  repeat (first | rw [uE_ne (by omega)] | rw [uE_eq (by omega)])
theorem E12_189 : E_RX12 Z B E 189 = arI (zC Z 0) 40 (fun _ => 0) := by
  unfold E_RX12
  repeat (first | rw [uE_ne (by omega)] | rw [uE_eq (by omega)] | rw [E_RX4_old (by omega) (by omega)] | rw [E_RX2_old (by omega) (by omega)] | rw [E_RX6_old (by omega) (by omega)] | rw [E_RX7_old (by omega) (by omega)] | rw [E_RX8_old (by omega) (by omega)])
  unfold E_RX10
  repeat (first | rw [uE_ne (by omega)] | rw [uE_eq (by omega)])
theorem E12_190 : E_RX12 Z B E 190 = arI (zC Z 0) 40 (fun _ => 0) := by
  unfold E_RX12
  repeat (first | rw [uE_ne (by omega)] | rw [uE_eq (by omega)] | rw [E_RX4_old (by omega) (by omega)] | rw [E_RX2_old (by omega) (by omega)] | rw [E_RX6_old (by omega) (by omega)] | rw [E_RX7_old (by omega) (by omega)] | rw [E_RX8_old (by omega) (by omega)])
  unfold E_RX10
  repeat (first | rw [uE_ne (by omega)] | rw [uE_eq (by omega)])
theorem E12_191 : E_RX12 Z B E 191 = arI (zC Z 0) 40 (fun _ => 0) := by
  unfold E_RX12
  repeat (first | rw [uE_ne (by omega)] | rw [uE_eq (by omega)] | rw [E_RX4_old (by omega) (by omega)] | rw [E_RX2_old (by omega) (by omega)] | rw [E_RX6_old (by omega) (by omega)] | rw [E_RX7_old (by omega) (by omega)] | rw [E_RX8_old (by omega) (by omega)])
  unfold E_RX10
  repeat (first | rw [uE_ne (by omega)] | rw [uE_eq (by omega)])
theorem E12_192 : E_RX12 Z B E 192 = arI (zC Z 0) 400 (fun _ => 0) := by
  unfold E_RX12
  repeat (first | rw [uE_ne (by omega)] | rw [uE_eq (by omega)] | rw [E_RX4_old (by omega) (by omega)] | rw [E_RX2_old (by omega) (by omega)] | rw [E_RX6_old (by omega) (by omega)] | rw [E_RX7_old (by omega) (by omega)] | rw [E_RX8_old (by omega) (by omega)])
  unfold E_RX10
  repeat (first | rw [uE_ne (by omega)] | rw [uE_eq (by omega)])
theorem E12_193 : E_RX12 Z B E 193 = arI (zC Z 0) 41 (fun _ => 0) := by
  unfold E_RX12
  repeat (first | rw [uE_ne (by omega)] | rw [uE_eq (by omega)] | rw [E_RX4_old (by omega) (by omega)] | rw [E_RX2_old (by omega) (by omega)] | rw [E_RX6_old (by omega) (by omega)] | rw [E_RX7_old (by omega) (by omega)] | rw [E_RX8_old (by omega) (by omega)])
  unfold E_RX10
  repeat (first | rw [uE_ne (by omega)] | rw [uE_eq (by omega)])
theorem E12_194 : E_RX12 Z B E 194 = arI (zC Z 0) 41 (fun _ => 0) := by
  unfold E_RX12
  repeat (first | rw [uE_ne (by omega)] | rw [uE_eq (by omega)] | rw [E_RX4_old (by omega) (by omega)] | rw [E_RX2_old (by omega) (by omega)] | rw [E_RX6_old (by omega) (by omega)] | rw [E_RX7_old (by omega) (by omega)] | rw [E_RX8_old (by omega) (by omega)])
  unfold E_RX10
  repeat (first | rw [uE_ne (by omega)] | rw [uE_eq (by omega)])
theorem E12_195 : E_RX12 Z B E 195 = .inr (6, [.ref (B + 196), vi 0, vi 0, vi 0, vi 0, vi 0, vi 0, vi 0]) := by
  unfold E_RX12
  repeat (first | rw [uE_ne (by omega)] | rw [uE_eq (by omega)] | rw [E_RX4_old (by omega) (by omega)] | rw [E_RX2_old (by omega) (by omega)] | rw [E_RX6_old (by omega) (by omega)] | rw [E_RX7_old (by omega) (by omega)])
  unfold E_RX8
  repeat (first | rw [uE_ne (by omega)] | rw [uE_eq (by omega)])
theorem E12_196 : E_RX12 Z B E 196 = arI (zC Z 0) 600 (fun _ => 0) := by
  unfold E_RX12
  repeat (first | rw [uE_ne (by omega)] | rw [uE_eq (by omega)] | rw [E_RX4_old (by omega) (by omega)] | rw [E_RX2_old (by omega) (by omega)] | rw [E_RX6_old (by omega) (by omega)] | rw [E_RX7_old (by omega) (by omega)])
  unfold E_RX8
  repeat (first | rw [uE_ne (by omega)] | rw [uE_eq (by omega)])
theorem E12_197 : E_RX12 Z B E 197 = .inr (7, [.ref (B + 195), .ref (B + 91), vi 0, vi 0, vi 0, vi 0, vi 0]) := by
  unfold E_RX12
  repeat (first | rw [uE_ne (by omega)] | rw [uE_eq (by omega)] | rw [E_RX4_old (by omega) (by omega)] | rw [E_RX2_old (by omega) (by omega)] | rw [E_RX6_old (by omega) (by omega)])
  unfold E_RX7
  repeat (first | rw [uE_ne (by omega)] | rw [uE_eq (by omega)])
theorem L0_RX6_arr {a1 : Nat} (hj : j < n) : ∀ i : Nat, L0_RX6 Z B n j E a1 i n = .inl (zC Z 6, 60, .inr (.inr (.inr (.inr (S_f Z i)))))
  | 0 => by
    show P_RX6 Z B n j E a1 n = _
    unfold P_RX6
    repeat (first | rw [uE_ne (by omega)] | rw [uE_eq (by omega)])
    rfl
  | i + 1 => uE_self _ _ _
theorem E12_198 : E_RX12 Z B E 198 = .inr (8, [.ref (B + 195), .ref (B + 199), .ref (B + 200), .ref (B + 201), .ref (B + 202), .ref (B + 203), .ref (B + 204), .ref (B + 205), vi 0, vi 0, vi 0]) := by
  unfold E_RX12
  repeat (first | rw [uE_ne (by omega)] | rw [uE_eq (by omega)] | rw [E_RX4_old (by omega) (by omega)] | rw [E_RX2_old (by omega) (by omega)])
  refine (L0_RX6_old (by omega) 60).trans ?_
  unfold P_RX6
  repeat (first | rw [uE_ne (by omega)] | rw [uE_eq (by omega)])
theorem E12_199 : E_RX12 Z B E 199 = .inl (zC Z 6, 60, .inr (.inr (.inr (.inr (S_f Z 60))))) := by
  unfold E_RX12
  repeat (first | rw [uE_ne (by omega)] | rw [uE_eq (by omega)] | rw [E_RX4_old (by omega) (by omega)] | rw [E_RX2_old (by omega) (by omega)])
  exact L0_RX6_arr (n := 199) (by omega) 60
theorem E12_200 : E_RX12 Z B E 200 = arI (zC Z 0) 60 (fun _ => 0) := by
  unfold E_RX12
  repeat (first | rw [uE_ne (by omega)] | rw [uE_eq (by omega)] | rw [E_RX4_old (by omega) (by omega)] | rw [E_RX2_old (by omega) (by omega)])
  refine (L0_RX6_old (by omega) 60).trans ?_
  unfold P_RX6
  repeat (first | rw [uE_ne (by omega)] | rw [uE_eq (by omega)])
theorem E12_201 : E_RX12 Z B E 201 = arI (zC Z 0) 60 (fun _ => 0) := by
  unfold E_RX12
  repeat (first | rw [uE_ne (by omega)] | rw [uE_eq (by omega)] | rw [E_RX4_old (by omega) (by omega)] | rw [E_RX2_old (by omega) (by omega)])
  refine (L0_RX6_old (by omega) 60).trans ?_
  unfold P_RX6
  repeat (first | rw [uE_ne (by omega)] | rw [uE_eq (by omega)])
theorem E12_202 : E_RX12 Z B E 202 = arI (zC Z 0) 60 (fun _ => 0) := by
  unfold E_RX12
  repeat (first | rw [uE_ne (by omega)] | rw [uE_eq (by omega)] | rw [E_RX4_old (by omega) (by omega)] | rw [E_RX2_old (by omega) (by omega)])
  refine (L0_RX6_old (by omega) 60).trans ?_
  unfold P_RX6
  repeat (first | rw [uE_ne (by omega)] | rw [uE_eq (by omega)])
theorem E12_203 : E_RX12 Z B E 203 = arI (zC Z 0) 60 (fun _ => 0) := by
  unfold E_RX12
  repeat (first | rw [uE_ne (by omega)] | rw [uE_eq (by omega)] | rw [E_RX4_old (by omega) (by omega)] | rw [E_RX2_old (by omega) (by omega)])
  refine (L0_RX6_old (by omega) 60).trans ?_
  unfold P_RX6
  repeat (first | rw [uE_ne (by omega)] | rw [uE_eq (by omega)])
theorem E12_204 : E_RX12 Z B E 204 = arI (zC Z 0) 60 (fun _ => 0) := by
  unfold E_RX12
  repeat (first | rw [uE_ne (by omega)] | rw [uE_eq (by omega)] | rw [E_RX4_old (by omega) (by omega)] | rw [E_RX2_old (by omega) (by omega)])
  refine (L0_RX6_old (by omega) 60).trans ?_
  unfold P_RX6
  repeat (first | rw [uE_ne (by omega)] | rw [uE_eq (by omega)])
theorem E12_205 : E_RX12 Z B E 205 = arI (zC Z 0) 2 (fun _ => 0) := by
  unfold E_RX12
  repeat (first | rw [uE_ne (by omega)] | rw [uE_eq (by omega)] | rw [E_RX4_old (by omega) (by omega)] | rw [E_RX2_old (by omega) (by omega)])
  refine (L0_RX6_old (by omega) 60).trans ?_
  unfold P_RX6
  repeat (first | rw [uE_ne (by omega)] | rw [uE_eq (by omega)])
theorem E12_206 : E_RX12 Z B E 206 = .inr (9, [.ref (B + 207), .ref (B + 208), .ref (B + 209), vi 0, vi 0]) := by
  unfold E_RX12
  repeat (first | rw [uE_ne (by omega)] | rw [uE_eq (by omega)] | rw [E_RX4_old (by omega) (by omega)])
  refine (L1_RX2_old (by omega) (by omega) 2 (by omega)).trans ((L0_RX2_old (by omega) (by omega) 8 (by omega)).trans ?_)
  unfold P_RX2
  repeat (first | rw [uE_ne (by omega)] | rw [uE_eq (by omega)])
theorem E12_207 : E_RX12 Z B E 207 = .inl (zC Z 5, 8, .inr (.inr (.inr (.inr (H_f B 210 8))))) := by
  unfold E_RX12
  repeat (first | rw [uE_ne (by omega)] | rw [uE_eq (by omega)] | rw [E_RX4_old (by omega) (by omega)])
  exact (L1_RX2_old (by omega) (by omega) 2 (by omega)).trans (L0_RX2_arr (by omega) 8)
theorem E12_208 : E_RX12 Z B E 208 = .inl (zC Z 5, 2, .inr (.inr (.inr (.inr (H_f B 930 2))))) := by
  unfold E_RX12
  repeat (first | rw [uE_ne (by omega)] | rw [uE_eq (by omega)] | rw [E_RX4_old (by omega) (by omega)])
  exact L1_RX2_arr (by omega) 2
theorem E12_209 : E_RX12 Z B E 209 = arI (zC Z 1) 2 (fun _ => 0) := by
  unfold E_RX12
  repeat (first | rw [uE_ne (by omega)] | rw [uE_eq (by omega)] | rw [E_RX4_old (by omega) (by omega)])
  refine (L1_RX2_old (by omega) (by omega) 2 (by omega)).trans ((L0_RX2_old (by omega) (by omega) 8 (by omega)).trans ?_)
  unfold P_RX2
  repeat (first | rw [uE_ne (by omega)] | rw [uE_eq (by omega)])
theorem E12_1110 : E_RX12 Z B E 1110 = .inr (10, [.ref (B + 1111), vi 0]) := by
  unfold E_RX12
  repeat (first | rw [uE_ne (by omega)] | rw [uE_eq (by omega)])
  unfold E_RX4
  repeat (first | rw [uE_ne (by omega)] | rw [uE_eq (by omega)])
theorem E12_1111 : E_RX12 Z B E 1111 = arI (zC Z 2) 64 (fun _ => 0) := by
  unfold E_RX12
  repeat (first | rw [uE_ne (by omega)] | rw [uE_eq (by omega)])
  unfold E_RX4
  repeat (first | rw [uE_ne (by omega)] | rw [uE_eq (by omega)])
end FRESH
end
section
/-! ===== the fresh object holds FR0 ===== -/
theorem va_refs {D : va_G} {a c n : Nat} {f : Nat → Option Nat} {g : Nat → Nat} {H : Heap} (h : va_at D cls (a, .inl (c, n, .inr (.inr (.inr (.inr f))))) H) (hf : ∀ q : Nat, q < n → f q = some (g q)) : va_at D cls (a, arR c n g) H := by
  show H[a]? = some (vp_cell c (n, .inr (.inr (.inr (.inr fun j => some (g j))))))
  have h : H[a]? = some (vp_cell c (n, .inr (.inr (.inr (.inr f))))) := h
  rw [h, vp_cell_q, vp_cell_q]
  unfold arrV
  congr 3
  funext j
  exact congrArg va_rf (hf j.1 j.2)
theorem va_ints {D : va_G} {a c n : Nat} {f g : Nat → Int} {H : Heap} (h : va_at D cls (a, arI c n f) H) (hf : ∀ q : Nat, f q = g q) : va_at D cls (a, arI c n g) H := by
  rw [show g = f from funext fun q => (hf q).symm]; exact h
theorem gp_row (g : Nat) : pos 2 (43 * g) = gp g + 1 ∧ pos 2 (43 * g + 1) = gp g + 3 ∧ pos 2 (43 * g + 2) = gp g + 6 := by
  have h1 : 43 * g / 43 = g := by omega
  have h2 : 43 * g % 43 = 0 := by omega
  have h3 : (43 * g + 1) / 43 = g := by omega
  have h4 : (43 * g + 1) % 43 = 1 := by omega
  have h5 : (43 * g + 2) / 43 = g := by omega
  have h6 : (43 * g + 2) % 43 = 2 := by omega
  refine ⟨?_, ?_, ?_⟩
  · show gp (43 * g / 43) + rp (43 * g % 43) = _
    rw [h1, h2]; rfl
  · show gp ((43 * g + 1) / 43) + rp ((43 * g + 1) % 43) = _
    rw [h3, h4]; rfl
  · show gp ((43 * g + 2) / 43) + rp ((43 * g + 2) % 43) = _
    rw [h5, h6]; rfl
theorem gp_body (g i : Nat) (hi : i < 40) : pos 2 (43 * g + 3 + i) = gp g + 10 + 2 * i := by
  have h1 : (43 * g + 3 + i) / 43 = g := by omega
  have h2 : (43 * g + 3 + i) % 43 = 3 + i := by omega
  show gp ((43 * g + 3 + i) / 43) + rp ((43 * g + 3 + i) % 43) = _
  rw [h1, h2]
  unfold rp
  rw [if_neg (by omega)]
  omega
theorem gC_row {Z : ZT} {B n r : Nat} (h : r = 0 ∨ r = 2 ∨ r = 5 ∨ (9 ≤ r ∧ r % 2 = 1)) : gC Z B n r = .inr (2, [.ref (B + (n + r + 1)), vi 0]) := by
  unfold gC
  rw [if_neg (by omega), if_neg (by omega), if_neg (by omega), if_pos h]
theorem gC_cells {Z : ZT} {B n r : Nat} (h : r = 1 ∨ r = 3 ∨ r = 6 ∨ (9 ≤ r ∧ r % 2 = 0)) : gC Z B n r = arI (zC Z 0) 0 (fun _ => 0) := by
  unfold gC
  rw [if_neg (by omega), if_neg (by omega), if_neg (by omega), if_neg (by omega)]
theorem rp_row (r : Nat) (hr : r < 43) : rp r < 89 ∧ 1 ≤ rp r ∧ (rp r - 1 = 0 ∨ rp r - 1 = 2 ∨ rp r - 1 = 5 ∨ (9 ≤ rp r - 1 ∧ (rp r - 1) % 2 = 1)) := by
  unfold rp
  by_cases h : r < 3
  · rw [if_pos h]
    rcases (show r = 0 ∨ r = 1 ∨ r = 2 by omega) with rfl | rfl | rfl
    · exact ⟨by decide, by decide, by decide⟩
    · exact ⟨by decide, by decide, by decide⟩
    · exact ⟨by decide, by decide, by decide⟩
  · rw [if_neg h]; omega
set_option maxRecDepth 100000 in
set_option maxHeartbeats 4000000 in
theorem fresh {Z : ZT} {E : Nat → va_E} {H : Heap} (hA : AtF Z) (hH : CHp (zD Z) (zB Z) (zH Z) 1112 (E_RX12 Z (zB Z) E) H) : HHA_a Z (gr0 Z) FR0 H := by
  obtain ⟨h1, h2, h3, h4⟩ := hH
  have hp := fun k i (hi : i < ksz_a k) => inv_pos k (ka_lt hi) i hi
  refine ⟨⟨h1.symm, by omega, h3⟩, fun k i k' i' hi hi' he => ?_, fun k i hi => by rw [hA.ad hi]; omega, fun k i hi => ?_⟩
  · rw [hA.ad hi, hA.ad hi'] at he
    have e1 := (hp k i hi).1
    have e2 := (hp k' i' hi').1
    rw [show pos k i = pos k' i' by omega, e2] at e1
    exact ⟨(congrArg Prod.fst e1).symm, (congrArg Prod.snd e1).symm⟩
  · have hb := (hp k i hi).2
    have hat := h4 (pos k i) hb
    have had := hA.ad hi
    rw [had]
    have hg : ∀ g r : Nat, g < 12 → r < 90 → va_at (zD Z) cls (zB Z + (gp g + r), gW Z (zB Z) (gp g) r) H := fun g r hg hr => by
      rw [← E12_g (E := E) g r hg hr]
      refine h4 _ ?_
      unfold gp
      split <;> omega
    have kl := ka_lt hi
    match k, kl, hi, hat with
    | 0, _, hi, hat =>
      obtain rfl : i = 0 := by have hi : i < 1 := hi; omega
      have hat : va_at (zD Z) cls (zB Z + 0, E_RX12 Z (zB Z) E 0) H := hat
      rw [E12_0] at hat
      show va_at (zD Z) cls (zB Z + 0, ent Z (gr0 Z) FR0 0 0) H
      unfold ent
      simp only [vr]
      rw [hA 1 0 (by decide) (by decide) (by decide)]
      rw [hA 1 1 (by decide) (by decide) (by decide)]
      rw [hA 3 0 (by decide) (by decide) (by decide)]
      rw [hA 5 0 (by decide) (by decide) (by decide)]
      rw [hA 6 0 (by decide) (by decide) (by decide)]
      rw [hA 7 0 (by decide) (by decide) (by decide)]
      rw [hA 8 0 (by decide) (by decide) (by decide)]
      rw [hA 9 0 (by decide) (by decide) (by decide)]
      rw [hA 10 0 (by decide) (by decide) (by decide)]
      exact hat
    | 1, _, hi, hat =>
      have hi : i < 12 := hi
      have hat := hg i 0 hi (by omega)
      have r := gp_row i
      show va_at (zD Z) cls (zB Z + gp i, ent Z (gr0 Z) FR0 1 i) H
      unfold ent
      simp only [vr]
      rw [hA 2 (43 * i) (by show _ < 516; omega) (by decide) (by decide), hA 2 (43 * i + 1) (by show _ < 516; omega) (by decide) (by decide), hA 2 (43 * i + 2) (by show _ < 516; omega) (by decide) (by decide), hA 13 i hi (by decide) (by decide), hA 14 i hi (by decide) (by decide), hA 15 i hi (by decide) (by decide), r.1, r.2.1, r.2.2]
      exact hat
    | 2, _, hi, hat =>
      have hi : i < 516 := hi
      have hr := rp_row (i % 43) (Nat.mod_lt _ (by decide))
      have hat := hg (i / 43) (rp (i % 43)) (by omega) (by omega)
      show va_at (zD Z) cls (zB Z + (gp (i / 43) + rp (i % 43)), .inr (2, [.ref (gr0 Z i), vi 0])) H
      unfold gW at hat
      rw [if_neg (by omega), gC_row hr.2.2] at hat
      rw [gr0, if_neg (by omega), show zB Z + pos 12 i = zB Z + (gp (i / 43) + 1 + (rp (i % 43) - 1) + 1) from by show _ + (gp (i / 43) + rp (i % 43) + 1) = _; omega]
      exact hat
    | 3, _, hi, hat =>
      obtain rfl : i = 0 := by have hi : i < 1 := hi; omega
      have hat : va_at (zD Z) cls (zB Z + 181, E_RX12 Z (zB Z) E 181) H := hat
      rw [E12_181] at hat
      show va_at (zD Z) cls (zB Z + 181, ent Z (gr0 Z) FR0 3 0) H
      unfold ent
      simp only [vr]
      rw [hA 4 0 (by decide) (by decide) (by decide)]
      rw [hA 17 0 (by decide) (by decide) (by decide)]
      exact hat
    | 4, _, hi, hat =>
      obtain rfl : i = 0 := by have hi : i < 1 := hi; omega
      have hat : va_at (zD Z) cls (zB Z + 182, E_RX12 Z (zB Z) E 182) H := hat
      rw [E12_182] at hat
      show va_at (zD Z) cls (zB Z + 182, ent Z (gr0 Z) FR0 4 0) H
      unfold ent
      simp only [vr]
      rw [hA 16 0 (by decide) (by decide) (by decide)]
      rw [hA 16 1 (by decide) (by decide) (by decide)]
      rw [hA 16 2 (by decide) (by decide) (by decide)]
      rw [hA 16 3 (by decide) (by decide) (by decide)]
      exact hat
    | 5, _, hi, hat =>
      obtain rfl : i = 0 := by have hi : i < 1 := hi; omega
      have hat : va_at (zD Z) cls (zB Z + 188, E_RX12 Z (zB Z) E 188) H := hat
      rw [E12_188] at hat
      show va_at (zD Z) cls (zB Z + 188, ent Z (gr0 Z) FR0 5 0) H
      unfold ent
      simp only [vr]
      rw [hA 18 0 (by decide) (by decide) (by decide)]
      rw [hA 18 1 (by decide) (by decide) (by decide)]
      rw [hA 18 2 (by decide) (by decide) (by decide)]
      rw [hA 18 3 (by decide) (by decide) (by decide)]
      rw [hA 18 4 (by decide) (by decide) (by decide)]
      rw [hA 18 5 (by decide) (by decide) (by decide)]
      exact hat
    | 6, _, hi, hat =>
      obtain rfl : i = 0 := by have hi : i < 1 := hi; omega
      have hat : va_at (zD Z) cls (zB Z + 195, E_RX12 Z (zB Z) E 195) H := hat
      rw [E12_195] at hat
      show va_at (zD Z) cls (zB Z + 195, ent Z (gr0 Z) FR0 6 0) H
      unfold ent
      simp only [vr]
      rw [hA 19 0 (by decide) (by decide) (by decide)]
      exact hat
    | 7, _, hi, hat =>
      obtain rfl : i = 0 := by have hi : i < 1 := hi; omega
      have hat : va_at (zD Z) cls (zB Z + 197, E_RX12 Z (zB Z) E 197) H := hat
      rw [E12_197] at hat
      show va_at (zD Z) cls (zB Z + 197, ent Z (gr0 Z) FR0 7 0) H
      unfold ent
      simp only [vr]
      rw [hA 6 0 (by decide) (by decide) (by decide)]
      rw [hA 1 1 (by decide) (by decide) (by decide)]
      exact hat
    | 8, _, hi, hat =>
      obtain rfl : i = 0 := by have hi : i < 1 := hi; omega
      have hat : va_at (zD Z) cls (zB Z + 198, E_RX12 Z (zB Z) E 198) H := hat
      rw [E12_198] at hat
      show va_at (zD Z) cls (zB Z + 198, ent Z (gr0 Z) FR0 8 0) H
      unfold ent
      simp only [vr]
      rw [hA 6 0 (by decide) (by decide) (by decide)]
      rw [hA 20 0 (by decide) (by decide) (by decide)]
      rw [hA 21 0 (by decide) (by decide) (by decide)]
      rw [hA 21 1 (by decide) (by decide) (by decide)]
      rw [hA 21 2 (by decide) (by decide) (by decide)]
      rw [hA 21 3 (by decide) (by decide) (by decide)]
      rw [hA 21 4 (by decide) (by decide) (by decide)]
      rw [hA 21 5 (by decide) (by decide) (by decide)]
      exact hat
    | 9, _, hi, hat =>
      obtain rfl : i = 0 := by have hi : i < 1 := hi; omega
      have hat : va_at (zD Z) cls (zB Z + 206, E_RX12 Z (zB Z) E 206) H := hat
      rw [E12_206] at hat
      show va_at (zD Z) cls (zB Z + 206, ent Z (gr0 Z) FR0 9 0) H
      unfold ent
      simp only [vr]
      rw [hA 22 0 (by decide) (by decide) (by decide)]
      rw [hA 23 0 (by decide) (by decide) (by decide)]
      rw [hA 24 0 (by decide) (by decide) (by decide)]
      exact hat
    | 10, _, hi, hat =>
      obtain rfl : i = 0 := by have hi : i < 1 := hi; omega
      have hat : va_at (zD Z) cls (zB Z + 1110, E_RX12 Z (zB Z) E 1110) H := hat
      rw [E12_1110] at hat
      show va_at (zD Z) cls (zB Z + 1110, .inr (10, [.ref (gr0 Z 516), vi 0])) H
      rw [gr0, if_pos rfl]
      exact hat
    | 12, _, hi, hat =>
      have hi : i < 516 := hi
      have hr := rp_row (i % 43) (Nat.mod_lt _ (by decide))
      have hat := hg (i / 43) (rp (i % 43) + 1) (by omega) (by omega)
      show va_at (zD Z) cls (zB Z + (gp (i / 43) + rp (i % 43) + 1), arI (zC Z 0) 0 (fun _ => 0)) H
      unfold gW at hat
      rw [if_neg (by omega), gC_cells (by omega)] at hat
      exact hat
    | 13, _, hi, hat =>
      have hi : i < 12 := hi
      have hat := hg i 5 hi (by omega)
      have hat : va_at (zD Z) cls (zB Z + (gp i + 5), .inl (zC Z 4, 40, .inr (.inr (.inr (.inr (G_f (zB Z) (gp i + 1) 40)))))) H := hat
      refine va_refs hat (fun q hq => ?_)
      rw [G_f_at q 40 hq, hA 2 (43 * i + 3 + q) (by show _ < 516; omega) (by decide) (by decide), gp_body i q hq]
    | 14, _, hi, hat =>
      have hi : i < 12 := hi
      exact hg i 8 hi (by omega)
    | 15, _, hi, hat =>
      have hi : i < 12 := hi
      exact hg i 9 hi (by omega)
    | 16, _, hi, hat =>
      have hi : i < 4 := hi
      rcases (show i = 0 ∨ i = 1 ∨ i = 2 ∨ i = 3 by omega) with rfl | rfl | rfl | rfl
      · have hat : va_at (zD Z) cls (zB Z + 183, E_RX12 Z (zB Z) E 183) H := hat
        rw [E12_183] at hat
        exact hat
      · have hat : va_at (zD Z) cls (zB Z + 184, E_RX12 Z (zB Z) E 184) H := hat
        rw [E12_184] at hat
        exact hat
      · have hat : va_at (zD Z) cls (zB Z + 185, E_RX12 Z (zB Z) E 185) H := hat
        rw [E12_185] at hat
        exact va_ints hat (fun q => (T_f_at q 4356).trans rfl)
      · have hat : va_at (zD Z) cls (zB Z + 186, E_RX12 Z (zB Z) E 186) H := hat
        rw [E12_186] at hat
        exact hat
    | 17, _, hi, hat =>
      obtain rfl : i = 0 := by have hi : i < 1 := hi; omega
      have hat : va_at (zD Z) cls (zB Z + 187, E_RX12 Z (zB Z) E 187) H := hat
      rw [E12_187] at hat
      exact hat
    | 18, _, hi, hat =>
      have hi : i < 6 := hi
      rcases (show i = 0 ∨ i = 1 ∨ i = 2 ∨ i = 3 ∨ i = 4 ∨ i = 5 by omega) with rfl | rfl | rfl | rfl | rfl | rfl
      · have hat : va_at (zD Z) cls (zB Z + 189, E_RX12 Z (zB Z) E 189) H := hat
        rw [E12_189] at hat
        exact hat
      · have hat : va_at (zD Z) cls (zB Z + 190, E_RX12 Z (zB Z) E 190) H := hat
        rw [E12_190] at hat
        exact hat
      · have hat : va_at (zD Z) cls (zB Z + 191, E_RX12 Z (zB Z) E 191) H := hat
        rw [E12_191] at hat
        exact hat
      · have hat : va_at (zD Z) cls (zB Z + 192, E_RX12 Z (zB Z) E 192) H := hat
        rw [E12_192] at hat
        exact hat
      · have hat : va_at (zD Z) cls (zB Z + 193, E_RX12 Z (zB Z) E 193) H := hat
        rw [E12_193] at hat
        exact hat
      · have hat : va_at (zD Z) cls (zB Z + 194, E_RX12 Z (zB Z) E 194) H := hat
        rw [E12_194] at hat
        exact hat
    | 19, _, hi, hat =>
      obtain rfl : i = 0 := by have hi : i < 1 := hi; omega
      have hat : va_at (zD Z) cls (zB Z + 196, E_RX12 Z (zB Z) E 196) H := hat
      rw [E12_196] at hat
      exact hat
    | 20, _, hi, hat =>
      obtain rfl : i = 0 := by have hi : i < 1 := hi; omega
      have hat : va_at (zD Z) cls (zB Z + 199, E_RX12 Z (zB Z) E 199) H := hat
      rw [E12_199] at hat
      exact va_refs hat (fun q hq => S_f_at q 60 hq)
    | 21, _, hi, hat =>
      have hi : i < 6 := hi
      rcases (show i = 0 ∨ i = 1 ∨ i = 2 ∨ i = 3 ∨ i = 4 ∨ i = 5 by omega) with rfl | rfl | rfl | rfl | rfl | rfl
      · have hat : va_at (zD Z) cls (zB Z + 200, E_RX12 Z (zB Z) E 200) H := hat
        rw [E12_200] at hat
        exact hat
      · have hat : va_at (zD Z) cls (zB Z + 201, E_RX12 Z (zB Z) E 201) H := hat
        rw [E12_201] at hat
        exact hat
      · have hat : va_at (zD Z) cls (zB Z + 202, E_RX12 Z (zB Z) E 202) H := hat
        rw [E12_202] at hat
        exact hat
      · have hat : va_at (zD Z) cls (zB Z + 203, E_RX12 Z (zB Z) E 203) H := hat
        rw [E12_203] at hat
        exact hat
      · have hat : va_at (zD Z) cls (zB Z + 204, E_RX12 Z (zB Z) E 204) H := hat
        rw [E12_204] at hat
        exact hat
      · have hat : va_at (zD Z) cls (zB Z + 205, E_RX12 Z (zB Z) E 205) H := hat
        rw [E12_205] at hat
        exact hat
    | 22, _, hi, hat =>
      obtain rfl : i = 0 := by have hi : i < 1 := hi; omega
      have hat : va_at (zD Z) cls (zB Z + 207, E_RX12 Z (zB Z) E 207) H := hat
      rw [E12_207] at hat
      refine va_refs hat (fun q hq => ?_)
      rw [H_f_at q 8 hq, hA 1 (2 + q) (by show _ < 12; omega) (by decide) (by decide)]
      show _ = some (zB Z + gp (2 + q))
      unfold gp
      rw [if_neg (by omega)]
      congr 1; omega
    | 23, _, hi, hat =>
      obtain rfl : i = 0 := by have hi : i < 1 := hi; omega
      have hat : va_at (zD Z) cls (zB Z + 208, E_RX12 Z (zB Z) E 208) H := hat
      rw [E12_208] at hat
      refine va_refs hat (fun q hq => ?_)
      rw [H_f_at q 2 hq, hA 1 (10 + q) (by show _ < 12; omega) (by decide) (by decide)]
      show _ = some (zB Z + gp (10 + q))
      unfold gp
      rw [if_neg (by omega)]
      congr 1; omega
    | 24, _, hi, hat =>
      obtain rfl : i = 0 := by have hi : i < 1 := hi; omega
      have hat : va_at (zD Z) cls (zB Z + 209, E_RX12 Z (zB Z) E 209) H := hat
      rw [E12_209] at hat
      exact hat
    | 25, _, hi, hat =>
      obtain rfl : i = 0 := by have hi : i < 1 := hi; omega
      have hat : va_at (zD Z) cls (zB Z + 1111, E_RX12 Z (zB Z) E 1111) H := hat
      rw [E12_1111] at hat
      exact hat
    | 11, _, hi, _ => exact absurd hi (Nat.not_lt_zero _)
    | k + 26, kl, _, _ => exact absurd kl (by omega)
end
