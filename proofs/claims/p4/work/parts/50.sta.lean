/-! ===== by program out of 05 .. 2x: the same, while the class's own objects alone are there ===== -/
def ksz_a : Nat → Nat
  | 1 => 12 | 2 => 516 | 11 => 0 | 12 => 516 | 13 => 12 | 14 => 12 | 15 => 12 | 16 => 4 | 18 => 6 | 21 => 6 | k => if k < 26 then 1 else 0
def HHA_a (Z : ZT) (gr : Nat → Nat) (I : Mem) (H : Heap) : Prop :=
  ((zH Z).size = zB Z ∧ zB Z ≤ H.size ∧ ∀ q : Nat, q < zB Z → H[q]? = (zH Z)[q]?) ∧
  (∀ k i k' i' : Nat, i < ksz_a k → i' < ksz_a k' → adG Z gr k i = adG Z gr k' i' → k = k' ∧ i = i') ∧
  (∀ k i : Nat, i < ksz_a k → zB Z ≤ adG Z gr k i) ∧
  ∀ k i : Nat, i < ksz_a k → va_at (zD Z) cls (adG Z gr k i, ent Z gr I k i) H
def HH_a (Z : ZT) (I : Mem) (H : Heap) : Prop := ∃ gr : Nat → Nat, HHA_a Z gr I H
theorem HHA_a.upd {Z : ZT} {gr : Nat → Nat} {I I' : Mem} {H H1 : Heap} {k i : Nat} (h : HHA_a Z gr I H) (hi : i < ksz_a k) (hz : H1.size = H.size) (ho : ∀ q : Nat, q ≠ adG Z gr k i → H1[q]? = H[q]?)
    (he : va_at (zD Z) cls (adG Z gr k i, ent Z gr I' k i) H1) (hI : ∀ k' i' : Nat, i' < ksz_a k' → ¬ (k' = k ∧ i' = i) → ent Z gr I' k' i' = ent Z gr I k' i') : HHA_a Z gr I' H1 := by
  obtain ⟨⟨h1, h2, h3⟩, h4, h5, h6⟩ := h
  refine ⟨⟨h1, by rw [hz]; exact h2, fun q hq => ?_⟩, h4, h5, fun k' i' hi' => ?_⟩
  · rw [ho q (fun e => by have := h5 k i hi; omega)]; exact h3 q hq
  · by_cases hk : k' = k ∧ i' = i
    · obtain ⟨rfl, rfl⟩ := hk; exact he
    · rw [hI k' i' hi' hk]
      exact (h6 k' i' hi').kept (ho _ (fun e => hk (h4 k' i' k i hi' hi e)))
theorem HHA_a.at {Z : ZT} {gr : Nat → Nat} {I : Mem} {H : Heap} (h : HHA_a Z gr I H) {k i : Nat} (hi : i < ksz_a k) : va_at (zD Z) cls (adG Z gr k i, ent Z gr I k i) H := h.2.2.2 k i hi
def Pcz_a (Z : ZT) (av : List Value) (I : Mem) : Array Value → State → Prop := fun v U => v = av.toArray ∧ HH_a Z I U.heap ∧ KK Z U
def Qcz_a (Z : ZT) (o : OV) : Array Value → State → Outcome → State → Prop := fun _ _ oc t => oc = .returned o.1 ∧ HH_a Z o.2 t.heap
/-- method y, at height h, with these arguments over this memory, ends with this answer and memory -/
def Runs_a (Z : ZT) (y : MethodName) (cc : ByteArray) (maxL : Nat) (ret : Option FieldType) (h : Nat) (av : List Value) (I : Mem) (o : OV) : Prop :=
  cle I o.2 ∧ ∀ l : Launch, l.stackTraces = false → Met l y (wsAll y cc maxL ret) (rmH h (dC I o.2) (dS I o.2)) (Pcz_a Z av I) (Qcz_a Z o) (dC I o.2) (dS I o.2) (zN Z)
/-- what a method's body stands on -/
def Bd_a (Z : ZT) (X : XT) (Y : YT) : Prop :=
  X.1.tables.exec = Jvm.exec ∧ X.2.2.2.2.2.2.2.2.code = Y.2.1 ∧ X.2.2.2.2.2.2.2.2.maxLocals = Y.2.2.1 ∧ X.2.2.2.1.vm.findClass Y.1.cls = some X.2.2.2.2.1.cls ∧ (∀ w ∈ lw_good, w.before X.2.2.2.2.2.1 X.2.2.2.1 = true) ∧ KK Z X.2.2.2.1 ∧ X.2.2.2.2.2.2.2.1.sig.returnType = Y.2.2.2.1 ∧ X.2.2.2.2.2.2.2.1.locks = false ∧ X.2.1.stackTraces = false ∧ X.2.2.2.2.2.2.2.2.exceptionTable.toList = tableOf (xtb Y.1) ∧ ∃ I1 : Mem, HH_a Z I1 X.2.2.2.1.heap
/-- what holds at the end -/
def Qz_a (Z : ZT) (X : XT) (I0 : Mem) (o : OT) : State → Prop := match o.1 with
  | .inl v => MQ X.2.2.2.2.2.2.1 (Qcz_a Z (v, o.2)) X.2.2.2.2.2.1 X.2.2.2.1 (dC I0 o.2) (dS I0 o.2) (zN Z)
  | .inr E => vx_MQ X.2.2.2.2.2.2.1 (fun _ _ _ _ => False) (fun E' _ t => E' = E ∧ HH_a Z o.2 t.heap) X.2.2.2.2.2.1 X.2.2.2.1 (dC I0 o.2) (dS I0 o.2) (zN Z)
/-- W over the context -/
abbrev WX_a (Z : ZT) (X : XT) (Y : YT) (I0 : Mem) (o : OT) (H : Heap) (locs : List Loc) (cells slots : Nat) (g : JFrame) : Prop :=
  W X.1 X.2.1 X.2.2.1 (rmH Y.2.2.2.2 (dC I0 o.2) (dS I0 o.2)) X.2.2.2.1 X.2.2.2.2.1 X.2.2.2.2.2.1 X.2.2.2.2.2.2.1 X.2.2.2.2.2.2.2.1 X.2.2.2.2.2.2.2.2 H locs cells slots (Qz_a Z X I0 o) g
def WP_a (Z : ZT) (Y : YT) (I0 : Mem) (o : OT) (gr : Nat → Nat) (pc : Nat) (lv : List (Nat × Value)) (st : List Value) (I : Mem) : Prop :=
  cle I o.2 ∧ (∀ X : XT, Bd_a Z X Y → cle I0 I → ∀ (H : Heap) (locs : List Loc) (ls : Array Slot), HHA_a Z gr I H → (∀ q ∈ locs, zN Z q.base) → lv_has ls Y.2.2.1 lv → WX_a Z X Y I0 o H locs (dC I0 I) (dS I0 I) (F0 X.2.2.2.2.1 pc ls st))
def WQ_a (Z : ZT) (Y : YT) (I0 : Mem) (gr : Nat → Nat) {α : Type} (pc : Nat) (lv : List (Nat × Value)) (st : List Value) (I : Mem) (e : Option (α × Mem)) (κ : α → Mem → Option OT) : Prop :=
  ∀ o : OT, bnd e κ = some o → WP_a Z Y I0 o gr pc lv st I
section WPS
variable {Z : ZT} {Y : YT} {I0 : Mem} {o : OT} {gr : Nat → Nat} {pc : Nat} {lv : List (Nat × Value)} {st : List Value} {I : Mem}
/-- a step of the machine alone -/
theorem WP_a.go {pc' : Nat} {lv' : List (Nat × Value)} {st' : List Value} (k : WP_a Z Y I0 o gr pc' lv' st' I)
    (h : ∀ X : XT, Bd_a Z X Y → ∀ (H : Heap) (locs : List Loc) (ls : Array Slot) (cells slots : Nat), HHA_a Z gr I H → lv_has ls Y.2.2.1 lv → (∀ ls' : Array Slot, lv_has ls' Y.2.2.1 lv' → WX_a Z X Y I0 o H locs cells slots (F0 X.2.2.2.2.1 pc' ls' st')) → WX_a Z X Y I0 o H locs cells slots (F0 X.2.2.2.2.1 pc ls st)) : WP_a Z Y I0 o gr pc lv st I :=
  ⟨k.1, fun X B hc H locs ls hH hlo hl => h X B H locs ls _ _ hH hl fun ls' hl' => k.2 X B hc H locs ls' hH hlo hl'⟩
variable {α : Type} {e : Option (α × Mem)} {κ : α → Mem → Option OT}
theorem WQ_a.go {pc' : Nat} {lv' : List (Nat × Value)} {st' : List Value}
    (h : ∀ X : XT, Bd_a Z X Y → ∀ (o : OT) (H : Heap) (locs : List Loc) (ls : Array Slot) (cells slots : Nat), HHA_a Z gr I H → lv_has ls Y.2.2.1 lv → (∀ ls' : Array Slot, lv_has ls' Y.2.2.1 lv' → WX_a Z X Y I0 o H locs cells slots (F0 X.2.2.2.2.1 pc' ls' st')) → WX_a Z X Y I0 o H locs cells slots (F0 X.2.2.2.2.1 pc ls st))
    (k : WQ_a Z Y I0 gr pc' lv' st' I e κ) : WQ_a Z Y I0 gr pc lv st I e κ :=
  fun o ho => (k o ho).go fun X B => h X B o
/-- a branch -/
theorem WQ_a.br {pc1 pc2 : Nat} {st' : List Value} {c : Prop} [Decidable c] {e1 e2 : Option (α × Mem)}
    (h : ∀ X : XT, Bd_a Z X Y → ∀ (o : OT) (H : Heap) (locs : List Loc) (ls : Array Slot) (cells slots : Nat), HHA_a Z gr I H → lv_has ls Y.2.2.1 lv → (c → WX_a Z X Y I0 o H locs cells slots (F0 X.2.2.2.2.1 pc1 ls st')) → (¬ c → WX_a Z X Y I0 o H locs cells slots (F0 X.2.2.2.2.1 pc2 ls st')) → WX_a Z X Y I0 o H locs cells slots (F0 X.2.2.2.2.1 pc ls st))
    (k1 : c → WQ_a Z Y I0 gr pc1 lv st' I e1 κ) (k2 : ¬ c → WQ_a Z Y I0 gr pc2 lv st' I e2 κ) : WQ_a Z Y I0 gr pc lv st I (if c then e1 else e2) κ := by
  intro o ho
  by_cases hc : c
  · rw [if_pos hc] at ho
    have k := k1 hc o ho
    exact ⟨k.1, fun X B hcl H locs ls hH hlo hl => h X B o H locs ls _ _ hH hl (fun _ => k.2 X B hcl H locs ls hH hlo hl) (fun q => absurd hc q)⟩
  · rw [if_neg hc] at ho
    have k := k2 hc o ho
    exact ⟨k.1, fun X B hcl H locs ls hH hlo hl => h X B o H locs ls _ _ hH hl (fun q => absurd q hc) (fun _ => k.2 X B hcl H locs ls hH hlo hl)⟩
theorem wq_grd_a {c : Prop} [Decidable c] (k : c → WQ_a Z Y I0 gr pc lv st I e κ) : WQ_a Z Y I0 gr pc lv st I (if c then e else none) κ := by
  intro o ho
  by_cases hc : c
  · rw [if_pos hc] at ho; exact k hc o ho
  · rw [if_neg hc] at ho; cases ho
theorem WQ_a.assoc {β : Type} {e : Option (β × Mem)} {f : β → Mem → Option (α × Mem)} (k : WQ_a Z Y I0 gr pc lv st I e (fun b J => bnd (f b J) κ)) : WQ_a Z Y I0 gr pc lv st I (bnd e f) κ := by
  intro o ho
  refine k o ?_
  cases e with
  | none => cases ho
  | some q => exact ho
theorem WQ_a.loc {lv' : List (Nat × Value)} (ks : List Nat) (hl : lv_pick lv ks = lv') (k : WQ_a Z Y I0 gr pc lv' st I e κ) : WQ_a Z Y I0 gr pc lv st I e κ :=
  WQ_a.go (fun _ _ _ _ _ _ _ _ _ h kk => kk _ (lv_sub h ks hl)) k
end WPS
section ROWS
variable {Z : ZT} {Y : YT} {I0 : Mem} {gr : Nat → Nat} {pc : Nat} {lv : List (Nat × Value)} {st : List Value} {I : Mem} {α : Type} {e e1 e2 : Option (α × Mem)} {κ : α → Mem → Option OT}
theorem wq_iconst_a {n : Int} (d : decode Y.2.1 pc = .ok (.iconst n, 1)) (k : WQ_a Z Y I0 gr (pc + 1) lv (vi n :: st) I e κ) : WQ_a Z Y I0 gr pc lv st I e κ :=
  WQ_a.go (fun _ B _ _ _ ls _ _ _ hl kk => lv_iconst B.1 B.2.1 d rfl (kk ls hl)) k
theorem wq_bipush_a {n : Int} (d : decode Y.2.1 pc = .ok (.bipush n, 2)) (hv : (Int8.ofInt n).toInt32 = Int32.ofInt n) (k : WQ_a Z Y I0 gr (pc + 2) lv (vi n :: st) I e κ) : WQ_a Z Y I0 gr pc lv st I e κ :=
  WQ_a.go (fun _ B _ _ _ ls _ _ _ hl kk => lv_bipush B.1 B.2.1 d hv (kk ls hl)) k
theorem wq_sipush_a {n : Int} (d : decode Y.2.1 pc = .ok (.sipush n, 3)) (hv : (Int16.ofInt n).toInt32 = Int32.ofInt n) (k : WQ_a Z Y I0 gr (pc + 3) lv (vi n :: st) I e κ) : WQ_a Z Y I0 gr pc lv st I e κ :=
  WQ_a.go (fun _ B _ _ _ ls _ _ _ hl kk => lv_sipush B.1 B.2.1 d hv (kk ls hl)) k
theorem wq_iload_n_a {j : Nat} {x : Int} {c : Fin 4} (d : decode Y.2.1 pc = .ok (.iload_n c, 1)) (j' : Nat) (hj : (c : Nat) = j) (hl : lv[j']? = some (j, vi x)) (k : WQ_a Z Y I0 gr (pc + 1) lv (vi x :: st) I e κ) : WQ_a Z Y I0 gr pc lv st I e κ :=
  WQ_a.go (fun _ B _ _ _ ls _ _ _ h kk => lv_iload_n B.1 B.2.1 d hj (lv_at h j' hl) (kk ls h)) k
theorem wq_aload_n_a {j x : Nat} {c : Fin 4} (d : decode Y.2.1 pc = .ok (.aload_n c, 1)) (j' : Nat) (hj : (c : Nat) = j) (hl : lv[j']? = some (j, .ref x)) (k : WQ_a Z Y I0 gr (pc + 1) lv (.ref x :: st) I e κ) : WQ_a Z Y I0 gr pc lv st I e κ :=
  WQ_a.go (fun _ B _ _ _ ls _ _ _ h kk => lv_aload_n B.1 B.2.1 d hj (lv_at h j' hl) (kk ls h)) k
theorem wq_istore_n_a {j : Nat} {x : Int} {lv' : List (Nat × Value)} {c : Fin 4} (d : decode Y.2.1 pc = .ok (.istore_n c, 1)) (hj : (c : Nat) = j) (hn : j < Y.2.2.1) (hl : stl j (vi x) lv = lv') (k : WQ_a Z Y I0 gr (pc + 1) lv' st I e κ) : WQ_a Z Y I0 gr pc lv (vi x :: st) I e κ :=
  WQ_a.go (fun _ B _ _ _ ls _ _ _ h kk => lv_istore_n B.1 B.2.1 d hj h hn hl (fun ls' h' => kk ls' h')) k
theorem wq_iinc_a {j : Nat} {n x : Int} {lv' : List (Nat × Value)} (d : decode Y.2.1 pc = .ok (.iinc j n, 3)) (j' : Nat) (hk : lv[j']? = some (j, vi x)) (hn : j < Y.2.2.1) (hl : stl j (vi (x + n)) lv = lv') (k : WQ_a Z Y I0 gr (pc + 3) lv' st I e κ) : WQ_a Z Y I0 gr pc lv st I e κ :=
  WQ_a.go (fun _ B _ _ _ ls _ _ _ h kk => lv_iinc B.1 B.2.1 d h (k := j') hk (i_add x n) hn hl (fun ls' h' => kk ls' h')) k
theorem wq_iadd_a {x y : Int} (d : decode Y.2.1 pc = .ok (.iadd, 1)) (k : WQ_a Z Y I0 gr (pc + 1) lv (vi (x + y) :: st) I e κ) : WQ_a Z Y I0 gr pc lv (vi y :: vi x :: st) I e κ :=
  WQ_a.go (fun _ B _ _ _ ls _ _ _ hl kk => lv_iadd B.1 B.2.1 d (by rw [i_add]; exact kk ls hl)) k
theorem wq_imul_a {x y : Int} (d : decode Y.2.1 pc = .ok (.imul, 1)) (k : WQ_a Z Y I0 gr (pc + 1) lv (vi (x * y) :: st) I e κ) : WQ_a Z Y I0 gr pc lv (vi y :: vi x :: st) I e κ :=
  WQ_a.go (fun _ B _ _ _ ls _ _ _ hl kk => lv_imul B.1 B.2.1 d (by rw [i_mul]; exact kk ls hl)) k
theorem wq_dup_a {v : Value} (d : decode Y.2.1 pc = .ok (.dup, 1)) (hv : v.category = 1) (k : WQ_a Z Y I0 gr (pc + 1) lv (v :: v :: st) I e κ) : WQ_a Z Y I0 gr pc lv (v :: st) I e κ :=
  WQ_a.go (fun _ B _ _ _ ls _ _ _ hl kk => lv_dup B.1 B.2.1 d hv (kk ls hl)) k
theorem wq_goto_a {off : Int} (tgt : Nat) (d : decode Y.2.1 pc = .ok (.goto off, 3)) (ht : (pc : Int) + off = (tgt : Int)) (k : WQ_a Z Y I0 gr tgt lv st I e κ) : WQ_a Z Y I0 gr pc lv st I e κ :=
  WQ_a.go (fun _ B _ _ _ ls _ _ _ hl kk => lv_goto B.1 B.2.1 d ht (kk ls hl)) k
theorem wq_if_eq_a {off x x' : Int} (tgt : Nat) (d : decode Y.2.1 pc = .ok (.ifCond .eq off, 3)) (ht : (pc : Int) + off = (tgt : Int)) (hx : w32 x = x') (k1 : x' = 0 → WQ_a Z Y I0 gr tgt lv st I e1 κ) (k2 : ¬ x' = 0 → WQ_a Z Y I0 gr (pc + 3) lv st I e2 κ) : WQ_a Z Y I0 gr pc lv (vi x :: st) I (if x' = 0 then e1 else e2) κ :=
  WQ_a.br (fun _ B _ _ _ ls _ _ _ _ h1 h2 => lv_if_eq B.1 B.2.1 d ht (fun q => h1 (by rw [← hx, ← w_0]; exact (w_eq x 0).mp q)) (fun q => h2 (fun r => q ((w_eq x 0).mpr (by rw [hx, r, w_0]))))) k1 k2
theorem wq_icmp_ge_a {off x y x' y' : Int} (tgt : Nat) (d : decode Y.2.1 pc = .ok (.if_icmp .ge off, 3)) (ht : (pc : Int) + off = (tgt : Int)) (hx : w32 x = x') (hy : w32 y = y') (k1 : x' < y' → WQ_a Z Y I0 gr (pc + 3) lv st I e1 κ) (k2 : ¬ x' < y' → WQ_a Z Y I0 gr tgt lv st I e2 κ) : WQ_a Z Y I0 gr pc lv (vi y :: vi x :: st) I (if x' < y' then e1 else e2) κ :=
  WQ_a.br (fun _ B _ _ _ ls _ _ _ _ h1 h2 => lv_icmp_ge B.1 B.2.1 d ht (fun q => h2 (by have := (w_le y x).mp q; rw [hx, hy] at this; exact this)) (fun q => h1 (by have := mt (w_le y x).mpr q; rw [hx, hy] at this; omega))) k1 k2
theorem wq_icmp_gt_a {off x y x' y' : Int} (tgt : Nat) (d : decode Y.2.1 pc = .ok (.if_icmp .gt off, 3)) (ht : (pc : Int) + off = (tgt : Int)) (hx : w32 x = x') (hy : w32 y = y') (k1 : y' < x' → WQ_a Z Y I0 gr tgt lv st I e1 κ) (k2 : ¬ y' < x' → WQ_a Z Y I0 gr (pc + 3) lv st I e2 κ) : WQ_a Z Y I0 gr pc lv (vi y :: vi x :: st) I (if y' < x' then e1 else e2) κ :=
  WQ_a.br (fun _ B _ _ _ ls _ _ _ _ h1 h2 => lv_icmp_gt B.1 B.2.1 d ht (fun q => h1 (by have := (w_lt y x).mp q; rw [hx, hy] at this; exact this)) (fun q => h2 (fun r => q ((w_lt y x).mpr (by rw [hx, hy]; exact r))))) k1 k2
theorem wq_icmp_le_a {off x y x' y' : Int} (tgt : Nat) (d : decode Y.2.1 pc = .ok (.if_icmp .le off, 3)) (ht : (pc : Int) + off = (tgt : Int)) (hx : w32 x = x') (hy : w32 y = y') (k1 : y' < x' → WQ_a Z Y I0 gr (pc + 3) lv st I e1 κ) (k2 : ¬ y' < x' → WQ_a Z Y I0 gr tgt lv st I e2 κ) : WQ_a Z Y I0 gr pc lv (vi y :: vi x :: st) I (if y' < x' then e1 else e2) κ :=
  WQ_a.br (fun _ B _ _ _ ls _ _ _ _ h1 h2 => lv_icmp_le B.1 B.2.1 d ht (fun q => h2 (by have := (w_le x y).mp q; rw [hx, hy] at this; exact this)) (fun q => h1 (by have := mt (w_le x y).mpr q; rw [hx, hy] at this; omega))) k1 k2
end ROWS
section MEMS
variable {Z : ZT} {Y : YT} {I0 : Mem} {gr : Nat → Nat} {pc : Nat} {lv : List (Nat × Value)} {st : List Value} {I : Mem} {α : Type} {e e1 e2 : Option (α × Mem)} {κ : α → Mem → Option OT}
theorem WQ_a.mem {J : Mem} {pc' : Nat} {lv' : List (Nat × Value)} {st' : List Value} (hc : ∀ s : Nat, J 30 0 s = I 30 0 s)
    (h : ∀ X : XT, Bd_a Z X Y → ∀ (o : OT) (H : Heap) (locs : List Loc) (ls : Array Slot) (cells slots : Nat), HHA_a Z gr I H → (∀ q ∈ locs, zN Z q.base) → lv_has ls Y.2.2.1 lv → (∀ (H1 : Heap) (locs1 : List Loc) (ls' : Array Slot), HHA_a Z gr J H1 → (∀ q ∈ locs1, zN Z q.base) → lv_has ls' Y.2.2.1 lv' → WX_a Z X Y I0 o H1 locs1 cells slots (F0 X.2.2.2.2.1 pc' ls' st')) → WX_a Z X Y I0 o H locs cells slots (F0 X.2.2.2.2.1 pc ls st))
    (k : WQ_a Z Y I0 gr pc' lv' st' J e κ) : WQ_a Z Y I0 gr pc lv st I e κ := by
  intro o ho
  have kk := k o ho
  refine ⟨⟨by rw [← hc]; exact kk.1.1, by rw [← hc]; exact kk.1.2⟩, fun X B hcl H locs ls hH hlo hl => ?_⟩
  have h1 := fun H1 locs1 ls' hH1 hlo1 hl' => kk.2 X B ⟨by rw [hc]; exact hcl.1, by rw [hc]; exact hcl.2⟩ H1 locs1 ls' hH1 hlo1 hl'
  rw [dC_eq hc, dS_eq hc] at h1
  exact h X B o H locs ls _ _ hH hlo hl h1
/-- a field is read -/
theorem wq_get_a {k i fk ci N index a : Nat} {C fn fd : String} {T : u_T} {fs : List Value} {v : Value} (he : ent Z gr I k i = .inr (ci, fs)) (hi : i < ksz_a k) (ha : adG Z gr k i = a) (hc : cls[ci]? = some (C, T, N)) (hin : ∀ w ∈ u_ws C T N, w ∈ lw_good) (hk : fk < N) (hT : T fk = (C, fn, fd, (T fk).2.2.2)) (hv : fs[fk]? = some v)
    (hln : Cond.fieldLink Y.1.cls index C fn fd ∈ lw_good) (d : decode Y.2.1 pc = .ok (.getfield index, 3)) (kk : WQ_a Z Y I0 gr (pc + 3) lv (v :: st) I e κ) : WQ_a Z Y I0 gr pc lv (.ref a :: st) I e κ := by
  refine WQ_a.go (fun X B o H locs ls cells slots hH hl k1 => ?_) kk
  have hat := hH.at hi
  rw [he, ha] at hat
  have h1 : (T fk).1 = C := by rw [hT]
  have h2 : (T fk).2.1 = fn := by rw [hT]
  have h3 : (T fk).2.2.1 = fd := by rw [hT]
  exact va_get (C := C) (T := T) (N := N) (ci := ci) (Ts := lw_good) B.1 B.2.1 (fun w hw => B.2.2.2.2.1 w hw) hin B.2.2.2.1 B.2.2.2.2.2.1.1 (va_P1 hat) 0 rfl hc fk hk (ref := C) (by rw [h2, h3]; exact B.2.2.2.2.1 _ hln) (fun x hx => by rw [h1] at hx; exact hx) hv d (k1 ls hl)
/-- a field of a number is written -/
theorem wq_put_a {k i fk ci N index a : Nat} {C fn fd : String} {T : u_T} {ty : Nat → FieldType} {fs : List Value} {x : Int} {f : Mem → Option (α × Mem)} {v : Value} (he : ent Z gr I k i = .inr (ci, fs)) (hset : ent Z gr (sI I k i fk x) k i = .inr (ci, fs.set fk v)) (hi : i < ksz_a k) (ha : adG Z gr k i = a) (hc : cls[ci]? = some (C, T, N)) (hin : ∀ w ∈ u_ws C T N, w ∈ lw_good)
    (hty : ∀ k, k < N → parseFieldDescriptor (T k).2.2.1 = some (ty k)) (hnm : ∀ a, a < N → ∀ b, b < N → a ≠ b → (T a).2.1 ≠ (T b).2.1) (hk : fk < N) (hT : T fk = (C, fn, fd, false)) (hl : fk < fs.length) (hn : narrow (ty fk) v = v) (hf : fits (ty fk) v = true) (h2 : ¬ (k = 2 ∧ fk = 2)) (h10 : ¬ (k = 10 ∧ fk = 2)) (h30 : k ≠ 30)
    (hln : Cond.fieldLink Y.1.cls index C fn fd ∈ lw_good) (d : decode Y.2.1 pc = .ok (.putfield index, 3)) (kk : ∀ J : Mem, WQ_a Z Y I0 gr (pc + 3) lv st J (f J) κ) : WQ_a Z Y I0 gr pc lv (v :: .ref a :: st) I (ltI (sI I k i fk x) f) κ := by
  refine WQ_a.mem (sI_30 h30) (fun X B o H locs ls cells slots hH hlo hl0 k1 => ?_) (kk _)
  have hat := hH.at hi
  rw [he, ha] at hat
  have e1 : (T fk).1 = C := by rw [hT]
  have e2 : (T fk).2.1 = fn := by rw [hT]
  have e3 : (T fk).2.2.1 = fd := by rw [hT]
  have e4 : (T fk).2.2.2 = false := by rw [hT]
  have hts : ∀ w ∈ lw_good, w.before X.2.2.2.2.2.1 X.2.2.2.1 = true := fun w hw => B.2.2.2.2.1 w hw
  have hK := B.2.2.2.2.2.1.1
  have hap := va_apart (own := Y.1.cls) hts hin ty hty hnm hK hc
  obtain ⟨r, h1, cell, q1, q2, q3, q4⟩ := hat
  have hr : r = (C, T, N) := Option.some.inj (h1.symm.trans hc)
  subst hr
  obtain ⟨hS, hfc, kC, hkC, hkind⟩ := hK.1 ci _ hc
  obtain ⟨cf, kf, fi, fl, hif, hsl⟩ := hS fk hk
  have hlay := hts _ (hin _ (u_in_lay hk))
  unfold u_lay at hlay
  rw [if_neg (by rw [e4]; decide)] at hlay
  have hst := (u_facts hfc hkC (u_lays hts hin hk) hif).1
  have h6 := u_store hfc hkC hkind hlay hif (hty fk hk) hn hf
  have hlnk := hts _ hln
  rw [← e2, ← e3] at hlnk
  have hif' : X.2.2.2.1.fieldFound? C (T fk).2.1 (T fk).2.2.1 = some (cf, kf, fi, fl) := by rw [← e1]; exact hif
  refine W.putK B.1 B.2.1 (f := fl) (ref := C) ⟨B.2.2.2.1, hlnk, ⟨_, _, _, hif'⟩, hst⟩ (by rw [q2]; exact h6) q1 q3 (by rw [hsl]; exact k2_hasslot (q4 fk hk)) rfl rfl d fun H' p1 p2 p3 => ?_
  rw [hsl] at p1 ⊢
  have hHn : HHA_a Z gr (sI I k i fk x) H' := by
    refine hH.upd hi p2 (by rw [ha]; exact p3) ?_ (fun k' i' hi' hne => sI_ent h2 h10 hne)
    rw [hset, ha]
    exact ⟨_, hc, t_OB.to (V := updV (vp_V fs) fk v) ⟨_, p1, q2, q3, t_set q4 hap hk v⟩ (fun j _ => vp_updV_set hl v j)⟩
  exact k1 H' _ ls hHn (locs_put hlo (by rw [← ha]; exact hH.2.2.1 k i hi)) hl0
/-- an array of references is read -/
theorem wq_aald_a {k i a n t0 : Nat} {C : String} {f : Nat → Nat} {j j' m : Int} {cA : ClassId} (he : ent Z gr I k i = arR cA n f) (ht : (tysOf Z)[t0]? = some (cA, .object C)) (hi : i < ksz_a k) (ha : adG Z gr k i = a) (hj : w32 j = j') (hin : 0 ≤ j' ∧ j' < m) (hm : m.toNat ≤ n) (d : decode Y.2.1 pc = .ok (.aaload, 1)) (kk : WQ_a Z Y I0 gr (pc + 1) lv (.ref (f j'.toNat) :: st) I e κ) : WQ_a Z Y I0 gr pc lv (vi j :: .ref a :: st) I e κ := by
  refine WQ_a.go (fun X B o H locs ls cells slots hH hl k1 => ?_) kk
  have hat := hH.at hi
  rw [he, ha] at hat
  refine va_aldq (cA := cA) (n := n) (f := fun j => some (f j)) B.1 B.2.1 B.2.2.2.2.2.1.1 (va_P1 hat) 0 t0 rfl ht (w_in hj hin hm) d ?_
  rw [w_nat hj]
  exact k1 ls hl
/-- an int array's element is written -/
theorem wq_iast_a {k i a n : Nat} {j j' m x : Int} {f : Mem → Option (α × Mem)} (he : ∀ J : Mem, (∀ i', J 2 i' 2 = I 2 i' 2) → ent Z gr J k i = arI (zC Z 0) n (J k i)) (hi : i < ksz_a k) (ha : adG Z gr k i = a) (hj : w32 j = j') (hin : 0 ≤ j' ∧ j' < m) (hm : m.toNat ≤ n) (h2 : k ≠ 2) (h10 : k ≠ 10) (h30 : k ≠ 30) (d : decode Y.2.1 pc = .ok (.iastore, 1)) (kk : ∀ J : Mem, WQ_a Z Y I0 gr (pc + 1) lv st J (f J) κ) : WQ_a Z Y I0 gr pc lv (vi x :: vi j :: .ref a :: st) I (ltI (sI I k i j'.toNat x) f) κ := by
  refine WQ_a.mem (sI_30 h30) (fun X B o H locs ls cells slots hH hlo hl k1 => ?_) (kk _)
  have hat := hH.at hi
  rw [he I (fun _ => rfl), ha] at hat
  have hat : H[a]? = some (vp_cell (zC Z 0) (n, .inl fun j => Int32.ofInt (I k i j))) := hat
  refine W.iast B.1 B.2.1 hat ((B.2.2.2.2.2.1.1.2 0 _ rfl).1 n (fun j => .int (Int32.ofInt (I k i j)))) (fun q => by cases q) (by show ¬ (_ < 0 ∨ (arrV _ _ _).slots.size ≤ _); rw [arrV_size]; exact w_in hj hin hm) rfl rfl d fun H1 e1 z oq => ?_
  have hHn : HHA_a Z gr (sI I k i j'.toNat x) H1 := by
    refine hH.upd hi z (by rw [ha]; exact oq) ?_ (fun k' i' hi' hne => sI_ent (fun q => h2 q.1) (fun q => h10 q.1) hne)
    rw [he _ (fun i' => sI_ne (fun q => h2 q.1.symm)), ha]
    show H1[a]? = some (vp_cell _ _)
    rw [e1, vp_cell_i, vp_cell_i, arrV_store, w_nat hj]
    congr 2
    funext q
    by_cases hq : q = j'.toNat
    · subst hq; simp [updV, sI]
    · simp [updV, hq, sI]
  exact k1 H1 _ ls hHn (locs_put hlo (by rw [← ha]; exact hH.2.2.1 k i hi)) hl
/-- an array's length -/
theorem wq_alen_a {k i a t0 : Nat} {ty : FieldType} {x : vp_A} {cA : ClassId} {m : Int} (he : ent Z gr I k i = .inl (cA, x)) (ht : (tysOf Z)[t0]? = some (cA, ty)) (hi : i < ksz_a k) (ha : adG Z gr k i = a) (hx : Int32.ofNat x.1 = Int32.ofInt m) (d : decode Y.2.1 pc = .ok (.arraylength, 1)) (kk : WQ_a Z Y I0 gr (pc + 1) lv (vi m :: st) I e κ) : WQ_a Z Y I0 gr pc lv (.ref a :: st) I e κ := by
  refine WQ_a.go (fun X B o H locs ls cells slots hH hl k1 => ?_) kk
  have hat := hH.at hi
  rw [he, ha] at hat
  exact va_alen (cA := cA) (x := x) B.1 B.2.1 B.2.2.2.2.2.1.1 (va_P1 hat) 0 t0 rfl ht hx d (k1 ls hl)
end MEMS
section CALLS
variable {Z : ZT} {Y : YT} {I0 : Mem} {gr : Nat → Nat} {pc : Nat} {lv : List (Nat × Value)} {st : List Value} {I : Mem} {α : Type} {e : Option (α × Mem)} {κ : α → Mem → Option OT}
theorem fb_Pcz_a {Z : ZT} {av : List Value} {I : Mem} : FrameBlind (Pcz_a Z av I) := fun a U g mk h => ⟨h.1, h.2.1, KK.same (s := U) (U := U.calling g mk a) rfl h.2.2⟩
theorem pc_at_a {Z : ZT} {X : XT} {Y : YT} (B : Bd_a Z X Y) {gr : Nat → Nat} {I : Mem} {H : Heap} {av : List Value} (hH : HHA_a Z gr I H) : ∀ U : State, U.heap = H → X.2.2.2.1.WarmedH U.vm → Pcz_a Z av I av.toArray U :=
  fun U hU hW => ⟨rfl, ⟨gr, by rw [hU]; exact hH⟩, B.2.2.2.2.2.1.warm hW⟩
/-- behind a call -/
theorem call_go_a {p : Program} {l : Launch} {e : Env} {R : Room} {s : State} {m : MethodId} {args : Array Value} {below : List Frame} {meth : Method} {c : Code} {H : Heap} {locs : List Loc} {cells slots mc ms : Nat} {Q : State → Prop} {pc : Nat} {ls : Array Slot} {rest st0 : List Value} {a : Array Value} {Z : ZT} {o1 : OV}
    (hr : va_Run p l e R s m args below meth c H locs cells slots mc ms (F0 m pc ls st0) rest (Qcz_a Z o1 a) (zN Z)) (hlo : ∀ q ∈ locs, zN Z q.base)
    (kk : ∀ (H1 : Heap) (locs1 : List Loc), HH_a Z o1.2 H1 → (∀ q ∈ locs1, zN Z q.base) → W p l e R s m args below meth c H1 locs1 (cells + mc) (slots + ms) Q (F0 m (pc + 3) ls (o1.1.toList ++ rest))) : W p l e R s m args below meth c H locs cells slots Q (F0 m pc ls st0) := by
  intro T hT X
  obtain ⟨v, st₀, t, T', L, h0, X', hL, e1, e2, ⟨hv, hh⟩, st⟩ := hr T hT X
  cases hv
  obtain ⟨t2, a1, b1⟩ := kk T'.heap (locs ++ L) (by rw [e1]; exact hh) (fun q hq => by
    rcases List.mem_append.mp hq with h | h
    · exact hlo q h
    · exact hL q h) T' rfl X'
  exact ⟨t2, st t2 a1, b1⟩
/-- a call's step, of any kind: from the road of the call itself -/
theorem WP_a.call {o : OT} {o1 : OV} {y' : MethodName} {cc' : ByteArray} {maxL' h' : Nat} {ret' : Option FieldType} {av rest : List Value} (hr : Runs_a Z y' cc' maxL' ret' h' av I o1)
    (h : ∀ X : XT, Bd_a Z X Y → ∀ (H : Heap) (locs : List Loc) (ls : Array Slot), HHA_a Z gr I H → ls.size = Y.2.2.1 → dC I0 I + dC I o1.2 ≤ dC I0 o.2 ∧ dS I0 I + dS I o1.2 ≤ dS I0 o.2 → va_Run X.1 X.2.1 X.2.2.1 (rmH Y.2.2.2.2 (dC I0 o.2) (dS I0 o.2)) X.2.2.2.1 X.2.2.2.2.1 X.2.2.2.2.2.1 X.2.2.2.2.2.2.1 X.2.2.2.2.2.2.2.1 X.2.2.2.2.2.2.2.2 H locs (dC I0 I) (dS I0 I) (dC I o1.2) (dS I o1.2) (F0 X.2.2.2.2.1 pc ls st) rest (Qcz_a Z o1 av.toArray) (zN Z))
    (k : ∀ gr' : Nat → Nat, WP_a Z Y I0 o gr' (pc + 3) lv (o1.1.toList ++ rest) o1.2) : WP_a Z Y I0 o gr pc lv st I := by
  have hc1 := hr.1
  have hc2 := (k gr).1
  refine ⟨hc1.trans hc2, fun X B hcl H locs ls hH hlo hl => ?_⟩
  have hle : dC I0 I + dC I o1.2 = dC I0 o1.2 ∧ dS I0 I + dS I o1.2 = dS I0 o1.2 := by
    unfold dC dS
    obtain ⟨q1, q2⟩ := hc1
    obtain ⟨q5, q6⟩ := hcl
    constructor <;> omega
  have hle2 : dC I0 o1.2 ≤ dC I0 o.2 ∧ dS I0 o1.2 ≤ dS I0 o.2 := by
    unfold dC dS
    obtain ⟨q1, q2⟩ := hc2
    constructor <;> omega
  refine call_go_a (h X B H locs ls hH hl.1 ⟨by rw [hle.1]; exact hle2.1, by rw [hle.2]; exact hle2.2⟩) hlo (fun H1 locs1 hH1 hlo1 => ?_)
  obtain ⟨gr', hH1⟩ := hH1
  have := (k gr').2 X B (hcl.trans hc1) H1 locs1 ls hH1 hlo1 hl
  rw [hle.1, hle.2]
  exact this
/-- invokevirtual of a method of its own class -/
theorem WP_a.callV {o : OT} {o1 : OV} {y' : MethodName} {cc' : ByteArray} {maxL' h' k i ci N index n a : Nat} {T : u_T} {ret' : Option FieldType} {fs As rest : List Value} (hr : Runs_a Z y' cc' maxL' ret' h' (.ref a :: As) I o1)
    (he : ent Z gr I k i = .inr (ci, fs)) (hi : i < ksz_a k) (ha : adG Z gr k i = a) (hc : cls[ci]? = some (y'.cls, T, N)) (hn : As.length = n) (hst : st = As.reverse ++ .ref a :: rest) (hh : h' < Y.2.2.2.2) (hm : maxL' ≤ 16) (hw : (rest.map fun v => v.category).sum ≤ 8)
    (hcode : Cond.code y' cc' maxL' ret' ∈ lw_good) (hlink : Cond.methodLink Y.1.cls index y' ∈ lw_good) (hinst : Cond.instanceMethod y' ∈ lw_good) (hsel : Cond.selects y'.cls y' y' ∈ lw_good) (hini : Cond.initialized y'.cls ∈ lw_good)
    (hd : y'.cls ≠ "java/lang/invoke/MethodHandle" ∧ y'.cls ≠ "java/lang/invoke/VarHandle" ∧ (parseMethodDescriptor y'.desc).map (fun d => d.parameters.length) = some n) (d : decode Y.2.1 pc = .ok (.invokevirtual index, 3))
    (k : ∀ gr' : Nat → Nat, WP_a Z Y I0 o gr' (pc + 3) lv (o1.1.toList ++ rest) o1.2) : WP_a Z Y I0 o gr pc lv st I := by
  refine WP_a.call hr (fun X B H locs ls hH hls hroom => ?_) k
  have hat := hH.at hi
  rw [he, ha] at hat
  have hrecv := va_recv (q0 := 0) B.2.2.2.2.2.1.1 (va_P1 hat) hc rfl
  have hG : GoodIn lw_good (wsV Y.1.cls index y'.cls y' (wsAll y' cc' maxL' ret')) := by
    intro w hw
    rcases List.mem_append.mp hw with hw | hw
    · have hm : w ∈ lw_good := by
        simp only [List.mem_cons, List.mem_nil_iff, or_false] at hw
        rcases hw with rfl | rfl | rfl | rfl <;> assumption
      exact ⟨hm, good_of_word (List.mem_filter.mp hm).2⟩
    · exact goodAll hcode w hw
  exact va_runV (cc := Y.2.1) (nL := Y.2.2.1) (Ts := lw_good) (own := Y.1.cls) (As := As) (n := n) ⟨B.1, B.2.1, B.2.2.1, B.2.2.2.1, B.2.2.2.2.1⟩ (hr.2 X.2.1 B.2.2.2.2.2.2.2.2.1) (cwV n B.2.2.2.2.1 hG rfl rfl rfl ⟨rfl, hd⟩ (room_ok hh hm)) ⟨fb_Pcz_a, hrecv, pc_at_a B hH⟩ rfl hn hls hst (lv_room hw) d hroom
theorem wq_callV_a {β : Type} {rv : β → Option Value} {f : Option (β × Mem)} {K : β → Mem → Option (α × Mem)} {y' : MethodName} {cc' : ByteArray} {maxL' h' k i ci N index n a : Nat} {T : u_T} {ret' : Option FieldType} {fs As rest : List Value} (hM : MwV y' cc' maxL' ret' n) (hr : ∀ (r : β) (J : Mem), f = some (r, J) → Runs_a Z y' cc' maxL' ret' h' (.ref a :: As) I (rv r, J))
    (he : ent Z gr I k i = .inr (ci, fs)) (hi : i < ksz_a k) (ha : adG Z gr k i = a) (hc : cls[ci]? = some (y'.cls, T, N)) (hn : As.length = n) (hst : st = As.reverse ++ .ref a :: rest) (hh : h' < Y.2.2.2.2) (hm : maxL' ≤ 16) (hw : (rest.map fun v => v.category).sum ≤ 8)
    (hlink : Cond.methodLink Y.1.cls index y' ∈ lw_good) (d : decode Y.2.1 pc = .ok (.invokevirtual index, 3))
    (kk : ∀ (gr' : Nat → Nat) (r : β) (J : Mem), WQ_a Z Y I0 gr' (pc + 3) lv ((rv r).toList ++ rest) J (K r J) κ) : WQ_a Z Y I0 gr pc lv st I (bnd f K) κ := by
  intro o ho
  cases hf : f with
  | none => rw [hf] at ho; cases ho
  | some q =>
    obtain ⟨r, J⟩ := q
    rw [hf] at ho
    exact WP_a.callV (hr r J hf) he hi ha hc hn hst hh hm hw hM.1 hlink hM.2.1 hM.2.2.1 hM.2.2.2.1 hM.2.2.2.2 d (fun gr' => kk gr' r J o ho)
theorem wq_zret_a {x : Int} {b : α} (hr : Y.2.2.2.1 = some .boolean) (hx : x = 0 ∨ x = 1) (h : κ b I = some (.inl (some (vi x)), I)) (d : decode Y.2.1 pc = .ok (.ireturn, 1)) : WQ_a Z Y I0 gr pc lv [vi x] I (some (b, I)) κ := by
  intro o ho
  have ho : some o = some (.inl (some (vi x)), I) := ho.symm.trans h
  cases ho
  refine ⟨cle.refl I, fun X B hcl H locs ls hH hlo hl => ?_⟩
  exact W.zret (hlocks := B.2.2.2.2.2.2.2.1) B.1 B.2.1 (B.2.2.2.2.2.2.1.trans hr) (by rcases hx with rfl | rfl <;> rfl) (fun t ht _ => ⟨rfl, gr, by rw [ht]; exact hH⟩) hlo d
theorem wq_vret_a {b : α} (hr : Y.2.2.2.1 = none) (h : κ b I = some (.inl none, I)) (d : decode Y.2.1 pc = .ok (.return_, 1)) : WQ_a Z Y I0 gr pc lv [] I (some (b, I)) κ := by
  intro o ho
  have ho : some o = some (.inl none, I) := ho.symm.trans h
  cases ho
  refine ⟨cle.refl I, fun X B hcl H locs ls hH hlo hl => ?_⟩
  exact W.vret (hlocks := B.2.2.2.2.2.2.2.1) B.1 B.2.1 (B.2.2.2.2.2.2.1.trans hr) (fun t ht _ => ⟨rfl, gr, by rw [ht]; exact hH⟩) hlo d
/-- a method's entry -/
theorem Runs_a.of {β : Type} {rv : β → Option Value} {r : β} {J : Mem} {f : Option (β × Mem)} {y : MethodName} {cc : ByteArray} {maxL h : Nat} {ret : Option FieldType} {av : List Value} (hy : (plainName y.cls && (xtb y).isEmpty) = true) (hlen : (lg_sl av).length ≤ maxL) (hf : f = some (r, J))
    (k : ∀ gr : Nat → Nat, WQ_a Z (y, cc, maxL, ret, h) I gr 0 (lv_args 0 av) [] I f (fun b K => some (.inl (rv b), K))) : Runs_a Z y cc maxL ret h av I (rv r, J) := by
  have k := fun gr => k gr (.inl (rv r), J) (by rw [hf]; rfl)
  refine ⟨(k (fun _ => 0)).1, fun l hfl => ?_⟩
  rw [Bool.and_eq_true] at hy
  refine Met.ofW (cc := cc) (maxL := maxL) (ret := ret) hy.1 rfl ?_
  intro p e s m args below meth c s₁ B hml hv
  have htb := tab_nil (ws := wsAll y cc maxL ret) B List.mem_cons_self hy.2
  obtain ⟨rfl, ⟨gr, hH⟩, hKK⟩ := hv
  have hts : ∀ w ∈ lw_good, w.before av.toArray s = true := fun w hw => atoms_spec (ws := wsAll y cc maxL ret) B.pre w (List.mem_cons_of_mem _ hw)
  have hown := findClass_of_methodNamed B.named
  have hl := lv_entry av (n := maxL) hlen
  rw [lg_entry_eq]
  have hk := (k gr).2 (p, l, e, s, m, av.toArray, below, meth, c) ⟨B.exec, B.bytes, hml, hown, hts, hKK, B.returns, B.notSynchronized, hfl, htb, I, gr, hH⟩ (cle.refl I) s.heap [] _ hH (fun q hq => by cases hq) hl
  have e1 : dC I I = 0 := by unfold dC; omega
  have e2 : dS I I = 0 := by unfold dS; omega
  rw [e1, e2] at hk
  exact hk
end CALLS
section LOOPS
variable {Z : ZT} {Y : YT} {I0 : Mem} {pc : Nat} {lv : List (Nat × Value)} {I : Mem}
/-- a loop, at its head: the locals are a picture of what it carries -/
theorem wq_loop_a {σ ρ : Type} {step : σ → Mem → Option ((σ ⊕ ρ) × Mem)} {κ : ρ → Mem → Option OT} (lvf : σ → List (Nat × Value))
    (hb : ∀ κ2 : σ ⊕ ρ → Mem → Option OT, (∀ (gr : Nat → Nat) (s : σ) (J : Mem), WQ_a Z Y I0 gr pc (lvf s) [] J (some (.inl s, J)) κ2) → (∀ (r : ρ) (J : Mem), κ2 (.inr r) J = κ r J) → ∀ (gr : Nat → Nat) (s : σ) (J : Mem), WQ_a Z Y I0 gr pc (lvf s) [] J (step s J) κ2) (gr : Nat → Nat) (s : σ) (h : lvf s = lv) : WQ_a Z Y I0 gr pc lv [] I (whl step s I) κ := by
  subst h
  have key : ∀ (n : Nat) (gr : Nat → Nat) (s : σ) (J : Mem) (q : ρ × Mem) (o : OT), whN step n s J = some q → κ q.1 q.2 = some o → WP_a Z Y I0 o gr pc (lvf s) [] J := by
    intro n
    induction n with
    | zero => intro gr s J q o h; cases h
    | succ n ih =>
      intro gr s J q o h ho
      have hb' := hb (fun x K => match x with
        | .inl s' => (match whN step n s' K with
          | none => none
          | some q => κ q.1 q.2)
        | .inr r => κ r K) ?_ (fun _ _ => rfl) gr s J o ?_
      · exact hb'
      · intro gr' s' K o' ho'
        cases hw : whN step n s' K with
        | none =>
          have : (match whN step n s' K with
            | none => none
            | some q => κ q.1 q.2) = some o' := ho'
          rw [hw] at this; cases this
        | some q' =>
          have : (match whN step n s' K with
            | none => none
            | some q => κ q.1 q.2) = some o' := ho'
          rw [hw] at this
          exact ih gr' s' K q' o' hw this
      · unfold whN at h
        cases hs : step s J with
        | none => rw [hs] at h; cases h
        | some x =>
          obtain ⟨x, K⟩ := x
          rw [hs] at h
          cases x with
          | inl s' =>
            have h : whN step n s' K = some q := h
            show (match whN step n s' K with
            | none => none
            | some q => κ q.1 q.2) = some o
            rw [h]; exact ho
          | inr r =>
            have h : some (r, K) = some q := h
            cases h
            exact ho
  intro o ho
  cases hw : whl step s I with
  | none => rw [hw] at ho; cases ho
  | some q =>
    rw [hw] at ho
    obtain ⟨n, hn⟩ := whl_iff.mp hw
    exact key n gr s I q o hn ho
end LOOPS
section PRIMS
variable {Z : ZT} {Y : YT} {I0 : Mem} {gr : Nat → Nat} {pc : Nat} {lv : List (Nat × Value)} {st : List Value} {I : Mem} {α : Type} {e e1 e2 : Option (α × Mem)} {κ : α → Mem → Option OT}
theorem WQ_a.lt {β : Type} {x : β} {f : β → Option (α × Mem)} (k : WQ_a Z Y I0 gr pc lv st I (f x) κ) : WQ_a Z Y I0 gr pc lv st I (ltI x f) κ := k
theorem wq_min_a {x y : Int} {index : Nat} (hh : 1 ≤ Y.2.2.2.2) (hw : (st.map fun v => v.category).sum ≤ 8) (hln : Cond.methodLink Y.1.cls index Lib.Math.min.name ∈ lw_good) (hst : Cond.static Lib.Math.min.name ∈ lw_good) (hin : Cond.initialized "java/lang/Math" ∈ lw_good) (hco : Cond.code Lib.Math.min.name Lib.Math.min.code 2 (some .int) ∈ lw_good) (d : decode Y.2.1 pc = .ok (.invokestatic index, 3)) (k : WQ_a Z Y I0 gr (pc + 3) lv (vi (imn x y) :: st) I e κ) : WQ_a Z Y I0 gr pc lv (vi y :: vi x :: st) I e κ := by
  intro o ho
  have k := k o ho
  refine ⟨k.1, fun X B hc H locs ls hH hlo hl => ?_⟩
  have hw1 := fun w (hw : w ∈ lw_good) => B.2.2.2.2.1 w hw
  have hle : dC I0 I ≤ dC I0 o.2 ∧ dS I0 I ≤ dS I0 o.2 := by
    unfold dC dS; obtain ⟨q1, q2⟩ := k.1; constructor <;> omega
  refine va_mmin B.1 B.2.1 (B.2.2.1.trans hl.1.symm) B.2.2.2.1 (hw1 _ hln) (hw1 _ hst) (hw1 _ hin) (hw1 _ hco) hh (lhs_sum hw hh) hle.1 hle.2 d ?_
  have h := k.2 X B hc H locs ls hH hlo hl
  have e1 : (if Int32.ofInt y < Int32.ofInt x then Int32.ofInt y else Int32.ofInt x) = Int32.ofInt (imn x y) := by
    unfold imn; by_cases q : w32 y < w32 x
    · rw [if_pos q, if_pos ((w_lt y x).mpr q)]
    · rw [if_neg q, if_neg (fun r => q ((w_lt y x).mp r))]
  rw [e1]; exact h
def Ob_a (Z : ZT) (gr : Nat → Nat) (I : Mem) (a : Nat) (C : String) : Prop := ∃ (k i ci N : Nat) (T : u_T) (fs : List Value), ent Z gr I k i = .inr (ci, fs) ∧ i < ksz_a k ∧ adG Z gr k i = a ∧ cls[ci]? = some (C, T, N)
theorem wq_cV_a {β : Type} {rv : β → Option Value} {f : Option (β × Mem)} {K : β → Mem → Option (α × Mem)} {y' : MethodName} {cc' : ByteArray} {maxL' h' index n a : Nat} {ret' : Option FieldType} {As rest : List Value} (hM : MwV y' cc' maxL' ret' n) (hr : ∀ (r : β) (J : Mem), f = some (r, J) → Runs_a Z y' cc' maxL' ret' h' (.ref a :: As) I (rv r, J))
    (hO : Ob_a Z gr I a y'.cls) (hn : As.length = n) (hst : st = As.reverse ++ .ref a :: rest) (hh : h' < Y.2.2.2.2) (hm : maxL' ≤ 16) (hw : (rest.map fun v => v.category).sum ≤ 8)
    (hlink : Cond.methodLink Y.1.cls index y' ∈ lw_good) (d : decode Y.2.1 pc = .ok (.invokevirtual index, 3))
    (kk : ∀ (gr' : Nat → Nat) (r : β) (J : Mem), WQ_a Z Y I0 gr' (pc + 3) lv ((rv r).toList ++ rest) J (K r J) κ) : WQ_a Z Y I0 gr pc lv st I (bnd f K) κ := by
  obtain ⟨k, i, ci, N, T, fs, h1, h2, h3, h4⟩ := hO
  exact wq_callV_a hM hr h1 h2 h3 h4 hn hst hh hm hw hlink d kk
theorem wq_cVi_a {f : Option (Int × Mem)} {K : Int → Mem → Option (α × Mem)} {y' : MethodName} {cc' : ByteArray} {maxL' h' index n a : Nat} {ret' : Option FieldType} {As rest : List Value} (hM : MwV y' cc' maxL' ret' n) (hr : ∀ (r : Int) (J : Mem), f = some (r, J) → Runs_a Z y' cc' maxL' ret' h' (.ref a :: As) I (some (vi r), J))
    (hO : Ob_a Z gr I a y'.cls) (hn : As.length = n) (hst : st = As.reverse ++ .ref a :: rest) (hh : h' < Y.2.2.2.2) (hm : maxL' ≤ 16) (hw : (rest.map fun v => v.category).sum ≤ 8)
    (hlink : Cond.methodLink Y.1.cls index y' ∈ lw_good) (d : decode Y.2.1 pc = .ok (.invokevirtual index, 3))
    (kk : ∀ (gr' : Nat → Nat) (r : Int) (J : Mem), WQ_a Z Y I0 gr' (pc + 3) lv (vi r :: rest) J (K r J) κ) : WQ_a Z Y I0 gr pc lv st I (bnd f K) κ := wq_cV_a (rv := fun r => some (vi r)) hM hr hO hn hst hh hm hw hlink d kk
theorem wq_cVv_a {f : Option (Unit × Mem)} {K : Unit → Mem → Option (α × Mem)} {y' : MethodName} {cc' : ByteArray} {maxL' h' index n a : Nat} {ret' : Option FieldType} {As rest : List Value} (hM : MwV y' cc' maxL' ret' n) (hr : ∀ (r : Unit) (J : Mem), f = some (r, J) → Runs_a Z y' cc' maxL' ret' h' (.ref a :: As) I (none, J))
    (hO : Ob_a Z gr I a y'.cls) (hn : As.length = n) (hst : st = As.reverse ++ .ref a :: rest) (hh : h' < Y.2.2.2.2) (hm : maxL' ≤ 16) (hw : (rest.map fun v => v.category).sum ≤ 8)
    (hlink : Cond.methodLink Y.1.cls index y' ∈ lw_good) (d : decode Y.2.1 pc = .ok (.invokevirtual index, 3))
    (kk : ∀ (gr' : Nat → Nat) (r : Unit) (J : Mem), WQ_a Z Y I0 gr' (pc + 3) lv rest J (K r J) κ) : WQ_a Z Y I0 gr pc lv st I (bnd f K) κ := wq_cV_a (rv := fun _ => none) hM hr hO hn hst hh hm hw hlink d kk
end PRIMS
section MORE
variable {Z : ZT} {Y : YT} {I0 : Mem} {gr : Nat → Nat} {pc : Nat} {lv : List (Nat × Value)} {st : List Value} {I : Mem} {α : Type} {e : Option (α × Mem)} {κ : α → Mem → Option OT}
theorem wq_loopS_a {σ ρ : Type} {step : σ → Mem → Option ((σ ⊕ ρ) × Mem)} {K : ρ → Mem → Option (α × Mem)} (lvf : σ → List (Nat × Value)) (xpc : Nat) (lvx : ρ → List (Nat × Value))
    (hb : ∀ κ2 : σ ⊕ ρ → Mem → Option OT, (∀ (gr : Nat → Nat) (s : σ) (J : Mem), WQ_a Z Y I0 gr pc (lvf s) [] J (some (.inl s, J)) κ2) → (∀ (gr : Nat → Nat) (r : ρ) (J : Mem), WQ_a Z Y I0 gr xpc (lvx r) [] J (some (.inr r, J)) κ2) → ∀ (gr : Nat → Nat) (s : σ) (J : Mem), WQ_a Z Y I0 gr pc (lvf s) [] J (step s J) κ2)
    (hx : ∀ (gr : Nat → Nat) (r : ρ) (J : Mem), WQ_a Z Y I0 gr xpc (lvx r) [] J (K r J) κ) (gr : Nat → Nat) (s : σ) (h : lvf s = lv) : WQ_a Z Y I0 gr pc lv [] I (bnd (whl step s I) K) κ := by
  refine WQ_a.assoc ?_
  refine wq_loop_a lvf (fun κ2 back hr gr s J => ?_) gr s h
  refine hb κ2 back (fun gr r J => ?_) gr s J
  intro o ho
  exact hx gr r J o ((hr r J).symm.trans ho)
end MORE
section WRAP
variable {Z : ZT} {Y : YT} {I0 : Mem} {gr : Nat → Nat} {pc : Nat} {lv : List (Nat × Value)} {st : List Value} {I : Mem} {α : Type} {e : Option (α × Mem)} {κ : α → Mem → Option OT}
theorem ob_1_a {i : Nat} (hi : i < 12) : Ob_a Z gr I (zA Z 1 i) RX1 := ⟨1, i, 1, 10, TX1, _, rfl, hi, rfl, rfl⟩
theorem g_1_0_a {i : Nat} (hi : i < 12) {index : Nat} (hln : Cond.fieldLink Y.1.cls index RX1 "start" "LPairRules$Row;" ∈ lw_good) (d : decode Y.2.1 pc = .ok (.getfield index, 3)) (kk : WQ_a Z Y I0 gr (pc + 3) lv (vr Z 2 (43 * i) :: st) I e κ) : WQ_a Z Y I0 gr pc lv (vr Z 1 i :: st) I e κ :=
  wq_get_a (k := 1) (i := i) (fk := 0) (ci := 1) (N := 10) (T := TX1) rfl hi rfl rfl in_1 (by decide) rfl rfl hln d kk
theorem g_1_1_a {i : Nat} (hi : i < 12) {index : Nat} (hln : Cond.fieldLink Y.1.cls index RX1 "told" "LPairRules$Row;" ∈ lw_good) (d : decode Y.2.1 pc = .ok (.getfield index, 3)) (kk : WQ_a Z Y I0 gr (pc + 3) lv (vr Z 2 (43 * i + 1) :: st) I e κ) : WQ_a Z Y I0 gr pc lv (vr Z 1 i :: st) I e κ :=
  wq_get_a (k := 1) (i := i) (fk := 1) (ci := 1) (N := 10) (T := TX1) rfl hi rfl rfl in_1 (by decide) rfl rfl hln d kk
theorem g_1_2_a {i : Nat} (hi : i < 12) {index : Nat} (hln : Cond.fieldLink Y.1.cls index RX1 "bodies" "[LPairRules$Row;" ∈ lw_good) (d : decode Y.2.1 pc = .ok (.getfield index, 3)) (kk : WQ_a Z Y I0 gr (pc + 3) lv (vr Z 13 i :: st) I e κ) : WQ_a Z Y I0 gr pc lv (vr Z 1 i :: st) I e κ :=
  wq_get_a (k := 1) (i := i) (fk := 2) (ci := 1) (N := 10) (T := TX1) rfl hi rfl rfl in_1 (by decide) rfl rfl hln d kk
theorem g_1_4_a {i : Nat} (hi : i < 12) {index : Nat} (hln : Cond.fieldLink Y.1.cls index RX1 "lengths" "[I" ∈ lw_good) (d : decode Y.2.1 pc = .ok (.getfield index, 3)) (kk : WQ_a Z Y I0 gr (pc + 3) lv (vr Z 14 i :: st) I e κ) : WQ_a Z Y I0 gr pc lv (vr Z 1 i :: st) I e κ :=
  wq_get_a (k := 1) (i := i) (fk := 4) (ci := 1) (N := 10) (T := TX1) rfl hi rfl rfl in_1 (by decide) rfl rfl hln d kk
theorem g_1_5_a {i : Nat} (hi : i < 12) {index : Nat} (hln : Cond.fieldLink Y.1.cls index RX1 "accounts" "[I" ∈ lw_good) (d : decode Y.2.1 pc = .ok (.getfield index, 3)) (kk : WQ_a Z Y I0 gr (pc + 3) lv (vr Z 15 i :: st) I e κ) : WQ_a Z Y I0 gr pc lv (vr Z 1 i :: st) I e κ :=
  wq_get_a (k := 1) (i := i) (fk := 5) (ci := 1) (N := 10) (T := TX1) rfl hi rfl rfl in_1 (by decide) rfl rfl hln d kk
theorem p_1_6_a {i : Nat} (hi : i < 12) {index : Nat} {x : Int} {f : Mem → Option (α × Mem)} (hln : Cond.fieldLink Y.1.cls index RX1 "least" "I" ∈ lw_good) (d : decode Y.2.1 pc = .ok (.putfield index, 3)) (kk : ∀ J : Mem, WQ_a Z Y I0 gr (pc + 3) lv st J (f J) κ) : WQ_a Z Y I0 gr pc lv (vi x :: vr Z 1 i :: st) I (ltI (sI I 1 i 6 x) f) κ :=
  wq_put_a (k := 1) (i := i) (fk := 6) (ci := 1) (N := 10) (T := TX1) (v := vi x) rfl (by simp [ent, sI]) hi rfl rfl in_1 tyX1_ok nmX1 (by decide) rfl (Nat.le_of_ble_eq_true rfl) rfl rfl (by decide) (by decide) (by decide) hln d kk
theorem p_1_7_a {i : Nat} (hi : i < 12) {index : Nat} {x : Int} {f : Mem → Option (α × Mem)} (hln : Cond.fieldLink Y.1.cls index RX1 "tie" "I" ∈ lw_good) (d : decode Y.2.1 pc = .ok (.putfield index, 3)) (kk : ∀ J : Mem, WQ_a Z Y I0 gr (pc + 3) lv st J (f J) κ) : WQ_a Z Y I0 gr pc lv (vi x :: vr Z 1 i :: st) I (ltI (sI I 1 i 7 x) f) κ :=
  wq_put_a (k := 1) (i := i) (fk := 7) (ci := 1) (N := 10) (T := TX1) (v := vi x) rfl (by simp [ent, sI]) hi rfl rfl in_1 tyX1_ok nmX1 (by decide) rfl (Nat.le_of_ble_eq_true rfl) rfl rfl (by decide) (by decide) (by decide) hln d kk
theorem p_1_8_a {i : Nat} (hi : i < 12) {index : Nat} {x : Int} {f : Mem → Option (α × Mem)} (hln : Cond.fieldLink Y.1.cls index RX1 "inlines" "I" ∈ lw_good) (d : decode Y.2.1 pc = .ok (.putfield index, 3)) (kk : ∀ J : Mem, WQ_a Z Y I0 gr (pc + 3) lv st J (f J) κ) : WQ_a Z Y I0 gr pc lv (vi x :: vr Z 1 i :: st) I (ltI (sI I 1 i 8 x) f) κ :=
  wq_put_a (k := 1) (i := i) (fk := 8) (ci := 1) (N := 10) (T := TX1) (v := vi x) rfl (by simp [ent, sI]) hi rfl rfl in_1 tyX1_ok nmX1 (by decide) rfl (Nat.le_of_ble_eq_true rfl) rfl rfl (by decide) (by decide) (by decide) hln d kk
theorem p_1_9_a {i : Nat} (hi : i < 12) {index : Nat} {x : Int} {f : Mem → Option (α × Mem)} (hln : Cond.fieldLink Y.1.cls index RX1 "rulesAtFirst" "I" ∈ lw_good) (d : decode Y.2.1 pc = .ok (.putfield index, 3)) (kk : ∀ J : Mem, WQ_a Z Y I0 gr (pc + 3) lv st J (f J) κ) : WQ_a Z Y I0 gr pc lv (vi x :: vr Z 1 i :: st) I (ltI (sI I 1 i 9 x) f) κ :=
  wq_put_a (k := 1) (i := i) (fk := 9) (ci := 1) (N := 10) (T := TX1) (v := vi x) rfl (by simp [ent, sI]) hi rfl rfl in_1 tyX1_ok nmX1 (by decide) rfl (Nat.le_of_ble_eq_true rfl) rfl rfl (by decide) (by decide) (by decide) hln d kk
theorem ob_2_a {i : Nat} (hi : i < 516) : Ob_a Z gr I (zA Z 2 i) RX5 := ⟨2, i, 2, 2, TX5, _, rfl, hi, rfl, rfl⟩
theorem g_2_0_a {i : Nat} (hi : i < 516) {index : Nat} (hln : Cond.fieldLink Y.1.cls index RX5 "cells" "[I" ∈ lw_good) (d : decode Y.2.1 pc = .ok (.getfield index, 3)) (kk : WQ_a Z Y I0 gr (pc + 3) lv (.ref (gr i) :: st) I e κ) : WQ_a Z Y I0 gr pc lv (vr Z 2 i :: st) I e κ :=
  wq_get_a (k := 2) (i := i) (fk := 0) (ci := 2) (N := 2) (T := TX5) rfl hi rfl rfl in_2 (by decide) rfl rfl hln d kk
theorem g_2_1_a {i : Nat} (hi : i < 516) {index : Nat} (hln : Cond.fieldLink Y.1.cls index RX5 "many" "I" ∈ lw_good) (d : decode Y.2.1 pc = .ok (.getfield index, 3)) (kk : WQ_a Z Y I0 gr (pc + 3) lv (vi (I 2 i 1) :: st) I e κ) : WQ_a Z Y I0 gr pc lv (vr Z 2 i :: st) I e κ :=
  wq_get_a (k := 2) (i := i) (fk := 1) (ci := 2) (N := 2) (T := TX5) rfl hi rfl rfl in_2 (by decide) rfl rfl hln d kk
theorem p_2_1_a {i : Nat} (hi : i < 516) {index : Nat} {x : Int} {f : Mem → Option (α × Mem)} (hln : Cond.fieldLink Y.1.cls index RX5 "many" "I" ∈ lw_good) (d : decode Y.2.1 pc = .ok (.putfield index, 3)) (kk : ∀ J : Mem, WQ_a Z Y I0 gr (pc + 3) lv st J (f J) κ) : WQ_a Z Y I0 gr pc lv (vi x :: vr Z 2 i :: st) I (ltI (sI I 2 i 1 x) f) κ :=
  wq_put_a (k := 2) (i := i) (fk := 1) (ci := 2) (N := 2) (T := TX5) (v := vi x) rfl (by simp [ent, sI]) hi rfl rfl in_2 tyX5_ok nmX5 (by decide) rfl (Nat.le_of_ble_eq_true rfl) rfl rfl (by decide) (by decide) (by decide) hln d kk
end WRAP
section GROW2
variable {Z : ZT} {Y : YT} {I0 : Mem} {gr : Nat → Nat} {pc : Nat} {lv : List (Nat × Value)} {st : List Value} {I : Mem} {α : Type} {e : Option (α × Mem)} {κ : α → Mem → Option OT}
/-- a new array in the place of a row's: from the making of it to behind the store -/
theorem wq_growR_a {r : Nat} {h : Nat} {n n' m' : Int} {lv' : List (Nat × Value)} {f : Mem → Option (α × Mem)} (hr : r < 516) (hY : Y = (yX5_makeRoom, cX5_makeRoom, 4, some .boolean, h)) (hh : 1 ≤ h) (h0 : lv[0]? = some (0, vr Z 2 r)) (hl' : stl 3 (.ref 0) lv = (3, .ref 0) :: lv') (hl0 : lv'[0]? = some (0, vr Z 2 r)) (hn : w32 n = n') (hm : w32 (I 2 r 1) = m') (hg : 0 ≤ n' ∧ n' ≤ 262144 ∧ 0 ≤ m' ∧ m' ≤ I 2 r 2 ∧ m' ≤ n')
    (kk : ∀ (gr' : Nat → Nat) (J : Mem), WQ_a Z Y I0 gr' 73 lv' [] J (f J) κ) : WQ_a Z Y I0 gr 51 lv [vi n] I (ltI (grw I 12 2 r n' m') f) κ := by
  subst hY
  intro o ho
  obtain ⟨J, hJ⟩ : ∃ J, J = grw I 12 2 r n' m' := ⟨_, rfl⟩
  have hk := fun gr' => kk gr' J o (by rw [hJ]; exact ho)
  obtain ⟨g1, g2, g3, g4, g5⟩ := hg
  have hJc : J 30 0 0 = I 30 0 0 + 1 := by rw [hJ]; rfl
  have hJs : J 30 0 1 = I 30 0 1 + n' := by rw [hJ]; rfl
  have hc1 : cle I J := ⟨by omega, by omega⟩
  have hc2 := (hk gr).1
  refine ⟨hc1.trans hc2, fun X B hcl H locs ls hH hlo hl => ?_⟩
  have hroom : dC I0 I + 1 = dC I0 J ∧ dS I0 I + n'.toNat = dS I0 J ∧ dC I0 J ≤ dC I0 o.2 ∧ dS I0 J ≤ dS I0 o.2 := by
    unfold dC dS
    obtain ⟨q1, q2⟩ := hcl
    obtain ⟨q3, q4⟩ := hc2
    refine ⟨?_, ?_, ?_, ?_⟩ <;> omega
  obtain ⟨r1, r2, r3, r4⟩ := hroom
  have hw1 := fun w (hw : w ∈ lw_good) => B.2.2.2.2.1 w hw
  have hK := B.2.2.2.2.2.1.1
  have hnn := w_nn hn g1
  have hob := hH.at (k := 2) (i := r) hr
  have hcc : H[gr r]? = some (vp_cell (zC Z 0) ((I 2 r 2).toNat, .inl fun j => Int32.ofInt (I 12 r j))) := hH.at (k := 12) (i := r) hr
  refine va_newaK (atype := .int) B.1 B.2.1 (hw1 _ (li_1 57 (by decide +kernel) (by decide +kernel))) rfl dX5_makeRoom_51 rfl hnn (w_nat hn) (by show n'.toNat * 4 ≤ _; omega) (by show dC I0 I + 1 ≤ dC I0 o.2; omega) (by show dS I0 I + n'.toNat ≤ dS I0 o.2; omega) rfl (fun H1 cA e1 z1 o1 hAr hNm => ?_)
  have hcA : cA = zC Z 0 := Option.some.inj (hNm.symm.trans (hK.2 0 _ rfl).2)
  subst hcA
  obtain ⟨a, ha⟩ : ∃ a : Nat, a = H.size := ⟨_, rfl⟩
  rw [← ha] at e1 z1 o1 ⊢
  have hat1 : va_at (zD Z) cls (zA Z 2 r, .inr (2, [.ref (gr r), vi (I 2 r 1)])) H1 := by
    have q : va_at (zD Z) cls (zA Z 2 r, .inr (2, [.ref (gr r), vi (I 2 r 1)])) H := hob
    exact q.kept (o1 _ (by rw [ha]; exact hob.lt))
  have hl1 : lv_has ls 4 lv := hl
  refine lv_astore_n (lv' := (3, .ref a) :: lv') B.1 B.2.1 dX5_makeRoom_53 rfl hl1 (by decide) (stl_ref hl') (fun ls hl => ?_)
  refine lv_aload_n B.1 B.2.1 dX5_makeRoom_54 rfl (lv_at hl 1 hl0) ?_
  refine va_get (C := RX5) (T := TX5) (N := 2) (ci := 2) (Ts := lw_good) B.1 B.2.1 hw1 in_2 B.2.2.2.1 hK (va_P1 hat1) 0 rfl rfl 0 (by decide) (ref := RX5) (hw1 _ ln_RX5_9) (fun x hx => hx) rfl dX5_makeRoom_55 ?_
  refine lv_iconst (v := Int32.ofInt 0) B.1 B.2.1 dX5_makeRoom_58 rfl ?_
  refine lv_aload_n B.1 B.2.1 dX5_makeRoom_59 rfl (lv_at hl 0 rfl) ?_
  refine lv_iconst (v := Int32.ofInt 0) B.1 B.2.1 dX5_makeRoom_60 rfl ?_
  refine lv_aload_n B.1 B.2.1 dX5_makeRoom_61 rfl (lv_at hl 1 hl0) ?_
  refine va_get (C := RX5) (T := TX5) (N := 2) (ci := 2) (Ts := lw_good) B.1 B.2.1 hw1 in_2 B.2.2.2.1 hK (va_P1 hat1) 0 rfl rfl 1 (by decide) (ref := RX5) (hw1 _ ln_RX5_15) (fun x hx => hx) rfl dX5_makeRoom_62 ?_
  have hne : ∀ k i : Nat, i < ksz_a k → adG Z gr k i ≠ a := fun k i hi q => by have := (hH.at hi).lt; rw [q, ha] at this; exact Nat.lt_irrefl _ this
  have hgne : gr r ≠ a := hne 12 r hr
  have hc0 : H1[gr r]? = some (vp_cell (zC Z 0) ((I 2 r 2).toNat, .inl fun j => Int32.ofInt (I 12 r j))) := (o1 _ (by rw [ha]; exact (hH.at (k := 12) (i := r) hr).lt)).trans hcc
  have hca : H1[a]? = some (vp_cell (zC Z 0) (n'.toNat, .inl fun _ => Int32.ofInt 0)) := e1
  have hz0 : (Int32.ofInt 0).toNatClampNeg = 0 := by decide
  have hA := (hK.2 0 _ rfl).1
  refine W_acopy B.1 B.2.1 (B.2.2.1.trans hl.1.symm) B.2.2.2.1 (hw1 _ ln_RX5_23) (hw1 _ ac_nat) (hw1 _ ac_stat) (hw1 _ ac_ini) hc0 hca hA hA rfl (by decide) (by decide) (w_nn hm g3) (by rw [hz0, w_nat hm]; omega) (by rw [hz0, w_nat hm]; omega) (fun _ _ => rfl) hh (ac_room (Nat.zero_le _) hh) dX5_makeRoom_65 (fun H2 L e2 z2 o2 hL => ?_)
  have hat2 : va_at (zD Z) cls (zA Z 2 r, .inr (2, [.ref (gr r), vi (I 2 r 1)])) H2 := hat1.kept (o2 _ (hne 2 r hr))
  refine lv_aload_n B.1 B.2.1 dX5_makeRoom_68 rfl (lv_at hl 1 hl0) ?_
  refine lv_aload_n B.1 B.2.1 dX5_makeRoom_69 rfl (lv_at hl 0 rfl) ?_
  -- the store
  have hap := va_apart (own := RX5) hw1 in_2 tyX5 tyX5_ok nmX5 hK (ci := 2) rfl
  obtain ⟨rr, h1, cell, q1, q2, q3, q4⟩ := hat2
  have hr9 : rr = (RX5, TX5, 2) := Option.some.inj (h1.symm.trans rfl)
  subst hr9
  obtain ⟨hS, hfc, kC, hkC, hkind⟩ := hK.1 2 _ rfl
  obtain ⟨cf, kf, fi, fl, hif, hsl⟩ := hS 0 (by decide)
  have hlay := hw1 _ (in_2 _ (u_in_lay (k := 0) (by decide)))
  unfold u_lay at hlay
  rw [if_neg (by decide)] at hlay
  have hst := (u_facts hfc hkC (u_lays hw1 in_2 (k := 0) (by decide)) hif).1
  have h6 := u_store (v := .ref a) hfc hkC hkind hlay hif (tyX5_ok 0 (by decide)) rfl rfl
  refine W.putK B.1 B.2.1 (f := fl) (ref := RX5) ⟨B.2.2.2.1, hw1 _ ln_RX5_9, ⟨_, _, _, hif⟩, hst⟩ (by rw [q2]; exact h6) q1 q3 (by rw [hsl]; exact k2_hasslot (q4 0 (by decide))) rfl rfl dX5_makeRoom_70 fun H3 p1 p2 p3 => ?_
  rw [hsl] at p1 ⊢
  have hat3 : va_at (zD Z) cls (zA Z 2 r, .inr (2, [.ref a, vi (I 2 r 1)])) H3 :=
    ⟨_, rfl, t_OB.to (V := updV (vp_V [.ref (gr r), vi (I 2 r 1)]) 0 (.ref a)) ⟨_, p1, q2, q3, t_set q4 hap (by decide) (.ref a)⟩ (fun j _ => vp_updV_set (k := 0) (Nat.le_of_ble_eq_true rfl) (.ref a) j)⟩
  have haB : zB Z ≤ a := by rw [ha]; exact hH.1.2.1
  have hoa : zA Z 2 r ≠ a := hne 2 r hr
  obtain ⟨gr', hgr1, hgr2⟩ : ∃ gr' : Nat → Nat, gr' r = a ∧ ∀ x : Nat, x ≠ r → gr' x = gr x := ⟨fun x => if x = r then a else gr x, if_pos rfl, fun x hx => if_neg hx⟩
  have hHn : HHA_a Z gr' J H3 := by
    obtain ⟨⟨b1, b2, b3⟩, b4, b5, b6⟩ := hH
    have hadr : ∀ k i : Nat, i < ksz_a k → ¬ (k = 12 ∧ i = r) → adG Z gr' k i = adG Z gr k i := fun k i hi q => by
      unfold adG
      by_cases h12 : k = 12
      · rw [if_pos h12, if_pos h12]
        rw [h12] at hi
        have hi : i < 516 := hi
        exact hgr2 i (by exact fun e => q ⟨h12, e⟩)
      · rw [if_neg h12, if_neg h12]
        by_cases h25 : k = 25
        · rw [if_pos h25, if_pos h25]
          rw [h25] at hi
          have hi : i < 1 := hi
          exact hgr2 516 (by omega)
        · rw [if_neg h25, if_neg h25]
    have hadc : adG Z gr' 12 r = a := hgr1
    refine ⟨⟨b1, by rw [p2, z2, z1, ha]; omega, fun q hq => ?_⟩, ?_, ?_, ?_⟩
    · have hqo : q ≠ zA Z 2 r := fun e => by
        have h9 : zB Z ≤ zA Z 2 r := b5 2 r hr
        omega
      rw [p3 q hqo, o2 q (by omega), o1 q (by omega), b3 q hq]
    · intro k i k' i' hi hi' he
      by_cases hq : k = 12 ∧ i = r
      · by_cases hq' : k' = 12 ∧ i' = r
        · exact ⟨hq.1.trans hq'.1.symm, hq.2.trans hq'.2.symm⟩
        · rw [hq.1, hq.2, hadc, hadr k' i' hi' hq'] at he
          exact absurd he.symm (hne k' i' hi')
      · by_cases hq' : k' = 12 ∧ i' = r
        · rw [hq'.1, hq'.2, hadc, hadr k i hi hq] at he
          exact absurd he (hne k i hi)
        · rw [hadr k i hi hq, hadr k' i' hi' hq'] at he
          exact b4 k i k' i' hi hi' he
    · intro k i hi
      by_cases hq : k = 12 ∧ i = r
      · rw [hq.1, hq.2, hadc]; exact haB
      · rw [hadr k i hi hq]; exact b5 k i hi
    · intro k i hi
      by_cases hq : k = 12 ∧ i = r
      · rw [hq.1, hq.2, hadc]
        show H3[a]? = some (vp_cell (zC Z 0) ((J 2 r 2).toNat, .inl fun j => Int32.ofInt (J 12 r j)))
        rw [p3 a (Ne.symm hoa), e2]
        have x1 : J 2 r 2 = n' := by rw [hJ]; unfold grw; rw [if_neg (fun q => absurd q.1 (by decide)), if_pos ⟨rfl, rfl, rfl⟩]
        rw [x1]
        congr 4
        funext q
        rw [hz0, w_nat hm, hJ]
        unfold va_cpy grw
        by_cases hq : q < m'.toNat
        · rw [if_pos (show 0 ≤ q ∧ q < 0 + m'.toNat from ⟨Nat.zero_le _, by omega⟩), if_pos ⟨rfl, rfl⟩, if_pos hq]
          show Int32.ofInt (I 12 r (0 + (q - 0))) = _
          rw [Nat.zero_add, Nat.sub_zero]
        · rw [if_neg (fun z => hq (by omega)), if_pos ⟨rfl, rfl⟩, if_neg hq]
      · by_cases hq2 : k = 2 ∧ i = r
        · have x1 : J 2 r 1 = I 2 r 1 := by rw [hJ]; unfold grw; rw [if_neg (fun q => absurd q.1 (by decide)), if_neg (fun q => absurd q.2.2 (by decide)), if_neg (fun q => absurd q.1 (by decide)), if_neg (fun q => absurd q.1 (by decide))]
          have x2 : ent Z gr' J 2 r = .inr (2, [.ref a, vi (I 2 r 1)]) := by
            show (.inr (2, [.ref (gr' r), vi (J 2 r 1)]) : va_E) = _
            rw [hgr1, x1]
          rw [hq2.1, hq2.2, x2]
          exact hat3
        · have h30 : k ≠ 30 := fun q => by rw [q] at hi; exact absurd hi (by simp [ksz_a])
          have x3 : ∀ s : Nat, J k i s = I k i s := fun s => by
            rw [hJ]; unfold grw; rw [if_neg hq, if_neg (fun q => hq2 ⟨q.1, q.2.1⟩), if_neg (fun q => h30 q.1), if_neg (fun q => h30 q.1)]
          have x4 : ∀ i' : Nat, ¬ (2 = 2 ∧ i' = r) → J 2 i' 2 = I 2 i' 2 := fun i' h => by
            rw [hJ]; unfold grw; rw [if_neg (fun q => absurd q.1 (by decide)), if_neg (fun q => h ⟨q.1.symm, q.2.1⟩), if_neg (fun q => absurd q.1 (by decide)), if_neg (fun q => absurd q.1 (by decide))]
          have x5 : ¬ (2 = 10) → J 10 0 2 = I 10 0 2 := fun h => by
            rw [hJ]; unfold grw; rw [if_neg (fun q => absurd q.1 (by decide)), if_neg (fun q => h q.1.symm), if_neg (fun q => absurd q.1 (by decide)), if_neg (fun q => absurd q.1 (by decide))]
          have x6 : ent Z gr' J k i = ent Z gr J k i := by
            by_cases h2 : k = 2
            · subst h2
              have hi9 : i < 516 := hi
              show (.inr (2, [.ref (gr' i), vi (J 2 i 1)]) : va_E) = .inr (2, [.ref (gr i), vi (J 2 i 1)])
              rw [hgr2 i (by exact fun e => hq2 ⟨rfl, e⟩)]
            · by_cases h10 : k = 10
              · subst h10
                have hi9 : i < 1 := hi
                show (.inr (10, [.ref (gr' 516), vi (J 10 i 1)]) : va_E) = .inr (10, [.ref (gr 516), vi (J 10 i 1)])
                rw [hgr2 516 (by omega)]
              · unfold ent
                split <;> first | rfl | exact absurd rfl h2 | exact absurd rfl h10
          have x7 : ent Z gr J k i = ent Z gr I k i := ent_congr x3 (fun h12 => x4 i (fun q => hq ⟨h12, q.2⟩)) (fun h25 => x5 (by decide))
          rw [x6, x7, hadr k i hi hq]
          have hlt := (b6 k i hi).lt
          exact (b6 k i hi).kept ((p3 _ (fun q => hq2 (b4 k i 2 r hi hr q))).trans ((o2 _ (hne k i hi)).trans (o1 _ (by rw [ha]; exact hlt))))
  have hfin := (hk gr').2 X B (hcl.trans hc1) H3 ((locs ++ L) ++ [⟨zA Z 2 r, (zD Z).2 2 0⟩]) ls hHn ?_ (lv_tl hl)
  · rw [← r1, ← r2] at hfin
    exact hfin
  · intro q hq
    rcases List.mem_append.mp hq with h | h
    · rcases List.mem_append.mp h with h | h
      · exact hlo q h
      · rw [hL q h]; exact haB
    · cases List.mem_singleton.mp h
      exact hH.2.2.1 2 r hr
end GROW2
set_option maxRecDepth 20000 in
theorem R_Row_clear_a (Z : ZT) (t : Nat) (I : Mem) (r : Unit) (J : Mem) (hf : f_Row_clear t I = some (r, J)) : Runs_a Z yX5_clear cX5_clear 1 (none) 1 [vr Z 2 t] I (none, J) := by
  refine Runs_a.of (rv := fun _ => none) (by decide +kernel) (Nat.le_of_ble_eq_true rfl) hf (fun gr => ?_)
  unfold f_Row_clear
  refine WQ_a.loc [0] (lv' := [(0, vr Z 2 t)]) rfl ?_
  refine wq_grd_a (fun ht => ?_)
  refine wq_aload_n_a dX5_clear_0 0 rfl rfl ?_
  refine wq_iconst_a dX5_clear_1 ?_
  refine p_2_1_a ht ln_RX5_15 dX5_clear_2 (fun J1 => ?_)
  exact wq_vret_a rfl rfl dX5_clear_5
set_option maxRecDepth 20000 in
theorem R_Row_makeRoom_a (Z : ZT) (t : Nat) (a1 : Int) (I : Mem) (r : Int) (J : Mem) (hf : f_Row_makeRoom t a1 I = some (r, J)) : Runs_a Z yX5_makeRoom cX5_makeRoom 4 (some .boolean) 1 [vr Z 2 t, vi a1] I (some (vi r), J) := by
  refine Runs_a.of (rv := fun x => some (vi x)) (by decide +kernel) (Nat.le_of_ble_eq_true rfl) hf (fun gr => ?_)
  unfold f_Row_makeRoom
  refine WQ_a.loc [0, 1] (lv' := [(0, vr Z 2 t), (1, vi a1)]) rfl ?_
  refine wq_grd_a (fun ht => ?_)
  refine wq_iload_n_a dX5_makeRoom_0 1 rfl rfl ?_
  refine wq_aload_n_a dX5_makeRoom_1 0 rfl rfl ?_
  refine g_2_0_a ht ln_RX5_9 dX5_makeRoom_2 ?_
  refine wq_grd_a (fun g1 => ?_)
  refine wq_alen_a (k := 12) (i := t) (t0 := 0) rfl rfl ht rfl (alen_ok g1) dX5_makeRoom_5 ?_
  refine wq_icmp_gt_a 11 dX5_makeRoom_6 (by decide) rfl rfl (fun c20 => ?_) (fun c20 => ?_)
  · refine wq_iload_n_a dX5_makeRoom_11 1 rfl rfl ?_
    refine wq_sipush_a dX5_makeRoom_12 (by decide) ?_
    refine wq_icmp_le_a 20 dX5_makeRoom_15 (by decide) rfl rfl (fun c19 => ?_) (fun c19 => ?_)
    · refine wq_iconst_a dX5_makeRoom_18 ?_
      exact wq_zret_a rfl (by decide) rfl dX5_makeRoom_19
    · refine wq_iconst_a dX5_makeRoom_20 ?_
      refine wq_istore_n_a (lv' := [(2, vi 4), (0, vr Z 2 t), (1, vi a1)]) dX5_makeRoom_21 rfl (by decide) rfl ?_
      refine wq_iconst_a dX5_makeRoom_22 ?_
      refine wq_istore_n_a (lv' := [(3, vi 0), (2, vi 4), (0, vr Z 2 t), (1, vi a1)]) dX5_makeRoom_23 rfl (by decide) rfl ?_
      refine WQ_a.loc [2, 3, 1, 0] (lv' := [(0, vr Z 2 t), (1, vi a1), (2, vi 4), (3, vi 0)]) rfl ?_
      refine wq_loopS_a (fun s10 => [(0, vr Z 2 t), (1, vi a1), (2, vi s10.1), (3, vi s10.2)]) 50 (fun r13 => [(0, vr Z 2 t), (2, vi r13)]) (fun κ4 bk5 ex6 gr9 s10 J8 => ?_) (fun gr15 r13 J14 => ?_) gr _ rfl
      · unfold f_Row_makeRoom_w24
        refine wq_iload_n_a dX5_makeRoom_24 3 rfl rfl ?_
        refine wq_iconst_a dX5_makeRoom_25 ?_
        refine wq_icmp_ge_a 50 dX5_makeRoom_26 (by decide) rfl rfl (fun c12 => ?_) (fun c12 => ?_)
        · refine wq_iload_n_a dX5_makeRoom_29 2 rfl rfl ?_
          refine wq_iload_n_a dX5_makeRoom_30 1 rfl rfl ?_
          refine wq_icmp_ge_a 50 dX5_makeRoom_31 (by decide) rfl rfl (fun c11 => ?_) (fun c11 => ?_)
          · refine wq_iconst_a dX5_makeRoom_34 ?_
            refine wq_iload_n_a dX5_makeRoom_35 2 rfl rfl ?_
            refine wq_imul_a dX5_makeRoom_36 ?_
            refine wq_sipush_a dX5_makeRoom_37 (by decide) ?_
            refine wq_min_a (by decide) (Nat.le_of_ble_eq_true rfl) ln_RX5_37 mt_min_s mt_i mt_min_c dX5_makeRoom_40 ?_
            refine wq_istore_n_a (lv' := [(2, vi (imn (4 * s10.1) 400)), (0, vr Z 2 t), (1, vi a1), (3, vi s10.2)]) dX5_makeRoom_43 rfl (by decide) rfl ?_
            refine wq_iinc_a (lv' := [(3, vi (s10.2 + 1)), (2, vi (imn (4 * s10.1) 400)), (0, vr Z 2 t), (1, vi a1)]) dX5_makeRoom_44 3 rfl (by decide) rfl ?_
            refine wq_goto_a 24 dX5_makeRoom_47 (by decide) ?_
            exact WQ_a.loc [2, 3, 1, 0] rfl (bk5 _ _ _)
          · exact WQ_a.loc [0, 2] rfl (ex6 _ _ _)
        · exact WQ_a.loc [0, 2] rfl (ex6 _ _ _)
      · refine wq_iload_n_a dX5_makeRoom_50 1 rfl rfl ?_
        refine WQ_a.loc [0] (lv' := [(0, vr Z 2 t)]) rfl ?_
        refine wq_grd_a (fun g16 => ?_)
        refine wq_growR_a (lv' := [(0, vr Z 2 t)]) ht rfl (by decide) rfl rfl rfl rfl rfl g16 (fun gr18 J17 => ?_)
        refine wq_iconst_a dX5_makeRoom_73 ?_
        exact wq_zret_a rfl (by decide) rfl dX5_makeRoom_74
  · refine wq_iconst_a dX5_makeRoom_9 ?_
    exact wq_zret_a rfl (by decide) rfl dX5_makeRoom_10
set_option maxRecDepth 20000 in
theorem R_G_clear_a (Z : ZT) (t : Nat) (I : Mem) (r : Unit) (J : Mem) (hf : f_G_clear t I = some (r, J)) : Runs_a Z yX1_clear cX1_clear 2 (none) 2 [vr Z 1 t] I (none, J) := by
  refine Runs_a.of (rv := fun _ => none) (by decide +kernel) (Nat.le_of_ble_eq_true rfl) hf (fun gr => ?_)
  unfold f_G_clear
  refine WQ_a.loc [0] (lv' := [(0, vr Z 1 t)]) rfl ?_
  refine wq_grd_a (fun ht => ?_)
  refine wq_aload_n_a dX1_clear_0 0 rfl rfl ?_
  refine g_1_0_a ht ln_RX1_12 dX1_clear_1 ?_
  refine wq_cVv_a M_Row_clear (R_Row_clear_a Z (43 * t) _) (ob_2_a (by omega)) rfl rfl (by decide) (by decide) (Nat.le_of_ble_eq_true rfl) ln_RX1_42 dX1_clear_4 (fun gr1 _ J2 => ?_)
  refine wq_aload_n_a dX1_clear_7 0 rfl rfl ?_
  refine g_1_1_a ht ln_RX1_18 dX1_clear_8 ?_
  refine wq_cVv_a M_Row_clear (R_Row_clear_a Z (43 * t + 1) _) (ob_2_a (by omega)) rfl rfl (by decide) (by decide) (Nat.le_of_ble_eq_true rfl) ln_RX1_42 dX1_clear_11 (fun gr4 _ J5 => ?_)
  refine wq_iconst_a dX1_clear_14 ?_
  refine wq_istore_n_a (lv' := [(1, vi 0), (0, vr Z 1 t)]) dX1_clear_15 rfl (by decide) rfl ?_
  refine WQ_a.loc [1, 0] (lv' := [(0, vr Z 1 t), (1, vi 0)]) rfl ?_
  refine wq_loopS_a (fun s20 => [(0, vr Z 1 t), (1, vi s20)]) 44 (fun _ => [(0, vr Z 1 t)]) (fun κ14 bk15 ex16 gr19 s20 J18 => ?_) (fun gr30 r28 J29 => ?_) gr4 _ rfl
  · unfold f_G_clear_w16
    refine wq_iload_n_a dX1_clear_16 1 rfl rfl ?_
    refine wq_bipush_a dX1_clear_17 (by decide) ?_
    refine wq_icmp_ge_a 44 dX1_clear_19 (by decide) rfl rfl (fun c27 => ?_) (fun c27 => ?_)
    · refine wq_aload_n_a dX1_clear_22 0 rfl rfl ?_
      refine g_1_2_a ht ln_RX1_21 dX1_clear_23 ?_
      refine wq_iload_n_a dX1_clear_26 1 rfl rfl ?_
      refine wq_grd_a (fun g21 => ?_)
      refine wq_aald_a (k := 13) (i := t) (t0 := 4) rfl rfl ht rfl rfl (m := 40) g21 (Nat.le_refl _) dX1_clear_27 ?_
      have hb22 : (43 * t + 3 + (w32 s20).toNat) < 516 := by omega
      refine wq_cVv_a M_Row_clear (R_Row_clear_a Z (43 * t + 3 + (w32 s20).toNat) _) (ob_2_a hb22) rfl rfl (by decide) (by decide) (Nat.le_of_ble_eq_true rfl) ln_RX1_42 dX1_clear_28 (fun gr23 _ J24 => ?_)
      refine wq_aload_n_a dX1_clear_31 0 rfl rfl ?_
      refine g_1_4_a ht ln_RX1_28 dX1_clear_32 ?_
      refine wq_iload_n_a dX1_clear_35 1 rfl rfl ?_
      refine wq_iconst_a dX1_clear_36 ?_
      refine wq_iast_a (k := 14) (i := t) (fun _ _ => rfl) ht rfl rfl (m := 40) g21 (Nat.le_refl _) (by decide) (by decide) (by decide) dX1_clear_37 (fun J26 => ?_)
      refine wq_iinc_a (lv' := [(1, vi (s20 + 1)), (0, vr Z 1 t)]) dX1_clear_38 1 rfl (by decide) rfl ?_
      refine wq_goto_a 16 dX1_clear_41 (by decide) ?_
      exact WQ_a.loc [1, 0] rfl (bk15 _ _ _)
    · exact WQ_a.loc [0] rfl (ex16 _ _ _)
  · refine wq_iconst_a dX1_clear_44 ?_
    refine wq_istore_n_a (lv' := [(1, vi 0), (0, vr Z 1 t)]) dX1_clear_45 rfl (by decide) rfl ?_
    refine WQ_a.loc [1, 0] (lv' := [(0, vr Z 1 t), (1, vi 0)]) rfl ?_
    refine wq_loopS_a (fun s40 => [(0, vr Z 1 t), (1, vi s40)]) 65 (fun _ => [(0, vr Z 1 t)]) (fun κ34 bk35 ex36 gr39 s40 J38 => ?_) (fun gr46 r44 J45 => ?_) gr30 _ rfl
    · unfold f_G_clear_w46
      refine wq_iload_n_a dX1_clear_46 1 rfl rfl ?_
      refine wq_bipush_a dX1_clear_47 (by decide) ?_
      refine wq_icmp_ge_a 65 dX1_clear_49 (by decide) rfl rfl (fun c43 => ?_) (fun c43 => ?_)
      · refine wq_aload_n_a dX1_clear_52 0 rfl rfl ?_
        refine g_1_5_a ht ln_RX1_32 dX1_clear_53 ?_
        refine wq_iload_n_a dX1_clear_56 1 rfl rfl ?_
        refine wq_iconst_a dX1_clear_57 ?_
        refine wq_grd_a (fun g41 => ?_)
        refine wq_iast_a (k := 15) (i := t) (fun _ _ => rfl) ht rfl rfl (m := 9) g41 (Nat.le_refl _) (by decide) (by decide) (by decide) dX1_clear_58 (fun J42 => ?_)
        refine wq_iinc_a (lv' := [(1, vi (s40 + 1)), (0, vr Z 1 t)]) dX1_clear_59 1 rfl (by decide) rfl ?_
        refine wq_goto_a 46 dX1_clear_62 (by decide) ?_
        exact WQ_a.loc [1, 0] rfl (bk35 _ _ _)
      · exact WQ_a.loc [0] rfl (ex36 _ _ _)
    · refine wq_aload_n_a dX1_clear_65 0 rfl rfl ?_
      refine wq_iconst_a dX1_clear_66 ?_
      refine p_1_6_a ht ln_RX1_35 dX1_clear_67 (fun J47 => ?_)
      refine wq_aload_n_a dX1_clear_70 0 rfl rfl ?_
      refine wq_iconst_a dX1_clear_71 ?_
      refine p_1_7_a ht ln_RX1_45 dX1_clear_72 (fun J48 => ?_)
      refine wq_aload_n_a dX1_clear_75 0 rfl rfl ?_
      refine wq_iconst_a dX1_clear_76 ?_
      refine p_1_8_a ht ln_RX1_39 dX1_clear_77 (fun J49 => ?_)
      refine wq_aload_n_a dX1_clear_80 0 rfl rfl ?_
      refine wq_iconst_a dX1_clear_81 ?_
      refine p_1_9_a ht ln_RX1_48 dX1_clear_82 (fun J50 => ?_)
      exact wq_vret_a rfl rfl dX1_clear_85
set_option maxRecDepth 20000 in
theorem R_Row_put_a (Z : ZT) (t : Nat) (a1 : Int) (I : Mem) (r : Unit) (J : Mem) (hf : f_Row_put t a1 I = some (r, J)) : Runs_a Z yX5_put cX5_put 2 (none) 2 [vr Z 2 t, vi a1] I (none, J) := by
  refine Runs_a.of (rv := fun _ => none) (by decide +kernel) (Nat.le_of_ble_eq_true rfl) hf (fun gr => ?_)
  unfold f_Row_put
  refine WQ_a.loc [0, 1] (lv' := [(0, vr Z 2 t), (1, vi a1)]) rfl ?_
  refine wq_grd_a (fun ht => ?_)
  refine wq_aload_n_a dX5_put_0 0 rfl rfl ?_
  refine wq_aload_n_a dX5_put_1 0 rfl rfl ?_
  refine g_2_1_a ht ln_RX5_15 dX5_put_2 ?_
  refine wq_iconst_a dX5_put_5 ?_
  refine wq_iadd_a dX5_put_6 ?_
  refine wq_cVi_a M_Row_makeRoom (R_Row_makeRoom_a Z t ((I 2 t 1) + 1) _) (ob_2_a ht) rfl rfl (by decide) (by decide) (Nat.le_of_ble_eq_true rfl) ln_RX5_19 dX5_put_7 (fun gr1 x3 J2 => ?_)
  refine wq_if_eq_a 33 dX5_put_10 (by decide) rfl (fun c7 => ?_) (fun c7 => ?_)
  · exact wq_vret_a rfl rfl dX5_put_33
  · refine wq_aload_n_a dX5_put_13 0 rfl rfl ?_
    refine g_2_0_a ht ln_RX5_9 dX5_put_14 ?_
    refine wq_aload_n_a dX5_put_17 0 rfl rfl ?_
    refine g_2_1_a ht ln_RX5_15 dX5_put_18 ?_
    refine wq_iload_n_a dX5_put_21 1 rfl rfl ?_
    refine wq_grd_a (fun g4 => ?_)
    refine wq_iast_a (k := 12) (i := t) (fun K hK => by show arI _ (K 2 _ 2).toNat _ = _; rw [hK]) ht rfl rfl (m := (J2 2 t 2)) g4 (Nat.le_refl _) (by decide) (by decide) (by decide) dX5_put_22 (fun J5 => ?_)
    refine wq_aload_n_a dX5_put_23 0 rfl rfl ?_
    refine wq_dup_a dX5_put_24 rfl ?_
    refine g_2_1_a ht ln_RX5_15 dX5_put_25 ?_
    refine wq_iconst_a dX5_put_28 ?_
    refine wq_iadd_a dX5_put_29 ?_
    refine p_2_1_a ht ln_RX5_15 dX5_put_30 (fun J6 => ?_)
    exact wq_vret_a rfl rfl dX5_put_33
set_option maxRecDepth 20000 in
theorem R_G_becomeLetterA_a (Z : ZT) (t : Nat) (I : Mem) (r : Unit) (J : Mem) (hf : f_G_becomeLetterA t I = some (r, J)) : Runs_a Z yX1_becomeLetterA cX1_becomeLetterA 1 (none) 3 [vr Z 1 t] I (none, J) := by
  refine Runs_a.of (rv := fun _ => none) (by decide +kernel) (Nat.le_of_ble_eq_true rfl) hf (fun gr => ?_)
  unfold f_G_becomeLetterA
  refine WQ_a.loc [0] (lv' := [(0, vr Z 1 t)]) rfl ?_
  refine wq_grd_a (fun ht => ?_)
  refine wq_aload_n_a dX1_becomeLetterA_0 0 rfl rfl ?_
  refine wq_cVv_a M_G_clear (R_G_clear_a Z t _) (ob_1_a ht) rfl rfl (by decide) (by decide) (Nat.le_of_ble_eq_true rfl) ln_RX1_51 dX1_becomeLetterA_1 (fun gr1 _ J2 => ?_)
  refine wq_aload_n_a dX1_becomeLetterA_4 0 rfl rfl ?_
  refine g_1_0_a ht ln_RX1_12 dX1_becomeLetterA_5 ?_
  refine wq_iconst_a dX1_becomeLetterA_8 ?_
  refine wq_cVv_a M_Row_put (R_Row_put_a Z (43 * t) 0 _) (ob_2_a (by omega)) rfl rfl (by decide) (by decide) (Nat.le_of_ble_eq_true rfl) ln_RX1_52 dX1_becomeLetterA_9 (fun gr4 _ J5 => ?_)
  refine wq_aload_n_a dX1_becomeLetterA_12 0 rfl rfl ?_
  refine g_1_1_a ht ln_RX1_18 dX1_becomeLetterA_13 ?_
  refine wq_iconst_a dX1_becomeLetterA_16 ?_
  refine wq_cVv_a M_Row_put (R_Row_put_a Z (43 * t + 1) 0 _) (ob_2_a (by omega)) rfl rfl (by decide) (by decide) (Nat.le_of_ble_eq_true rfl) ln_RX1_52 dX1_becomeLetterA_17 (fun gr7 _ J8 => ?_)
  exact wq_vret_a rfl rfl dX1_becomeLetterA_20
