/-! ===== by program out of 05 .. 2x: the same, while the array of the law is not yet there ===== -/
def ksz_b : Nat → Nat
  | 1 => 12 | 2 => 516 | 11 => 0 | 12 => 516 | 13 => 12 | 14 => 12 | 15 => 12 | 16 => 4 | 18 => 6 | 21 => 6 | 27 => 23 | k => if k < 29 then 1 else 0
def HHA_b (Z : ZT) (gr : Nat → Nat) (I : Mem) (H : Heap) : Prop :=
  ((zH Z).size = zB Z ∧ zB Z ≤ H.size ∧ ∀ q : Nat, q < zB Z → H[q]? = (zH Z)[q]?) ∧
  (∀ k i k' i' : Nat, i < ksz_b k → i' < ksz_b k' → adG Z gr k i = adG Z gr k' i' → k = k' ∧ i = i') ∧
  (∀ k i : Nat, i < ksz_b k → zB Z ≤ adG Z gr k i) ∧
  ∀ k i : Nat, i < ksz_b k → va_at (zD Z) cls (adG Z gr k i, ent Z gr I k i) H
def HH_b (Z : ZT) (I : Mem) (H : Heap) : Prop := ∃ gr : Nat → Nat, HHA_b Z gr I H
theorem HHA_b.upd {Z : ZT} {gr : Nat → Nat} {I I' : Mem} {H H1 : Heap} {k i : Nat} (h : HHA_b Z gr I H) (hi : i < ksz_b k) (hz : H1.size = H.size) (ho : ∀ q : Nat, q ≠ adG Z gr k i → H1[q]? = H[q]?)
    (he : va_at (zD Z) cls (adG Z gr k i, ent Z gr I' k i) H1) (hI : ∀ k' i' : Nat, i' < ksz_b k' → ¬ (k' = k ∧ i' = i) → ent Z gr I' k' i' = ent Z gr I k' i') : HHA_b Z gr I' H1 := by
  obtain ⟨⟨h1, h2, h3⟩, h4, h5, h6⟩ := h
  refine ⟨⟨h1, by rw [hz]; exact h2, fun q hq => ?_⟩, h4, h5, fun k' i' hi' => ?_⟩
  · rw [ho q (fun e => by have := h5 k i hi; omega)]; exact h3 q hq
  · by_cases hk : k' = k ∧ i' = i
    · obtain ⟨rfl, rfl⟩ := hk; exact he
    · rw [hI k' i' hi' hk]
      exact (h6 k' i' hi').kept (ho _ (fun e => hk (h4 k' i' k i hi' hi e)))
theorem HHA_b.at {Z : ZT} {gr : Nat → Nat} {I : Mem} {H : Heap} (h : HHA_b Z gr I H) {k i : Nat} (hi : i < ksz_b k) : va_at (zD Z) cls (adG Z gr k i, ent Z gr I k i) H := h.2.2.2 k i hi
def Pcz_b (Z : ZT) (av : List Value) (I : Mem) : Array Value → State → Prop := fun v U => v = av.toArray ∧ HH_b Z I U.heap ∧ KK Z U
def Qcz_b (Z : ZT) (o : OV) : Array Value → State → Outcome → State → Prop := fun _ _ oc t => oc = .returned o.1 ∧ HH_b Z o.2 t.heap
/-- method y, at height h, with these arguments over this memory, ends with this answer and memory -/
def Runs_b (Z : ZT) (y : MethodName) (cc : ByteArray) (maxL : Nat) (ret : Option FieldType) (h : Nat) (av : List Value) (I : Mem) (o : OV) : Prop :=
  cle I o.2 ∧ ∀ l : Launch, l.stackTraces = false → Met l y (wsAll y cc maxL ret) (rmH h (dC I o.2) (dS I o.2)) (Pcz_b Z av I) (Qcz_b Z o) (dC I o.2) (dS I o.2) (zN Z)
/-- what a method's body stands on -/
def Bd_b (Z : ZT) (X : XT) (Y : YT) : Prop :=
  X.1.tables.exec = Jvm.exec ∧ X.2.2.2.2.2.2.2.2.code = Y.2.1 ∧ X.2.2.2.2.2.2.2.2.maxLocals = Y.2.2.1 ∧ X.2.2.2.1.vm.findClass Y.1.cls = some X.2.2.2.2.1.cls ∧ (∀ w ∈ lw_good, w.before X.2.2.2.2.2.1 X.2.2.2.1 = true) ∧ KK Z X.2.2.2.1 ∧ X.2.2.2.2.2.2.2.1.sig.returnType = Y.2.2.2.1 ∧ X.2.2.2.2.2.2.2.1.locks = false ∧ X.2.1.stackTraces = false ∧ X.2.2.2.2.2.2.2.2.exceptionTable.toList = tableOf (xtb Y.1) ∧ ∃ I1 : Mem, HH_b Z I1 X.2.2.2.1.heap
/-- what holds at the end -/
def Qz_b (Z : ZT) (X : XT) (I0 : Mem) (o : OT) : State → Prop := match o.1 with
  | .inl v => MQ X.2.2.2.2.2.2.1 (Qcz_b Z (v, o.2)) X.2.2.2.2.2.1 X.2.2.2.1 (dC I0 o.2) (dS I0 o.2) (zN Z)
  | .inr E => vx_MQ X.2.2.2.2.2.2.1 (fun _ _ _ _ => False) (fun E' _ t => E' = E ∧ HH_b Z o.2 t.heap) X.2.2.2.2.2.1 X.2.2.2.1 (dC I0 o.2) (dS I0 o.2) (zN Z)
/-- W over the context -/
abbrev WX_b (Z : ZT) (X : XT) (Y : YT) (I0 : Mem) (o : OT) (H : Heap) (locs : List Loc) (cells slots : Nat) (g : JFrame) : Prop :=
  W X.1 X.2.1 X.2.2.1 (rmH Y.2.2.2.2 (dC I0 o.2) (dS I0 o.2)) X.2.2.2.1 X.2.2.2.2.1 X.2.2.2.2.2.1 X.2.2.2.2.2.2.1 X.2.2.2.2.2.2.2.1 X.2.2.2.2.2.2.2.2 H locs cells slots (Qz_b Z X I0 o) g
def WP_b (Z : ZT) (Y : YT) (I0 : Mem) (o : OT) (gr : Nat → Nat) (pc : Nat) (lv : List (Nat × Value)) (st : List Value) (I : Mem) : Prop :=
  cle I o.2 ∧ (∀ X : XT, Bd_b Z X Y → cle I0 I → ∀ (H : Heap) (locs : List Loc) (ls : Array Slot), HHA_b Z gr I H → (∀ q ∈ locs, zN Z q.base) → lv_has ls Y.2.2.1 lv → WX_b Z X Y I0 o H locs (dC I0 I) (dS I0 I) (F0 X.2.2.2.2.1 pc ls st))
def WQ_b (Z : ZT) (Y : YT) (I0 : Mem) (gr : Nat → Nat) {α : Type} (pc : Nat) (lv : List (Nat × Value)) (st : List Value) (I : Mem) (e : Option (α × Mem)) (κ : α → Mem → Option OT) : Prop :=
  ∀ o : OT, bnd e κ = some o → WP_b Z Y I0 o gr pc lv st I
section WPS
variable {Z : ZT} {Y : YT} {I0 : Mem} {o : OT} {gr : Nat → Nat} {pc : Nat} {lv : List (Nat × Value)} {st : List Value} {I : Mem}
/-- a step of the machine alone -/
theorem WP_b.go {pc' : Nat} {lv' : List (Nat × Value)} {st' : List Value} (k : WP_b Z Y I0 o gr pc' lv' st' I)
    (h : ∀ X : XT, Bd_b Z X Y → ∀ (H : Heap) (locs : List Loc) (ls : Array Slot) (cells slots : Nat), HHA_b Z gr I H → lv_has ls Y.2.2.1 lv → (∀ ls' : Array Slot, lv_has ls' Y.2.2.1 lv' → WX_b Z X Y I0 o H locs cells slots (F0 X.2.2.2.2.1 pc' ls' st')) → WX_b Z X Y I0 o H locs cells slots (F0 X.2.2.2.2.1 pc ls st)) : WP_b Z Y I0 o gr pc lv st I :=
  ⟨k.1, fun X B hc H locs ls hH hlo hl => h X B H locs ls _ _ hH hl fun ls' hl' => k.2 X B hc H locs ls' hH hlo hl'⟩
variable {α : Type} {e : Option (α × Mem)} {κ : α → Mem → Option OT}
theorem WQ_b.go {pc' : Nat} {lv' : List (Nat × Value)} {st' : List Value}
    (h : ∀ X : XT, Bd_b Z X Y → ∀ (o : OT) (H : Heap) (locs : List Loc) (ls : Array Slot) (cells slots : Nat), HHA_b Z gr I H → lv_has ls Y.2.2.1 lv → (∀ ls' : Array Slot, lv_has ls' Y.2.2.1 lv' → WX_b Z X Y I0 o H locs cells slots (F0 X.2.2.2.2.1 pc' ls' st')) → WX_b Z X Y I0 o H locs cells slots (F0 X.2.2.2.2.1 pc ls st))
    (k : WQ_b Z Y I0 gr pc' lv' st' I e κ) : WQ_b Z Y I0 gr pc lv st I e κ :=
  fun o ho => (k o ho).go fun X B => h X B o
/-- a branch -/
theorem WQ_b.br {pc1 pc2 : Nat} {st' : List Value} {c : Prop} [Decidable c] {e1 e2 : Option (α × Mem)}
    (h : ∀ X : XT, Bd_b Z X Y → ∀ (o : OT) (H : Heap) (locs : List Loc) (ls : Array Slot) (cells slots : Nat), HHA_b Z gr I H → lv_has ls Y.2.2.1 lv → (c → WX_b Z X Y I0 o H locs cells slots (F0 X.2.2.2.2.1 pc1 ls st')) → (¬ c → WX_b Z X Y I0 o H locs cells slots (F0 X.2.2.2.2.1 pc2 ls st')) → WX_b Z X Y I0 o H locs cells slots (F0 X.2.2.2.2.1 pc ls st))
    (k1 : c → WQ_b Z Y I0 gr pc1 lv st' I e1 κ) (k2 : ¬ c → WQ_b Z Y I0 gr pc2 lv st' I e2 κ) : WQ_b Z Y I0 gr pc lv st I (if c then e1 else e2) κ := by
  intro o ho
  by_cases hc : c
  · rw [if_pos hc] at ho
    have k := k1 hc o ho
    exact ⟨k.1, fun X B hcl H locs ls hH hlo hl => h X B o H locs ls _ _ hH hl (fun _ => k.2 X B hcl H locs ls hH hlo hl) (fun q => absurd hc q)⟩
  · rw [if_neg hc] at ho
    have k := k2 hc o ho
    exact ⟨k.1, fun X B hcl H locs ls hH hlo hl => h X B o H locs ls _ _ hH hl (fun q => absurd q hc) (fun _ => k.2 X B hcl H locs ls hH hlo hl)⟩
theorem wq_grd_b {c : Prop} [Decidable c] (k : c → WQ_b Z Y I0 gr pc lv st I e κ) : WQ_b Z Y I0 gr pc lv st I (if c then e else none) κ := by
  intro o ho
  by_cases hc : c
  · rw [if_pos hc] at ho; exact k hc o ho
  · rw [if_neg hc] at ho; cases ho
theorem WQ_b.assoc {β : Type} {e : Option (β × Mem)} {f : β → Mem → Option (α × Mem)} (k : WQ_b Z Y I0 gr pc lv st I e (fun b J => bnd (f b J) κ)) : WQ_b Z Y I0 gr pc lv st I (bnd e f) κ := by
  intro o ho
  refine k o ?_
  cases e with
  | none => cases ho
  | some q => exact ho
theorem WQ_b.loc {lv' : List (Nat × Value)} (ks : List Nat) (hl : lv_pick lv ks = lv') (k : WQ_b Z Y I0 gr pc lv' st I e κ) : WQ_b Z Y I0 gr pc lv st I e κ :=
  WQ_b.go (fun _ _ _ _ _ _ _ _ _ h kk => kk _ (lv_sub h ks hl)) k
end WPS
section ROWS
variable {Z : ZT} {Y : YT} {I0 : Mem} {gr : Nat → Nat} {pc : Nat} {lv : List (Nat × Value)} {st : List Value} {I : Mem} {α : Type} {e e1 e2 : Option (α × Mem)} {κ : α → Mem → Option OT}
theorem wq_iconst_b {n : Int} (d : decode Y.2.1 pc = .ok (.iconst n, 1)) (k : WQ_b Z Y I0 gr (pc + 1) lv (vi n :: st) I e κ) : WQ_b Z Y I0 gr pc lv st I e κ :=
  WQ_b.go (fun _ B _ _ _ ls _ _ _ hl kk => lv_iconst B.1 B.2.1 d rfl (kk ls hl)) k
theorem wq_bipush_b {n : Int} (d : decode Y.2.1 pc = .ok (.bipush n, 2)) (hv : (Int8.ofInt n).toInt32 = Int32.ofInt n) (k : WQ_b Z Y I0 gr (pc + 2) lv (vi n :: st) I e κ) : WQ_b Z Y I0 gr pc lv st I e κ :=
  WQ_b.go (fun _ B _ _ _ ls _ _ _ hl kk => lv_bipush B.1 B.2.1 d hv (kk ls hl)) k
theorem wq_sipush_b {n : Int} (d : decode Y.2.1 pc = .ok (.sipush n, 3)) (hv : (Int16.ofInt n).toInt32 = Int32.ofInt n) (k : WQ_b Z Y I0 gr (pc + 3) lv (vi n :: st) I e κ) : WQ_b Z Y I0 gr pc lv st I e κ :=
  WQ_b.go (fun _ B _ _ _ ls _ _ _ hl kk => lv_sipush B.1 B.2.1 d hv (kk ls hl)) k
theorem wq_iload_n_b {j : Nat} {x : Int} {c : Fin 4} (d : decode Y.2.1 pc = .ok (.iload_n c, 1)) (j' : Nat) (hj : (c : Nat) = j) (hl : lv[j']? = some (j, vi x)) (k : WQ_b Z Y I0 gr (pc + 1) lv (vi x :: st) I e κ) : WQ_b Z Y I0 gr pc lv st I e κ :=
  WQ_b.go (fun _ B _ _ _ ls _ _ _ h kk => lv_iload_n B.1 B.2.1 d hj (lv_at h j' hl) (kk ls h)) k
theorem wq_iload_b {j : Nat} {x : Int} (d : decode Y.2.1 pc = .ok (.iload j, 2)) (j' : Nat) (hl : lv[j']? = some (j, vi x)) (k : WQ_b Z Y I0 gr (pc + 2) lv (vi x :: st) I e κ) : WQ_b Z Y I0 gr pc lv st I e κ :=
  WQ_b.go (fun _ B _ _ _ ls _ _ _ h kk => lv_iload B.1 B.2.1 d (lv_at h j' hl) (kk ls h)) k
theorem wq_aload_n_b {j x : Nat} {c : Fin 4} (d : decode Y.2.1 pc = .ok (.aload_n c, 1)) (j' : Nat) (hj : (c : Nat) = j) (hl : lv[j']? = some (j, .ref x)) (k : WQ_b Z Y I0 gr (pc + 1) lv (.ref x :: st) I e κ) : WQ_b Z Y I0 gr pc lv st I e κ :=
  WQ_b.go (fun _ B _ _ _ ls _ _ _ h kk => lv_aload_n B.1 B.2.1 d hj (lv_at h j' hl) (kk ls h)) k
theorem wq_istore_n_b {j : Nat} {x : Int} {lv' : List (Nat × Value)} {c : Fin 4} (d : decode Y.2.1 pc = .ok (.istore_n c, 1)) (hj : (c : Nat) = j) (hn : j < Y.2.2.1) (hl : stl j (vi x) lv = lv') (k : WQ_b Z Y I0 gr (pc + 1) lv' st I e κ) : WQ_b Z Y I0 gr pc lv (vi x :: st) I e κ :=
  WQ_b.go (fun _ B _ _ _ ls _ _ _ h kk => lv_istore_n B.1 B.2.1 d hj h hn hl (fun ls' h' => kk ls' h')) k
theorem wq_istore_b {j : Nat} {x : Int} {lv' : List (Nat × Value)} (d : decode Y.2.1 pc = .ok (.istore j, 2)) (hn : j < Y.2.2.1) (hl : stl j (vi x) lv = lv') (k : WQ_b Z Y I0 gr (pc + 2) lv' st I e κ) : WQ_b Z Y I0 gr pc lv (vi x :: st) I e κ :=
  WQ_b.go (fun _ B _ _ _ ls _ _ _ h kk => lv_istore B.1 B.2.1 d h hn hl (fun ls' h' => kk ls' h')) k
theorem wq_iinc_b {j : Nat} {n x : Int} {lv' : List (Nat × Value)} (d : decode Y.2.1 pc = .ok (.iinc j n, 3)) (j' : Nat) (hk : lv[j']? = some (j, vi x)) (hn : j < Y.2.2.1) (hl : stl j (vi (x + n)) lv = lv') (k : WQ_b Z Y I0 gr (pc + 3) lv' st I e κ) : WQ_b Z Y I0 gr pc lv st I e κ :=
  WQ_b.go (fun _ B _ _ _ ls _ _ _ h kk => lv_iinc B.1 B.2.1 d h (k := j') hk (i_add x n) hn hl (fun ls' h' => kk ls' h')) k
theorem wq_iadd_b {x y : Int} (d : decode Y.2.1 pc = .ok (.iadd, 1)) (k : WQ_b Z Y I0 gr (pc + 1) lv (vi (x + y) :: st) I e κ) : WQ_b Z Y I0 gr pc lv (vi y :: vi x :: st) I e κ :=
  WQ_b.go (fun _ B _ _ _ ls _ _ _ hl kk => lv_iadd B.1 B.2.1 d (by rw [i_add]; exact kk ls hl)) k
theorem wq_isub_b {x y : Int} (d : decode Y.2.1 pc = .ok (.isub, 1)) (k : WQ_b Z Y I0 gr (pc + 1) lv (vi (x - y) :: st) I e κ) : WQ_b Z Y I0 gr pc lv (vi y :: vi x :: st) I e κ :=
  WQ_b.go (fun _ B _ _ _ ls _ _ _ hl kk => lv_isub B.1 B.2.1 d (by rw [i_sub]; exact kk ls hl)) k
theorem wq_imul_b {x y : Int} (d : decode Y.2.1 pc = .ok (.imul, 1)) (k : WQ_b Z Y I0 gr (pc + 1) lv (vi (x * y) :: st) I e κ) : WQ_b Z Y I0 gr pc lv (vi y :: vi x :: st) I e κ :=
  WQ_b.go (fun _ B _ _ _ ls _ _ _ hl kk => lv_imul B.1 B.2.1 d (by rw [i_mul]; exact kk ls hl)) k
theorem wq_dup2_b {u v : Value} (d : decode Y.2.1 pc = .ok (.dup2, 1)) (hu : u.category = 1) (hv : v.category = 1) (k : WQ_b Z Y I0 gr (pc + 1) lv (u :: v :: u :: v :: st) I e κ) : WQ_b Z Y I0 gr pc lv (u :: v :: st) I e κ :=
  WQ_b.go (fun _ B _ _ _ ls _ _ _ hl kk => lv_dup2_11 B.1 B.2.1 d hu hv (kk ls hl)) k
theorem wq_goto_b {off : Int} (tgt : Nat) (d : decode Y.2.1 pc = .ok (.goto off, 3)) (ht : (pc : Int) + off = (tgt : Int)) (k : WQ_b Z Y I0 gr tgt lv st I e κ) : WQ_b Z Y I0 gr pc lv st I e κ :=
  WQ_b.go (fun _ B _ _ _ ls _ _ _ hl kk => lv_goto B.1 B.2.1 d ht (kk ls hl)) k
theorem wq_if_eq_b {off x x' : Int} (tgt : Nat) (d : decode Y.2.1 pc = .ok (.ifCond .eq off, 3)) (ht : (pc : Int) + off = (tgt : Int)) (hx : w32 x = x') (k1 : x' = 0 → WQ_b Z Y I0 gr tgt lv st I e1 κ) (k2 : ¬ x' = 0 → WQ_b Z Y I0 gr (pc + 3) lv st I e2 κ) : WQ_b Z Y I0 gr pc lv (vi x :: st) I (if x' = 0 then e1 else e2) κ :=
  WQ_b.br (fun _ B _ _ _ ls _ _ _ _ h1 h2 => lv_if_eq B.1 B.2.1 d ht (fun q => h1 (by rw [← hx, ← w_0]; exact (w_eq x 0).mp q)) (fun q => h2 (fun r => q ((w_eq x 0).mpr (by rw [hx, r, w_0]))))) k1 k2
theorem wq_if_lt_b {off x x' : Int} (tgt : Nat) (d : decode Y.2.1 pc = .ok (.ifCond .lt off, 3)) (ht : (pc : Int) + off = (tgt : Int)) (hx : w32 x = x') (k1 : x' < 0 → WQ_b Z Y I0 gr tgt lv st I e1 κ) (k2 : ¬ x' < 0 → WQ_b Z Y I0 gr (pc + 3) lv st I e2 κ) : WQ_b Z Y I0 gr pc lv (vi x :: st) I (if x' < 0 then e1 else e2) κ :=
  WQ_b.br (fun _ B _ _ _ ls _ _ _ _ h1 h2 => lv_if_lt B.1 B.2.1 d ht (fun q => h1 (by have := (w_lt x 0).mp q; rw [hx, w_0] at this; exact this)) (fun q => h2 (fun r => q ((w_lt x 0).mpr (by rw [hx, w_0]; exact r))))) k1 k2
theorem wq_if_le_b {off x x' : Int} (tgt : Nat) (d : decode Y.2.1 pc = .ok (.ifCond .le off, 3)) (ht : (pc : Int) + off = (tgt : Int)) (hx : w32 x = x') (k1 : 0 < x' → WQ_b Z Y I0 gr (pc + 3) lv st I e1 κ) (k2 : ¬ 0 < x' → WQ_b Z Y I0 gr tgt lv st I e2 κ) : WQ_b Z Y I0 gr pc lv (vi x :: st) I (if 0 < x' then e1 else e2) κ :=
  WQ_b.br (fun _ B _ _ _ ls _ _ _ _ h1 h2 => lv_if_le B.1 B.2.1 d ht (fun q => h2 (by have := (w_le x 0).mp q; rw [hx, w_0] at this; exact this)) (fun q => h1 (by have := mt (w_le x 0).mpr q; rw [hx, w_0] at this; omega))) k1 k2
theorem wq_icmp_ne_b {off x y x' y' : Int} (tgt : Nat) (d : decode Y.2.1 pc = .ok (.if_icmp .ne off, 3)) (ht : (pc : Int) + off = (tgt : Int)) (hx : w32 x = x') (hy : w32 y = y') (k1 : x' = y' → WQ_b Z Y I0 gr (pc + 3) lv st I e1 κ) (k2 : ¬ x' = y' → WQ_b Z Y I0 gr tgt lv st I e2 κ) : WQ_b Z Y I0 gr pc lv (vi y :: vi x :: st) I (if x' = y' then e1 else e2) κ :=
  WQ_b.br (fun _ B _ _ _ ls _ _ _ _ h1 h2 => lv_icmp_ne B.1 B.2.1 d ht (fun q => h2 (fun r => q ((w_eq x y).mpr (by rw [hx, r, hy])))) (fun q => h1 (by rw [← hx, ← hy]; exact (w_eq x y).mp q))) k1 k2
theorem wq_icmp_ge_b {off x y x' y' : Int} (tgt : Nat) (d : decode Y.2.1 pc = .ok (.if_icmp .ge off, 3)) (ht : (pc : Int) + off = (tgt : Int)) (hx : w32 x = x') (hy : w32 y = y') (k1 : x' < y' → WQ_b Z Y I0 gr (pc + 3) lv st I e1 κ) (k2 : ¬ x' < y' → WQ_b Z Y I0 gr tgt lv st I e2 κ) : WQ_b Z Y I0 gr pc lv (vi y :: vi x :: st) I (if x' < y' then e1 else e2) κ :=
  WQ_b.br (fun _ B _ _ _ ls _ _ _ _ h1 h2 => lv_icmp_ge B.1 B.2.1 d ht (fun q => h2 (by have := (w_le y x).mp q; rw [hx, hy] at this; exact this)) (fun q => h1 (by have := mt (w_le y x).mpr q; rw [hx, hy] at this; omega))) k1 k2
end ROWS
section MEMS
variable {Z : ZT} {Y : YT} {I0 : Mem} {gr : Nat → Nat} {pc : Nat} {lv : List (Nat × Value)} {st : List Value} {I : Mem} {α : Type} {e e1 e2 : Option (α × Mem)} {κ : α → Mem → Option OT}
theorem WQ_b.mem {J : Mem} {pc' : Nat} {lv' : List (Nat × Value)} {st' : List Value} (hc : ∀ s : Nat, J 30 0 s = I 30 0 s)
    (h : ∀ X : XT, Bd_b Z X Y → ∀ (o : OT) (H : Heap) (locs : List Loc) (ls : Array Slot) (cells slots : Nat), HHA_b Z gr I H → (∀ q ∈ locs, zN Z q.base) → lv_has ls Y.2.2.1 lv → (∀ (H1 : Heap) (locs1 : List Loc) (ls' : Array Slot), HHA_b Z gr J H1 → (∀ q ∈ locs1, zN Z q.base) → lv_has ls' Y.2.2.1 lv' → WX_b Z X Y I0 o H1 locs1 cells slots (F0 X.2.2.2.2.1 pc' ls' st')) → WX_b Z X Y I0 o H locs cells slots (F0 X.2.2.2.2.1 pc ls st))
    (k : WQ_b Z Y I0 gr pc' lv' st' J e κ) : WQ_b Z Y I0 gr pc lv st I e κ := by
  intro o ho
  have kk := k o ho
  refine ⟨⟨by rw [← hc]; exact kk.1.1, by rw [← hc]; exact kk.1.2⟩, fun X B hcl H locs ls hH hlo hl => ?_⟩
  have h1 := fun H1 locs1 ls' hH1 hlo1 hl' => kk.2 X B ⟨by rw [hc]; exact hcl.1, by rw [hc]; exact hcl.2⟩ H1 locs1 ls' hH1 hlo1 hl'
  rw [dC_eq hc, dS_eq hc] at h1
  exact h X B o H locs ls _ _ hH hlo hl h1
/-- a field is read -/
theorem wq_get_b {k i fk ci N index a : Nat} {C fn fd : String} {T : u_T} {fs : List Value} {v : Value} (he : ent Z gr I k i = .inr (ci, fs)) (hi : i < ksz_b k) (ha : adG Z gr k i = a) (hc : cls[ci]? = some (C, T, N)) (hin : ∀ w ∈ u_ws C T N, w ∈ lw_good) (hk : fk < N) (hT : T fk = (C, fn, fd, (T fk).2.2.2)) (hv : fs[fk]? = some v)
    (hln : Cond.fieldLink Y.1.cls index C fn fd ∈ lw_good) (d : decode Y.2.1 pc = .ok (.getfield index, 3)) (kk : WQ_b Z Y I0 gr (pc + 3) lv (v :: st) I e κ) : WQ_b Z Y I0 gr pc lv (.ref a :: st) I e κ := by
  refine WQ_b.go (fun X B o H locs ls cells slots hH hl k1 => ?_) kk
  have hat := hH.at hi
  rw [he, ha] at hat
  have h1 : (T fk).1 = C := by rw [hT]
  have h2 : (T fk).2.1 = fn := by rw [hT]
  have h3 : (T fk).2.2.1 = fd := by rw [hT]
  exact va_get (C := C) (T := T) (N := N) (ci := ci) (Ts := lw_good) B.1 B.2.1 (fun w hw => B.2.2.2.2.1 w hw) hin B.2.2.2.1 B.2.2.2.2.2.1.1 (va_P1 hat) 0 rfl hc fk hk (ref := C) (by rw [h2, h3]; exact B.2.2.2.2.1 _ hln) (fun x hx => by rw [h1] at hx; exact hx) hv d (k1 ls hl)
/-- an int array's element is read -/
theorem wq_iald_b {k i a n : Nat} {f : Nat → Int} {j j' m : Int} (he : ent Z gr I k i = arI (zC Z 0) n f) (hi : i < ksz_b k) (ha : adG Z gr k i = a) (hj : w32 j = j') (hin : 0 ≤ j' ∧ j' < m) (hm : m.toNat ≤ n) (d : decode Y.2.1 pc = .ok (.iaload, 1)) (kk : WQ_b Z Y I0 gr (pc + 1) lv (vi (f j'.toNat) :: st) I e κ) : WQ_b Z Y I0 gr pc lv (vi j :: .ref a :: st) I e κ := by
  refine WQ_b.go (fun X B o H locs ls cells slots hH hl k1 => ?_) kk
  have hat := hH.at hi
  rw [he, ha] at hat
  refine va_iald (cA := zC Z 0) (n := n) (f := fun j => Int32.ofInt (f j)) B.1 B.2.1 B.2.2.2.2.2.1.1 (va_P1 hat) 0 0 rfl rfl (w_in hj hin hm) d ?_
  rw [w_nat hj]
  exact k1 ls hl
/-- an int array's element is written -/
theorem wq_iast_b {k i a n : Nat} {j j' m x : Int} {f : Mem → Option (α × Mem)} (he : ∀ J : Mem, (∀ i', J 2 i' 2 = I 2 i' 2) → ent Z gr J k i = arI (zC Z 0) n (J k i)) (hi : i < ksz_b k) (ha : adG Z gr k i = a) (hj : w32 j = j') (hin : 0 ≤ j' ∧ j' < m) (hm : m.toNat ≤ n) (h2 : k ≠ 2) (h10 : k ≠ 10) (h30 : k ≠ 30) (d : decode Y.2.1 pc = .ok (.iastore, 1)) (kk : ∀ J : Mem, WQ_b Z Y I0 gr (pc + 1) lv st J (f J) κ) : WQ_b Z Y I0 gr pc lv (vi x :: vi j :: .ref a :: st) I (ltI (sI I k i j'.toNat x) f) κ := by
  refine WQ_b.mem (sI_30 h30) (fun X B o H locs ls cells slots hH hlo hl k1 => ?_) (kk _)
  have hat := hH.at hi
  rw [he I (fun _ => rfl), ha] at hat
  have hat : H[a]? = some (vp_cell (zC Z 0) (n, .inl fun j => Int32.ofInt (I k i j))) := hat
  refine W.iast B.1 B.2.1 hat ((B.2.2.2.2.2.1.1.2 0 _ rfl).1 n (fun j => .int (Int32.ofInt (I k i j)))) (fun q => by cases q) (by show ¬ (_ < 0 ∨ (arrV _ _ _).slots.size ≤ _); rw [arrV_size]; exact w_in hj hin hm) rfl rfl d fun H1 e1 z oq => ?_
  have hHn : HHA_b Z gr (sI I k i j'.toNat x) H1 := by
    refine hH.upd hi z (by rw [ha]; exact oq) ?_ (fun k' i' hi' hne => sI_ent (fun q => h2 q.1) (fun q => h10 q.1) hne)
    rw [he _ (fun i' => sI_ne (fun q => h2 q.1.symm)), ha]
    show H1[a]? = some (vp_cell _ _)
    rw [e1, vp_cell_i, vp_cell_i, arrV_store, w_nat hj]
    congr 2
    funext q
    by_cases hq : q = j'.toNat
    · subst hq; simp [updV, sI]
    · simp [updV, hq, sI]
  exact k1 H1 _ ls hHn (locs_put hlo (by rw [← ha]; exact hH.2.2.1 k i hi)) hl
end MEMS
section CALLS
variable {Z : ZT} {Y : YT} {I0 : Mem} {gr : Nat → Nat} {pc : Nat} {lv : List (Nat × Value)} {st : List Value} {I : Mem} {α : Type} {e : Option (α × Mem)} {κ : α → Mem → Option OT}
theorem fb_Pcz_b {Z : ZT} {av : List Value} {I : Mem} : FrameBlind (Pcz_b Z av I) := fun a U g mk h => ⟨h.1, h.2.1, KK.same (s := U) (U := U.calling g mk a) rfl h.2.2⟩
theorem pc_at_b {Z : ZT} {X : XT} {Y : YT} (B : Bd_b Z X Y) {gr : Nat → Nat} {I : Mem} {H : Heap} {av : List Value} (hH : HHA_b Z gr I H) : ∀ U : State, U.heap = H → X.2.2.2.1.WarmedH U.vm → Pcz_b Z av I av.toArray U :=
  fun U hU hW => ⟨rfl, ⟨gr, by rw [hU]; exact hH⟩, B.2.2.2.2.2.1.warm hW⟩
/-- behind a call -/
theorem call_go_b {p : Program} {l : Launch} {e : Env} {R : Room} {s : State} {m : MethodId} {args : Array Value} {below : List Frame} {meth : Method} {c : Code} {H : Heap} {locs : List Loc} {cells slots mc ms : Nat} {Q : State → Prop} {pc : Nat} {ls : Array Slot} {rest st0 : List Value} {a : Array Value} {Z : ZT} {o1 : OV}
    (hr : va_Run p l e R s m args below meth c H locs cells slots mc ms (F0 m pc ls st0) rest (Qcz_b Z o1 a) (zN Z)) (hlo : ∀ q ∈ locs, zN Z q.base)
    (kk : ∀ (H1 : Heap) (locs1 : List Loc), HH_b Z o1.2 H1 → (∀ q ∈ locs1, zN Z q.base) → W p l e R s m args below meth c H1 locs1 (cells + mc) (slots + ms) Q (F0 m (pc + 3) ls (o1.1.toList ++ rest))) : W p l e R s m args below meth c H locs cells slots Q (F0 m pc ls st0) := by
  intro T hT X
  obtain ⟨v, st₀, t, T', L, h0, X', hL, e1, e2, ⟨hv, hh⟩, st⟩ := hr T hT X
  cases hv
  obtain ⟨t2, a1, b1⟩ := kk T'.heap (locs ++ L) (by rw [e1]; exact hh) (fun q hq => by
    rcases List.mem_append.mp hq with h | h
    · exact hlo q h
    · exact hL q h) T' rfl X'
  exact ⟨t2, st t2 a1, b1⟩
/-- a call's step, of any kind: from the road of the call itself -/
theorem WP_b.call {o : OT} {o1 : OV} {y' : MethodName} {cc' : ByteArray} {maxL' h' : Nat} {ret' : Option FieldType} {av rest : List Value} (hr : Runs_b Z y' cc' maxL' ret' h' av I o1)
    (h : ∀ X : XT, Bd_b Z X Y → ∀ (H : Heap) (locs : List Loc) (ls : Array Slot), HHA_b Z gr I H → ls.size = Y.2.2.1 → dC I0 I + dC I o1.2 ≤ dC I0 o.2 ∧ dS I0 I + dS I o1.2 ≤ dS I0 o.2 → va_Run X.1 X.2.1 X.2.2.1 (rmH Y.2.2.2.2 (dC I0 o.2) (dS I0 o.2)) X.2.2.2.1 X.2.2.2.2.1 X.2.2.2.2.2.1 X.2.2.2.2.2.2.1 X.2.2.2.2.2.2.2.1 X.2.2.2.2.2.2.2.2 H locs (dC I0 I) (dS I0 I) (dC I o1.2) (dS I o1.2) (F0 X.2.2.2.2.1 pc ls st) rest (Qcz_b Z o1 av.toArray) (zN Z))
    (k : ∀ gr' : Nat → Nat, WP_b Z Y I0 o gr' (pc + 3) lv (o1.1.toList ++ rest) o1.2) : WP_b Z Y I0 o gr pc lv st I := by
  have hc1 := hr.1
  have hc2 := (k gr).1
  refine ⟨hc1.trans hc2, fun X B hcl H locs ls hH hlo hl => ?_⟩
  have hle : dC I0 I + dC I o1.2 = dC I0 o1.2 ∧ dS I0 I + dS I o1.2 = dS I0 o1.2 := by
    unfold dC dS
    obtain ⟨q1, q2⟩ := hc1
    obtain ⟨q5, q6⟩ := hcl
    constructor <;> omega
  have hle2 : dC I0 o1.2 ≤ dC I0 o.2 ∧ dS I0 o1.2 ≤ dS I0 o.2 := by
    unfold dC dS
    obtain ⟨q1, q2⟩ := hc2
    constructor <;> omega
  refine call_go_b (h X B H locs ls hH hl.1 ⟨by rw [hle.1]; exact hle2.1, by rw [hle.2]; exact hle2.2⟩) hlo (fun H1 locs1 hH1 hlo1 => ?_)
  obtain ⟨gr', hH1⟩ := hH1
  have := (k gr').2 X B (hcl.trans hc1) H1 locs1 ls hH1 hlo1 hl
  rw [hle.1, hle.2]
  exact this
/-- invokevirtual of a method of its own class -/
theorem WP_b.callV {o : OT} {o1 : OV} {y' : MethodName} {cc' : ByteArray} {maxL' h' k i ci N index n a : Nat} {T : u_T} {ret' : Option FieldType} {fs As rest : List Value} (hr : Runs_b Z y' cc' maxL' ret' h' (.ref a :: As) I o1)
    (he : ent Z gr I k i = .inr (ci, fs)) (hi : i < ksz_b k) (ha : adG Z gr k i = a) (hc : cls[ci]? = some (y'.cls, T, N)) (hn : As.length = n) (hst : st = As.reverse ++ .ref a :: rest) (hh : h' < Y.2.2.2.2) (hm : maxL' ≤ 16) (hw : (rest.map fun v => v.category).sum ≤ 8)
    (hcode : Cond.code y' cc' maxL' ret' ∈ lw_good) (hlink : Cond.methodLink Y.1.cls index y' ∈ lw_good) (hinst : Cond.instanceMethod y' ∈ lw_good) (hsel : Cond.selects y'.cls y' y' ∈ lw_good) (hini : Cond.initialized y'.cls ∈ lw_good)
    (hd : y'.cls ≠ "java/lang/invoke/MethodHandle" ∧ y'.cls ≠ "java/lang/invoke/VarHandle" ∧ (parseMethodDescriptor y'.desc).map (fun d => d.parameters.length) = some n) (d : decode Y.2.1 pc = .ok (.invokevirtual index, 3))
    (k : ∀ gr' : Nat → Nat, WP_b Z Y I0 o gr' (pc + 3) lv (o1.1.toList ++ rest) o1.2) : WP_b Z Y I0 o gr pc lv st I := by
  refine WP_b.call hr (fun X B H locs ls hH hls hroom => ?_) k
  have hat := hH.at hi
  rw [he, ha] at hat
  have hrecv := va_recv (q0 := 0) B.2.2.2.2.2.1.1 (va_P1 hat) hc rfl
  have hG : GoodIn lw_good (wsV Y.1.cls index y'.cls y' (wsAll y' cc' maxL' ret')) := by
    intro w hw
    rcases List.mem_append.mp hw with hw | hw
    · have hm : w ∈ lw_good := by
        simp only [List.mem_cons, List.mem_nil_iff, or_false] at hw
        rcases hw with rfl | rfl | rfl | rfl <;> assumption
      exact ⟨hm, good_of_word (List.mem_filter.mp hm).2⟩
    · exact goodAll hcode w hw
  exact va_runV (cc := Y.2.1) (nL := Y.2.2.1) (Ts := lw_good) (own := Y.1.cls) (As := As) (n := n) ⟨B.1, B.2.1, B.2.2.1, B.2.2.2.1, B.2.2.2.2.1⟩ (hr.2 X.2.1 B.2.2.2.2.2.2.2.2.1) (cwV n B.2.2.2.2.1 hG rfl rfl rfl ⟨rfl, hd⟩ (room_ok hh hm)) ⟨fb_Pcz_b, hrecv, pc_at_b B hH⟩ rfl hn hls hst (lv_room hw) d hroom
/-- invokestatic, in the same class -/
theorem WP_b.callS {o : OT} {o1 : OV} {y' : MethodName} {cc' : ByteArray} {maxL' h' index n : Nat} {ret' : Option FieldType} {As rest : List Value} (hr : Runs_b Z y' cc' maxL' ret' h' As I o1)
    (hn : As.length = n) (hst : st = As.reverse ++ rest) (hh : h' < Y.2.2.2.2) (hm : maxL' ≤ 16) (hw : (rest.map fun v => v.category).sum ≤ 8)
    (hcode : Cond.code y' cc' maxL' ret' ∈ lw_good) (hlink : Cond.methodLink Y.1.cls index y' ∈ lw_good) (hstat : Cond.static y' ∈ lw_good) (hini : Cond.initialized Y.1.cls ∈ lw_good)
    (hd : y'.cls = Y.1.cls ∧ y'.cls ≠ "java/lang/invoke/MethodHandle" ∧ y'.cls ≠ "java/lang/invoke/VarHandle" ∧ (parseMethodDescriptor y'.desc).map (fun d => d.parameters.length) = some n) (d : decode Y.2.1 pc = .ok (.invokestatic index, 3))
    (k : ∀ gr' : Nat → Nat, WP_b Z Y I0 o gr' (pc + 3) lv (o1.1.toList ++ rest) o1.2) : WP_b Z Y I0 o gr pc lv st I := by
  refine WP_b.call hr (fun X B H locs ls hH hls hroom => ?_) k
  have hG : GoodIn lw_good (wsS Y.1.cls index y' (wsAll y' cc' maxL' ret')) := by
    intro w hw
    rcases List.mem_append.mp hw with hw | hw
    · have hm : w ∈ lw_good := by
        simp only [List.mem_cons, List.mem_nil_iff, or_false] at hw
        rcases hw with rfl | rfl | rfl <;> assumption
      exact ⟨hm, good_of_word (List.mem_filter.mp hm).2⟩
    · exact goodAll hcode w hw
  exact va_runS (cc := Y.2.1) (nL := Y.2.2.1) (Ts := lw_good) (own := Y.1.cls) (As := As) (n := n) ⟨B.1, B.2.1, B.2.2.1, B.2.2.2.1, B.2.2.2.2.1⟩ (hr.2 X.2.1 B.2.2.2.2.2.2.2.2.1) (cwS n B.2.2.2.2.1 hG rfl rfl rfl hd (room_ok hh hm)) ⟨fb_Pcz_b, pc_at_b B hH⟩ rfl hn hls hst (lv_room hw) d hroom
theorem wq_callV_b {β : Type} {rv : β → Option Value} {f : Option (β × Mem)} {K : β → Mem → Option (α × Mem)} {y' : MethodName} {cc' : ByteArray} {maxL' h' k i ci N index n a : Nat} {T : u_T} {ret' : Option FieldType} {fs As rest : List Value} (hM : MwV y' cc' maxL' ret' n) (hr : ∀ (r : β) (J : Mem), f = some (r, J) → Runs_b Z y' cc' maxL' ret' h' (.ref a :: As) I (rv r, J))
    (he : ent Z gr I k i = .inr (ci, fs)) (hi : i < ksz_b k) (ha : adG Z gr k i = a) (hc : cls[ci]? = some (y'.cls, T, N)) (hn : As.length = n) (hst : st = As.reverse ++ .ref a :: rest) (hh : h' < Y.2.2.2.2) (hm : maxL' ≤ 16) (hw : (rest.map fun v => v.category).sum ≤ 8)
    (hlink : Cond.methodLink Y.1.cls index y' ∈ lw_good) (d : decode Y.2.1 pc = .ok (.invokevirtual index, 3))
    (kk : ∀ (gr' : Nat → Nat) (r : β) (J : Mem), WQ_b Z Y I0 gr' (pc + 3) lv ((rv r).toList ++ rest) J (K r J) κ) : WQ_b Z Y I0 gr pc lv st I (bnd f K) κ := by
  intro o ho
  cases hf : f with
  | none => rw [hf] at ho; cases ho
  | some q =>
    obtain ⟨r, J⟩ := q
    rw [hf] at ho
    exact WP_b.callV (hr r J hf) he hi ha hc hn hst hh hm hw hM.1 hlink hM.2.1 hM.2.2.1 hM.2.2.2.1 hM.2.2.2.2 d (fun gr' => kk gr' r J o ho)
theorem wq_callS_b {β : Type} {rv : β → Option Value} {f : Option (β × Mem)} {K : β → Mem → Option (α × Mem)} {y' : MethodName} {cc' : ByteArray} {maxL' h' index n : Nat} {ret' : Option FieldType} {As rest : List Value} (hM : MwS y' cc' maxL' ret' n) (hr : ∀ (r : β) (J : Mem), f = some (r, J) → Runs_b Z y' cc' maxL' ret' h' As I (rv r, J))
    (hcl : y'.cls = Y.1.cls) (hn : As.length = n) (hst : st = As.reverse ++ rest) (hh : h' < Y.2.2.2.2) (hm : maxL' ≤ 16) (hw : (rest.map fun v => v.category).sum ≤ 8)
    (hlink : Cond.methodLink Y.1.cls index y' ∈ lw_good) (d : decode Y.2.1 pc = .ok (.invokestatic index, 3))
    (kk : ∀ (gr' : Nat → Nat) (r : β) (J : Mem), WQ_b Z Y I0 gr' (pc + 3) lv ((rv r).toList ++ rest) J (K r J) κ) : WQ_b Z Y I0 gr pc lv st I (bnd f K) κ := by
  intro o ho
  cases hf : f with
  | none => rw [hf] at ho; cases ho
  | some q =>
    obtain ⟨r, J⟩ := q
    rw [hf] at ho
    exact WP_b.callS (hr r J hf) hn hst hh hm hw hM.1 hlink hM.2.1 (by rw [← hcl]; exact hM.2.2.1) ⟨hcl, hM.2.2.2⟩ d (fun gr' => kk gr' r J o ho)
theorem wq_iret_b {x : Int} {b : α} (hr : Y.2.2.2.1 = some .int) (h : κ b I = some (.inl (some (vi x)), I)) (d : decode Y.2.1 pc = .ok (.ireturn, 1)) : WQ_b Z Y I0 gr pc lv [vi x] I (some (b, I)) κ := by
  intro o ho
  have ho : some o = some (.inl (some (vi x)), I) := ho.symm.trans h
  cases ho
  refine ⟨cle.refl I, fun X B hcl H locs ls hH hlo hl => ?_⟩
  exact W.iret (hlocks := B.2.2.2.2.2.2.2.1) B.1 B.2.1 (B.2.2.2.2.2.2.1.trans hr) (fun t ht _ => ⟨rfl, gr, by rw [ht]; exact hH⟩) hlo d
theorem wq_zret_b {x : Int} {b : α} (hr : Y.2.2.2.1 = some .boolean) (hx : x = 0 ∨ x = 1) (h : κ b I = some (.inl (some (vi x)), I)) (d : decode Y.2.1 pc = .ok (.ireturn, 1)) : WQ_b Z Y I0 gr pc lv [vi x] I (some (b, I)) κ := by
  intro o ho
  have ho : some o = some (.inl (some (vi x)), I) := ho.symm.trans h
  cases ho
  refine ⟨cle.refl I, fun X B hcl H locs ls hH hlo hl => ?_⟩
  exact W.zret (hlocks := B.2.2.2.2.2.2.2.1) B.1 B.2.1 (B.2.2.2.2.2.2.1.trans hr) (by rcases hx with rfl | rfl <;> rfl) (fun t ht _ => ⟨rfl, gr, by rw [ht]; exact hH⟩) hlo d
theorem wq_vret_b {b : α} (hr : Y.2.2.2.1 = none) (h : κ b I = some (.inl none, I)) (d : decode Y.2.1 pc = .ok (.return_, 1)) : WQ_b Z Y I0 gr pc lv [] I (some (b, I)) κ := by
  intro o ho
  have ho : some o = some (.inl none, I) := ho.symm.trans h
  cases ho
  refine ⟨cle.refl I, fun X B hcl H locs ls hH hlo hl => ?_⟩
  exact W.vret (hlocks := B.2.2.2.2.2.2.2.1) B.1 B.2.1 (B.2.2.2.2.2.2.1.trans hr) (fun t ht _ => ⟨rfl, gr, by rw [ht]; exact hH⟩) hlo d
/-- a method's entry -/
theorem Runs_b.of {β : Type} {rv : β → Option Value} {r : β} {J : Mem} {f : Option (β × Mem)} {y : MethodName} {cc : ByteArray} {maxL h : Nat} {ret : Option FieldType} {av : List Value} (hy : (plainName y.cls && (xtb y).isEmpty) = true) (hlen : (lg_sl av).length ≤ maxL) (hf : f = some (r, J))
    (k : ∀ gr : Nat → Nat, WQ_b Z (y, cc, maxL, ret, h) I gr 0 (lv_args 0 av) [] I f (fun b K => some (.inl (rv b), K))) : Runs_b Z y cc maxL ret h av I (rv r, J) := by
  have k := fun gr => k gr (.inl (rv r), J) (by rw [hf]; rfl)
  refine ⟨(k (fun _ => 0)).1, fun l hfl => ?_⟩
  rw [Bool.and_eq_true] at hy
  refine Met.ofW (cc := cc) (maxL := maxL) (ret := ret) hy.1 rfl ?_
  intro p e s m args below meth c s₁ B hml hv
  have htb := tab_nil (ws := wsAll y cc maxL ret) B List.mem_cons_self hy.2
  obtain ⟨rfl, ⟨gr, hH⟩, hKK⟩ := hv
  have hts : ∀ w ∈ lw_good, w.before av.toArray s = true := fun w hw => atoms_spec (ws := wsAll y cc maxL ret) B.pre w (List.mem_cons_of_mem _ hw)
  have hown := findClass_of_methodNamed B.named
  have hl := lv_entry av (n := maxL) hlen
  rw [lg_entry_eq]
  have hk := (k gr).2 (p, l, e, s, m, av.toArray, below, meth, c) ⟨B.exec, B.bytes, hml, hown, hts, hKK, B.returns, B.notSynchronized, hfl, htb, I, gr, hH⟩ (cle.refl I) s.heap [] _ hH (fun q hq => by cases hq) hl
  have e1 : dC I I = 0 := by unfold dC; omega
  have e2 : dS I I = 0 := by unfold dS; omega
  rw [e1, e2] at hk
  exact hk
end CALLS
section LOOPS
variable {Z : ZT} {Y : YT} {I0 : Mem} {pc : Nat} {lv : List (Nat × Value)} {I : Mem}
/-- a loop, at its head: the locals are a picture of what it carries -/
theorem wq_loop_b {σ ρ : Type} {step : σ → Mem → Option ((σ ⊕ ρ) × Mem)} {κ : ρ → Mem → Option OT} (lvf : σ → List (Nat × Value))
    (hb : ∀ κ2 : σ ⊕ ρ → Mem → Option OT, (∀ (gr : Nat → Nat) (s : σ) (J : Mem), WQ_b Z Y I0 gr pc (lvf s) [] J (some (.inl s, J)) κ2) → (∀ (r : ρ) (J : Mem), κ2 (.inr r) J = κ r J) → ∀ (gr : Nat → Nat) (s : σ) (J : Mem), WQ_b Z Y I0 gr pc (lvf s) [] J (step s J) κ2) (gr : Nat → Nat) (s : σ) (h : lvf s = lv) : WQ_b Z Y I0 gr pc lv [] I (whl step s I) κ := by
  subst h
  have key : ∀ (n : Nat) (gr : Nat → Nat) (s : σ) (J : Mem) (q : ρ × Mem) (o : OT), whN step n s J = some q → κ q.1 q.2 = some o → WP_b Z Y I0 o gr pc (lvf s) [] J := by
    intro n
    induction n with
    | zero => intro gr s J q o h; cases h
    | succ n ih =>
      intro gr s J q o h ho
      have hb' := hb (fun x K => match x with
        | .inl s' => (match whN step n s' K with
          | none => none
          | some q => κ q.1 q.2)
        | .inr r => κ r K) ?_ (fun _ _ => rfl) gr s J o ?_
      · exact hb'
      · intro gr' s' K o' ho'
        cases hw : whN step n s' K with
        | none =>
          have : (match whN step n s' K with
            | none => none
            | some q => κ q.1 q.2) = some o' := ho'
          rw [hw] at this; cases this
        | some q' =>
          have : (match whN step n s' K with
            | none => none
            | some q => κ q.1 q.2) = some o' := ho'
          rw [hw] at this
          exact ih gr' s' K q' o' hw this
      · unfold whN at h
        cases hs : step s J with
        | none => rw [hs] at h; cases h
        | some x =>
          obtain ⟨x, K⟩ := x
          rw [hs] at h
          cases x with
          | inl s' =>
            have h : whN step n s' K = some q := h
            show (match whN step n s' K with
            | none => none
            | some q => κ q.1 q.2) = some o
            rw [h]; exact ho
          | inr r =>
            have h : some (r, K) = some q := h
            cases h
            exact ho
  intro o ho
  cases hw : whl step s I with
  | none => rw [hw] at ho; cases ho
  | some q =>
    rw [hw] at ho
    obtain ⟨n, hn⟩ := whl_iff.mp hw
    exact key n gr s I q o hn ho
end LOOPS
section PRIMS
variable {Z : ZT} {Y : YT} {I0 : Mem} {gr : Nat → Nat} {pc : Nat} {lv : List (Nat × Value)} {st : List Value} {I : Mem} {α : Type} {e e1 e2 : Option (α × Mem)} {κ : α → Mem → Option OT}
def Ob_b (Z : ZT) (gr : Nat → Nat) (I : Mem) (a : Nat) (C : String) : Prop := ∃ (k i ci N : Nat) (T : u_T) (fs : List Value), ent Z gr I k i = .inr (ci, fs) ∧ i < ksz_b k ∧ adG Z gr k i = a ∧ cls[ci]? = some (C, T, N)
theorem wq_cV_b {β : Type} {rv : β → Option Value} {f : Option (β × Mem)} {K : β → Mem → Option (α × Mem)} {y' : MethodName} {cc' : ByteArray} {maxL' h' index n a : Nat} {ret' : Option FieldType} {As rest : List Value} (hM : MwV y' cc' maxL' ret' n) (hr : ∀ (r : β) (J : Mem), f = some (r, J) → Runs_b Z y' cc' maxL' ret' h' (.ref a :: As) I (rv r, J))
    (hO : Ob_b Z gr I a y'.cls) (hn : As.length = n) (hst : st = As.reverse ++ .ref a :: rest) (hh : h' < Y.2.2.2.2) (hm : maxL' ≤ 16) (hw : (rest.map fun v => v.category).sum ≤ 8)
    (hlink : Cond.methodLink Y.1.cls index y' ∈ lw_good) (d : decode Y.2.1 pc = .ok (.invokevirtual index, 3))
    (kk : ∀ (gr' : Nat → Nat) (r : β) (J : Mem), WQ_b Z Y I0 gr' (pc + 3) lv ((rv r).toList ++ rest) J (K r J) κ) : WQ_b Z Y I0 gr pc lv st I (bnd f K) κ := by
  obtain ⟨k, i, ci, N, T, fs, h1, h2, h3, h4⟩ := hO
  exact wq_callV_b hM hr h1 h2 h3 h4 hn hst hh hm hw hlink d kk
theorem wq_cVi_b {f : Option (Int × Mem)} {K : Int → Mem → Option (α × Mem)} {y' : MethodName} {cc' : ByteArray} {maxL' h' index n a : Nat} {ret' : Option FieldType} {As rest : List Value} (hM : MwV y' cc' maxL' ret' n) (hr : ∀ (r : Int) (J : Mem), f = some (r, J) → Runs_b Z y' cc' maxL' ret' h' (.ref a :: As) I (some (vi r), J))
    (hO : Ob_b Z gr I a y'.cls) (hn : As.length = n) (hst : st = As.reverse ++ .ref a :: rest) (hh : h' < Y.2.2.2.2) (hm : maxL' ≤ 16) (hw : (rest.map fun v => v.category).sum ≤ 8)
    (hlink : Cond.methodLink Y.1.cls index y' ∈ lw_good) (d : decode Y.2.1 pc = .ok (.invokevirtual index, 3))
    (kk : ∀ (gr' : Nat → Nat) (r : Int) (J : Mem), WQ_b Z Y I0 gr' (pc + 3) lv (vi r :: rest) J (K r J) κ) : WQ_b Z Y I0 gr pc lv st I (bnd f K) κ := wq_cV_b (rv := fun r => some (vi r)) hM hr hO hn hst hh hm hw hlink d kk
theorem wq_cVv_b {f : Option (Unit × Mem)} {K : Unit → Mem → Option (α × Mem)} {y' : MethodName} {cc' : ByteArray} {maxL' h' index n a : Nat} {ret' : Option FieldType} {As rest : List Value} (hM : MwV y' cc' maxL' ret' n) (hr : ∀ (r : Unit) (J : Mem), f = some (r, J) → Runs_b Z y' cc' maxL' ret' h' (.ref a :: As) I (none, J))
    (hO : Ob_b Z gr I a y'.cls) (hn : As.length = n) (hst : st = As.reverse ++ .ref a :: rest) (hh : h' < Y.2.2.2.2) (hm : maxL' ≤ 16) (hw : (rest.map fun v => v.category).sum ≤ 8)
    (hlink : Cond.methodLink Y.1.cls index y' ∈ lw_good) (d : decode Y.2.1 pc = .ok (.invokevirtual index, 3))
    (kk : ∀ (gr' : Nat → Nat) (r : Unit) (J : Mem), WQ_b Z Y I0 gr' (pc + 3) lv rest J (K r J) κ) : WQ_b Z Y I0 gr pc lv st I (bnd f K) κ := wq_cV_b (rv := fun _ => none) hM hr hO hn hst hh hm hw hlink d kk
theorem wq_cSi_b {f : Option (Int × Mem)} {K : Int → Mem → Option (α × Mem)} {y' : MethodName} {cc' : ByteArray} {maxL' h' index n : Nat} {ret' : Option FieldType} {As rest : List Value} (hM : MwS y' cc' maxL' ret' n) (hr : ∀ (r : Int) (J : Mem), f = some (r, J) → Runs_b Z y' cc' maxL' ret' h' As I (some (vi r), J))
    (hcl : y'.cls = Y.1.cls) (hn : As.length = n) (hst : st = As.reverse ++ rest) (hh : h' < Y.2.2.2.2) (hm : maxL' ≤ 16) (hw : (rest.map fun v => v.category).sum ≤ 8)
    (hlink : Cond.methodLink Y.1.cls index y' ∈ lw_good) (d : decode Y.2.1 pc = .ok (.invokestatic index, 3))
    (kk : ∀ (gr' : Nat → Nat) (r : Int) (J : Mem), WQ_b Z Y I0 gr' (pc + 3) lv (vi r :: rest) J (K r J) κ) : WQ_b Z Y I0 gr pc lv st I (bnd f K) κ := wq_callS_b (rv := fun r => some (vi r)) hM hr hcl hn hst hh hm hw hlink d kk
end PRIMS
section MORE
variable {Z : ZT} {Y : YT} {I0 : Mem} {gr : Nat → Nat} {pc : Nat} {lv : List (Nat × Value)} {st : List Value} {I : Mem} {α : Type} {e : Option (α × Mem)} {κ : α → Mem → Option OT}
theorem wq_loopS_b {σ ρ : Type} {step : σ → Mem → Option ((σ ⊕ ρ) × Mem)} {K : ρ → Mem → Option (α × Mem)} (lvf : σ → List (Nat × Value)) (xpc : Nat) (lvx : ρ → List (Nat × Value))
    (hb : ∀ κ2 : σ ⊕ ρ → Mem → Option OT, (∀ (gr : Nat → Nat) (s : σ) (J : Mem), WQ_b Z Y I0 gr pc (lvf s) [] J (some (.inl s, J)) κ2) → (∀ (gr : Nat → Nat) (r : ρ) (J : Mem), WQ_b Z Y I0 gr xpc (lvx r) [] J (some (.inr r, J)) κ2) → ∀ (gr : Nat → Nat) (s : σ) (J : Mem), WQ_b Z Y I0 gr pc (lvf s) [] J (step s J) κ2)
    (hx : ∀ (gr : Nat → Nat) (r : ρ) (J : Mem), WQ_b Z Y I0 gr xpc (lvx r) [] J (K r J) κ) (gr : Nat → Nat) (s : σ) (h : lvf s = lv) : WQ_b Z Y I0 gr pc lv [] I (bnd (whl step s I) K) κ := by
  refine WQ_b.assoc ?_
  refine wq_loop_b lvf (fun κ2 back hr gr s J => ?_) gr s h
  refine hb κ2 back (fun gr r J => ?_) gr s J
  intro o ho
  exact hx gr r J o ((hr r J).symm.trans ho)
end MORE
section WRAP
variable {Z : ZT} {Y : YT} {I0 : Mem} {gr : Nat → Nat} {pc : Nat} {lv : List (Nat × Value)} {st : List Value} {I : Mem} {α : Type} {e : Option (α × Mem)} {κ : α → Mem → Option OT}
theorem ob_26_b : Ob_b Z gr I (zA Z 26 0) RX13 := ⟨26, 0, 11, 44, TX13, _, rfl, (by decide), rfl, rfl⟩
theorem g_26_0_b {index : Nat} (hln : Cond.fieldLink Y.1.cls index RX13 "w" "[I" ∈ lw_good) (d : decode Y.2.1 pc = .ok (.getfield index, 3)) (kk : WQ_b Z Y I0 gr (pc + 3) lv (vr Z 27 0 :: st) I e κ) : WQ_b Z Y I0 gr pc lv (vr Z 26 0 :: st) I e κ :=
  wq_get_b (k := 26) (i := 0) (fk := 0) (ci := 11) (N := 44) (T := TX13) rfl (by decide) rfl rfl in_26 (by decide) rfl rfl hln d kk
theorem g_26_11_b {index : Nat} (hln : Cond.fieldLink Y.1.cls index RX13 "unfolded" "[I" ∈ lw_good) (d : decode Y.2.1 pc = .ok (.getfield index, 3)) (kk : WQ_b Z Y I0 gr (pc + 3) lv (vr Z 27 7 :: st) I e κ) : WQ_b Z Y I0 gr pc lv (vr Z 26 0 :: st) I e κ :=
  wq_get_b (k := 26) (i := 0) (fk := 11) (ci := 11) (N := 44) (T := TX13) rfl (by decide) rfl rfl in_26 (by decide) rfl rfl hln d kk
theorem g_26_12_b {index : Nat} (hln : Cond.fieldLink Y.1.cls index RX13 "madeBy" "[I" ∈ lw_good) (d : decode Y.2.1 pc = .ok (.getfield index, 3)) (kk : WQ_b Z Y I0 gr (pc + 3) lv (vr Z 27 8 :: st) I e κ) : WQ_b Z Y I0 gr pc lv (vr Z 26 0 :: st) I e κ :=
  wq_get_b (k := 26) (i := 0) (fk := 12) (ci := 11) (N := 44) (T := TX13) rfl (by decide) rfl rfl in_26 (by decide) rfl rfl hln d kk
theorem g_26_13_b {index : Nat} (hln : Cond.fieldLink Y.1.cls index RX13 "inRow" "[I" ∈ lw_good) (d : decode Y.2.1 pc = .ok (.getfield index, 3)) (kk : WQ_b Z Y I0 gr (pc + 3) lv (vr Z 27 9 :: st) I e κ) : WQ_b Z Y I0 gr pc lv (vr Z 26 0 :: st) I e κ :=
  wq_get_b (k := 26) (i := 0) (fk := 13) (ci := 11) (N := 44) (T := TX13) rfl (by decide) rfl rfl in_26 (by decide) rfl rfl hln d kk
theorem g_26_14_b {index : Nat} (hln : Cond.fieldLink Y.1.cls index RX13 "inPlace" "[I" ∈ lw_good) (d : decode Y.2.1 pc = .ok (.getfield index, 3)) (kk : WQ_b Z Y I0 gr (pc + 3) lv (vr Z 27 10 :: st) I e κ) : WQ_b Z Y I0 gr pc lv (vr Z 26 0 :: st) I e κ :=
  wq_get_b (k := 26) (i := 0) (fk := 14) (ci := 11) (N := 44) (T := TX13) rfl (by decide) rfl rfl in_26 (by decide) rfl rfl hln d kk
end WRAP
set_option maxRecDepth 20000 in
theorem R_M_one_b (Z : ZT) (a0 : Int) (I : Mem) (r : Int) (J : Mem) (hf : f_M_one a0 I = some (r, J)) : Runs_b Z yX13_one cX13_one 1 (some .int) 1 [vi a0] I (some (vi r), J) := by
  refine Runs_b.of (rv := fun x => some (vi x)) (by decide +kernel) (Nat.le_of_ble_eq_true rfl) hf (fun gr => ?_)
  unfold f_M_one
  refine WQ_b.loc [0] (lv' := [(0, vi a0)]) rfl ?_
  refine wq_iload_n_b dX13_one_0 0 rfl rfl ?_
  refine wq_if_eq_b 8 dX13_one_1 (by decide) rfl (fun c1 => ?_) (fun c1 => ?_)
  · refine wq_iconst_b dX13_one_8 ?_
    exact wq_iret_b rfl rfl dX13_one_9
  · refine wq_iconst_b dX13_one_4 ?_
    refine wq_goto_b 9 dX13_one_5 (by decide) ?_
    exact wq_iret_b rfl rfl dX13_one_9
set_option maxRecDepth 20000 in
theorem R_M_begins_b (Z : ZT)  (I : Mem) (r : Unit) (J : Mem) (hf : f_M_begins I = some (r, J)) : Runs_b Z yX13_begins cX13_begins 2 (none) 1 [vr Z 26 0] I (none, J) := by
  refine Runs_b.of (rv := fun _ => none) (by decide +kernel) (Nat.le_of_ble_eq_true rfl) hf (fun gr => ?_)
  unfold f_M_begins
  refine WQ_b.loc [0] (lv' := [(0, vr Z 26 0)]) rfl ?_
  refine wq_iconst_b dX13_begins_0 ?_
  refine wq_istore_n_b (lv' := [(1, vi 0), (0, vr Z 26 0)]) dX13_begins_1 rfl (by decide) rfl ?_
  refine WQ_b.loc [1, 0] (lv' := [(0, vr Z 26 0), (1, vi 0)]) rfl ?_
  refine wq_loopS_b (fun s10 => [(0, vr Z 26 0), (1, vi s10)]) 22 (fun _ => [(0, vr Z 26 0)]) (fun κ4 bk5 ex6 gr9 s10 J8 => ?_) (fun gr16 r14 J15 => ?_) gr _ rfl
  · unfold f_M_begins_w2
    refine wq_iload_n_b dX13_begins_2 1 rfl rfl ?_
    refine wq_sipush_b dX13_begins_3 (by decide) ?_
    refine wq_icmp_ge_b 22 dX13_begins_6 (by decide) rfl rfl (fun c13 => ?_) (fun c13 => ?_)
    · refine wq_aload_n_b dX13_begins_9 0 rfl rfl ?_
      refine g_26_0_b ln_RX13_9 dX13_begins_10 ?_
      refine wq_iload_n_b dX13_begins_13 1 rfl rfl ?_
      refine wq_iconst_b dX13_begins_14 ?_
      refine wq_grd_b (fun g11 => ?_)
      refine wq_iast_b (k := 27) (i := 0) (fun _ _ => rfl) (by decide) rfl rfl (m := 16860) g11 (Nat.le_of_ble_eq_true rfl) (by decide) (by decide) (by decide) dX13_begins_15 (fun J12 => ?_)
      refine wq_iinc_b (lv' := [(1, vi (s10 + 1)), (0, vr Z 26 0)]) dX13_begins_16 1 rfl (by decide) rfl ?_
      refine wq_goto_b 2 dX13_begins_19 (by decide) ?_
      exact WQ_b.loc [1, 0] rfl (bk5 _ _ _)
    · exact WQ_b.loc [0] rfl (ex6 _ _ _)
  · refine wq_aload_n_b dX13_begins_22 0 rfl rfl ?_
    refine g_26_0_b ln_RX13_9 dX13_begins_23 ?_
    refine wq_iconst_b dX13_begins_26 ?_
    refine wq_iconst_b dX13_begins_27 ?_
    refine wq_iast_b (k := 27) (i := 0) (fun _ _ => rfl) (by decide) rfl rfl (m := 16860) (by decide) (Nat.le_of_ble_eq_true rfl) (by decide) (by decide) (by decide) dX13_begins_28 (fun J18 => ?_)
    refine wq_aload_n_b dX13_begins_29 0 rfl rfl ?_
    refine g_26_0_b ln_RX13_9 dX13_begins_30 ?_
    refine wq_iconst_b dX13_begins_33 ?_
    refine wq_iconst_b dX13_begins_34 ?_
    refine wq_iast_b (k := 27) (i := 0) (fun _ _ => rfl) (by decide) rfl rfl (m := 16860) (by decide) (Nat.le_of_ble_eq_true rfl) (by decide) (by decide) (by decide) dX13_begins_35 (fun J20 => ?_)
    exact wq_vret_b rfl rfl dX13_begins_36
set_option maxRecDepth 20000 in
theorem R_M_many_b (Z : ZT) (a1 : Int) (I : Mem) (r : Int) (J : Mem) (hf : f_M_many a1 I = some (r, J)) : Runs_b Z yX13_many cX13_many 2 (some .int) 1 [vr Z 26 0, vi a1] I (some (vi r), J) := by
  refine Runs_b.of (rv := fun x => some (vi x)) (by decide +kernel) (Nat.le_of_ble_eq_true rfl) hf (fun gr => ?_)
  unfold f_M_many
  refine WQ_b.loc [0, 1] (lv' := [(0, vr Z 26 0), (1, vi a1)]) rfl ?_
  refine wq_aload_n_b dX13_many_0 0 rfl rfl ?_
  refine g_26_0_b ln_RX13_9 dX13_many_1 ?_
  refine wq_bipush_b dX13_many_4 (by decide) ?_
  refine wq_iload_n_b dX13_many_6 1 rfl rfl ?_
  refine wq_iadd_b dX13_many_7 ?_
  refine wq_grd_b (fun g1 => ?_)
  refine wq_iald_b (k := 27) (i := 0) rfl (by decide) rfl rfl (m := 16860) g1 (Nat.le_of_ble_eq_true rfl) dX13_many_8 ?_
  exact wq_iret_b rfl rfl dX13_many_9
set_option maxRecDepth 20000 in
theorem R_M_at_b (Z : ZT) (a1 : Int) (a2 : Int) (I : Mem) (r : Int) (J : Mem) (hf : f_M_at a1 a2 I = some (r, J)) : Runs_b Z yX13_at cX13_at 3 (some .int) 1 [vr Z 26 0, vi a1, vi a2] I (some (vi r), J) := by
  refine Runs_b.of (rv := fun x => some (vi x)) (by decide +kernel) (Nat.le_of_ble_eq_true rfl) hf (fun gr => ?_)
  unfold f_M_at
  refine WQ_b.loc [0, 1, 2] (lv' := [(0, vr Z 26 0), (1, vi a1), (2, vi a2)]) rfl ?_
  refine wq_aload_n_b dX13_at_0 0 rfl rfl ?_
  refine g_26_0_b ln_RX13_9 dX13_at_1 ?_
  refine wq_bipush_b dX13_at_4 (by decide) ?_
  refine wq_sipush_b dX13_at_6 (by decide) ?_
  refine wq_iload_n_b dX13_at_9 1 rfl rfl ?_
  refine wq_imul_b dX13_at_10 ?_
  refine wq_iadd_b dX13_at_11 ?_
  refine wq_iload_n_b dX13_at_12 2 rfl rfl ?_
  refine wq_iadd_b dX13_at_13 ?_
  refine wq_grd_b (fun g1 => ?_)
  refine wq_iald_b (k := 27) (i := 0) rfl (by decide) rfl rfl (m := 16860) g1 (Nat.le_of_ble_eq_true rfl) dX13_at_14 ?_
  exact wq_iret_b rfl rfl dX13_at_15
set_option maxRecDepth 20000 in
theorem R_M_puts_b (Z : ZT) (a1 : Int) (a2 : Int) (a3 : Int) (I : Mem) (r : Unit) (J : Mem) (hf : f_M_puts a1 a2 a3 I = some (r, J)) : Runs_b Z yX13_puts cX13_puts 4 (none) 1 [vr Z 26 0, vi a1, vi a2, vi a3] I (none, J) := by
  refine Runs_b.of (rv := fun _ => none) (by decide +kernel) (Nat.le_of_ble_eq_true rfl) hf (fun gr => ?_)
  unfold f_M_puts
  refine WQ_b.loc [0, 1, 2, 3] (lv' := [(0, vr Z 26 0), (1, vi a1), (2, vi a2), (3, vi a3)]) rfl ?_
  refine wq_aload_n_b dX13_puts_0 0 rfl rfl ?_
  refine g_26_0_b ln_RX13_9 dX13_puts_1 ?_
  refine wq_bipush_b dX13_puts_4 (by decide) ?_
  refine wq_sipush_b dX13_puts_6 (by decide) ?_
  refine wq_iload_n_b dX13_puts_9 1 rfl rfl ?_
  refine wq_imul_b dX13_puts_10 ?_
  refine wq_iadd_b dX13_puts_11 ?_
  refine wq_iload_n_b dX13_puts_12 2 rfl rfl ?_
  refine wq_iadd_b dX13_puts_13 ?_
  refine wq_iload_n_b dX13_puts_14 3 rfl rfl ?_
  refine wq_grd_b (fun g1 => ?_)
  refine wq_iast_b (k := 27) (i := 0) (fun _ _ => rfl) (by decide) rfl rfl (m := 16860) g1 (Nat.le_of_ble_eq_true rfl) (by decide) (by decide) (by decide) dX13_puts_15 (fun J2 => ?_)
  exact wq_vret_b rfl rfl dX13_puts_16
set_option maxRecDepth 20000 in
theorem R_M_adds_b (Z : ZT) (a1 : Int) (a2 : Int) (I : Mem) (r : Unit) (J : Mem) (hf : f_M_adds a1 a2 I = some (r, J)) : Runs_b Z yX13_adds cX13_adds 3 (none) 2 [vr Z 26 0, vi a1, vi a2] I (none, J) := by
  refine Runs_b.of (rv := fun _ => none) (by decide +kernel) (Nat.le_of_ble_eq_true rfl) hf (fun gr => ?_)
  unfold f_M_adds
  refine WQ_b.loc [0, 1, 2] (lv' := [(0, vr Z 26 0), (1, vi a1), (2, vi a2)]) rfl ?_
  refine wq_aload_n_b dX13_adds_0 0 rfl rfl ?_
  refine wq_iload_n_b dX13_adds_1 1 rfl rfl ?_
  refine wq_aload_n_b dX13_adds_2 0 rfl rfl ?_
  refine wq_iload_n_b dX13_adds_3 1 rfl rfl ?_
  refine wq_cVi_b M_M_many (R_M_many_b Z a1 _) ob_26_b rfl rfl (by decide) (by decide) (Nat.le_of_ble_eq_true rfl) ln_RX13_103 dX13_adds_4 (fun gr1 x3 J2 => ?_)
  refine wq_iload_n_b dX13_adds_7 2 rfl rfl ?_
  refine wq_cVv_b M_M_puts (R_M_puts_b Z a1 x3 a2 _) ob_26_b rfl rfl (by decide) (by decide) (Nat.le_of_ble_eq_true rfl) ln_RX13_107 dX13_adds_8 (fun gr4 _ J5 => ?_)
  refine wq_aload_n_b dX13_adds_11 0 rfl rfl ?_
  refine g_26_0_b ln_RX13_9 dX13_adds_12 ?_
  refine wq_bipush_b dX13_adds_15 (by decide) ?_
  refine wq_iload_n_b dX13_adds_17 1 rfl rfl ?_
  refine wq_iadd_b dX13_adds_18 ?_
  refine wq_dup2_b dX13_adds_19 rfl rfl ?_
  refine wq_grd_b (fun g7 => ?_)
  refine wq_iald_b (k := 27) (i := 0) rfl (by decide) rfl rfl (m := 16860) g7 (Nat.le_of_ble_eq_true rfl) dX13_adds_20 ?_
  refine wq_iconst_b dX13_adds_21 ?_
  refine wq_iadd_b dX13_adds_22 ?_
  refine wq_iast_b (k := 27) (i := 0) (fun _ _ => rfl) (by decide) rfl rfl (m := 16860) g7 (Nat.le_of_ble_eq_true rfl) (by decide) (by decide) (by decide) dX13_adds_23 (fun J8 => ?_)
  exact wq_vret_b rfl rfl dX13_adds_24
set_option maxRecDepth 20000 in
theorem R_M_isHere_b (Z : ZT) (a1 : Int) (I : Mem) (r : Int) (J : Mem) (hf : f_M_isHere a1 I = some (r, J)) : Runs_b Z yX13_isHere cX13_isHere 2 (some .boolean) 2 [vr Z 26 0, vi a1] I (some (vi r), J) := by
  refine Runs_b.of (rv := fun x => some (vi x)) (by decide +kernel) (Nat.le_of_ble_eq_true rfl) hf (fun gr => ?_)
  unfold f_M_isHere
  refine WQ_b.loc [0, 1] (lv' := [(0, vr Z 26 0), (1, vi a1)]) rfl ?_
  refine wq_aload_n_b dX13_isHere_0 0 rfl rfl ?_
  refine wq_iload_n_b dX13_isHere_1 1 rfl rfl ?_
  refine wq_iconst_b dX13_isHere_2 ?_
  refine wq_iadd_b dX13_isHere_3 ?_
  refine wq_cVi_b M_M_many (R_M_many_b Z (a1 + 1) _) ob_26_b rfl rfl (by decide) (by decide) (Nat.le_of_ble_eq_true rfl) ln_RX13_103 dX13_isHere_4 (fun gr1 x3 J2 => ?_)
  refine wq_if_le_b 14 dX13_isHere_7 (by decide) rfl (fun c4 => ?_) (fun c4 => ?_)
  · refine wq_iconst_b dX13_isHere_10 ?_
    refine wq_goto_b 15 dX13_isHere_11 (by decide) ?_
    exact wq_zret_b rfl (by decide) rfl dX13_isHere_15
  · refine wq_iconst_b dX13_isHere_14 ?_
    exact wq_zret_b rfl (by decide) rfl dX13_isHere_15
set_option maxRecDepth 20000 in
theorem R_M_rules_b (Z : ZT)  (I : Mem) (r : Int) (J : Mem) (hf : f_M_rules I = some (r, J)) : Runs_b Z yX13_rules cX13_rules 3 (some .int) 3 [vr Z 26 0] I (some (vi r), J) := by
  refine Runs_b.of (rv := fun x => some (vi x)) (by decide +kernel) (Nat.le_of_ble_eq_true rfl) hf (fun gr => ?_)
  unfold f_M_rules
  refine WQ_b.loc [0] (lv' := [(0, vr Z 26 0)]) rfl ?_
  refine wq_iconst_b dX13_rules_0 ?_
  refine wq_istore_n_b (lv' := [(1, vi 0), (0, vr Z 26 0)]) dX13_rules_1 rfl (by decide) rfl ?_
  refine wq_iconst_b dX13_rules_2 ?_
  refine wq_istore_n_b (lv' := [(2, vi 0), (1, vi 0), (0, vr Z 26 0)]) dX13_rules_3 rfl (by decide) rfl ?_
  refine WQ_b.loc [2, 1, 0] (lv' := [(0, vr Z 26 0), (1, vi 0), (2, vi 0)]) rfl ?_
  refine wq_loopS_b (fun s14 => [(0, vr Z 26 0), (1, vi s14.1), (2, vi s14.2)]) 27 (fun r22 => [(1, vi r22)]) (fun κ8 bk9 ex10 gr13 s14 J12 => ?_) (fun gr24 r22 J23 => ?_) gr _ rfl
  · unfold f_M_rules_w4
    refine wq_iload_n_b dX13_rules_4 2 rfl rfl ?_
    refine wq_bipush_b dX13_rules_5 (by decide) ?_
    refine wq_icmp_ge_b 27 dX13_rules_7 (by decide) rfl rfl (fun c21 => ?_) (fun c21 => ?_)
    · refine wq_iload_n_b dX13_rules_10 1 rfl rfl ?_
      refine wq_aload_n_b dX13_rules_11 0 rfl rfl ?_
      refine wq_iload_n_b dX13_rules_12 2 rfl rfl ?_
      refine wq_cVi_b M_M_isHere (R_M_isHere_b Z s14.2 _) ob_26_b rfl rfl (by decide) (by decide) (Nat.le_of_ble_eq_true rfl) ln_RX13_111 dX13_rules_13 (fun gr15 x17 J16 => ?_)
      refine wq_cSi_b M_M_one (R_M_one_b Z x17 _) rfl rfl rfl (by decide) (by decide) (Nat.le_of_ble_eq_true rfl) ln_RX13_115 dX13_rules_16 (fun gr18 x20 J19 => ?_)
      refine wq_iadd_b dX13_rules_19 ?_
      refine wq_istore_n_b (lv' := [(1, vi (s14.1 + x20)), (0, vr Z 26 0), (2, vi s14.2)]) dX13_rules_20 rfl (by decide) rfl ?_
      refine wq_iinc_b (lv' := [(2, vi (s14.2 + 1)), (1, vi (s14.1 + x20)), (0, vr Z 26 0)]) dX13_rules_21 2 rfl (by decide) rfl ?_
      refine wq_goto_b 4 dX13_rules_24 (by decide) ?_
      exact WQ_b.loc [2, 1, 0] rfl (bk9 _ _ _)
    · exact WQ_b.loc [1] rfl (ex10 _ _ _)
  · refine wq_iload_n_b dX13_rules_27 0 rfl rfl ?_
    exact wq_iret_b rfl rfl dX13_rules_28
set_option maxRecDepth 20000 in
theorem R_M_unfolds_b (Z : ZT)  (I : Mem) (r : Int) (J : Mem) (hf : f_M_unfolds I = some (r, J)) : Runs_b Z yX13_unfolds cX13_unfolds 6 (some .int) 2 [vr Z 26 0] I (some (vi r), J) := by
  refine Runs_b.of (rv := fun x => some (vi x)) (by decide +kernel) (Nat.le_of_ble_eq_true rfl) hf (fun gr => ?_)
  unfold f_M_unfolds
  refine WQ_b.loc [0] (lv' := [(0, vr Z 26 0)]) rfl ?_
  refine wq_iconst_b dX13_unfolds_0 ?_
  refine wq_istore_n_b (lv' := [(1, vi 0), (0, vr Z 26 0)]) dX13_unfolds_1 rfl (by decide) rfl ?_
  refine wq_iconst_b dX13_unfolds_2 ?_
  refine wq_istore_n_b (lv' := [(2, vi 0), (1, vi 0), (0, vr Z 26 0)]) dX13_unfolds_3 rfl (by decide) rfl ?_
  refine WQ_b.loc [2, 1, 0] (lv' := [(0, vr Z 26 0), (1, vi 0), (2, vi 0)]) rfl ?_
  refine wq_loopS_b (fun s131 => [(0, vr Z 26 0), (1, vi s131.1), (2, vi s131.2)]) 199 (fun r185 => [(1, vi r185)]) (fun κ125 bk126 ex127 gr130 s131 J129 => ?_) (fun gr187 r185 J186 => ?_) gr _ rfl
  · unfold f_M_unfolds_w4
    refine wq_iload_n_b dX13_unfolds_4 2 rfl rfl ?_
    refine wq_aload_n_b dX13_unfolds_5 0 rfl rfl ?_
    refine wq_iconst_b dX13_unfolds_6 ?_
    refine wq_cVi_b M_M_many (R_M_many_b Z 0 _) ob_26_b rfl rfl (by decide) (by decide) (Nat.le_of_ble_eq_true rfl) ln_RX13_103 dX13_unfolds_7 (fun gr132 x134 J133 => ?_)
    refine wq_icmp_ge_b 199 dX13_unfolds_10 (by decide) rfl rfl (fun c184 => ?_) (fun c184 => ?_)
    · refine wq_iconst_b dX13_unfolds_13 ?_
      refine wq_istore_n_b (lv' := [(3, vi 0), (0, vr Z 26 0), (1, vi s131.1), (2, vi s131.2)]) dX13_unfolds_14 rfl (by decide) rfl ?_
      refine wq_aload_n_b dX13_unfolds_15 1 rfl rfl ?_
      refine g_26_13_b ln_RX13_43 dX13_unfolds_16 ?_
      refine wq_iconst_b dX13_unfolds_19 ?_
      refine wq_iconst_b dX13_unfolds_20 ?_
      refine wq_iast_b (k := 27) (i := 9) (fun _ _ => rfl) (by decide) rfl rfl (m := 42) (by decide) (Nat.le_of_ble_eq_true rfl) (by decide) (by decide) (by decide) dX13_unfolds_21 (fun J136 => ?_)
      refine wq_aload_n_b dX13_unfolds_22 1 rfl rfl ?_
      refine g_26_14_b ln_RX13_46 dX13_unfolds_23 ?_
      refine wq_iconst_b dX13_unfolds_26 ?_
      refine wq_iload_n_b dX13_unfolds_27 3 rfl rfl ?_
      refine wq_iast_b (k := 27) (i := 10) (fun _ _ => rfl) (by decide) rfl rfl (m := 42) (by decide) (Nat.le_of_ble_eq_true rfl) (by decide) (by decide) (by decide) dX13_unfolds_28 (fun J138 => ?_)
      refine WQ_b.loc [1, 2, 3, 0] (lv' := [(0, vr Z 26 0), (1, vi s131.1), (2, vi s131.2), (3, vi 0)]) rfl ?_
      refine wq_loopS_b (fun s145 => [(0, vr Z 26 0), (1, vi s145.1), (2, vi s131.2), (3, vi s145.2)]) 193 (fun r181 => [(0, vr Z 26 0), (1, vi r181), (2, vi s131.2)]) (fun κ139 bk140 ex141 gr144 s145 J143 => ?_) (fun gr183 r181 J182 => ?_) gr132 _ rfl
      · unfold f_M_unfolds_w29
        refine wq_iload_n_b dX13_unfolds_29 3 rfl rfl ?_
        refine wq_if_lt_b 193 dX13_unfolds_30 (by decide) rfl (fun c180 => ?_) (fun c180 => ?_)
        · exact WQ_b.loc [0, 1, 2] rfl (ex141 _ _ _)
        · refine wq_iload_n_b dX13_unfolds_33 3 rfl rfl ?_
          have hj146 : ∀ (gr155 : Nat → Nat)  (hj146e0 : Int) (J154 : Mem), WQ_b Z (yX13_unfolds, cX13_unfolds, 6, some .int, 2) I gr155 61 [(0, vr Z 26 0), (1, vi s145.1), (2, vi s131.2), (3, vi s145.2)] [vi hj146e0] J154 (f_M_unfolds_j61 s145.1 s131.2 s145.2 hj146e0 J154) κ139 := by
            intro gr155 hj146e0 J154
            unfold f_M_unfolds_j61
            refine wq_istore_b (lv' := [(4, vi hj146e0), (0, vr Z 26 0), (1, vi s145.1), (2, vi s131.2), (3, vi s145.2)]) dX13_unfolds_61 (by decide) rfl ?_
            refine wq_iload_b dX13_unfolds_63 0 rfl ?_
            have hj156 : ∀ (gr163 : Nat → Nat)  (hj156e0 : Int) (J162 : Mem), WQ_b Z (yX13_unfolds, cX13_unfolds, 6, some .int, 2) I gr163 88 [(0, vr Z 26 0), (1, vi s145.1), (2, vi s131.2), (3, vi s145.2), (4, vi hj146e0)] [vi hj156e0] J162 (f_M_unfolds_j88 s145.1 s131.2 s145.2 hj146e0 hj156e0 J162) κ139 := by
              intro gr163 hj156e0 J162
              unfold f_M_unfolds_j88
              refine wq_istore_b (lv' := [(5, vi hj156e0), (0, vr Z 26 0), (1, vi s145.1), (2, vi s131.2), (3, vi s145.2), (4, vi hj146e0)]) dX13_unfolds_88 (by decide) rfl ?_
              refine wq_iload_b dX13_unfolds_90 5 rfl ?_
              refine wq_if_eq_b 120 dX13_unfolds_92 (by decide) rfl (fun c177 => ?_) (fun c177 => ?_)
              · refine wq_iload_b dX13_unfolds_120 0 rfl ?_
                refine wq_bipush_b dX13_unfolds_122 (by decide) ?_
                refine wq_icmp_ge_b 167 dX13_unfolds_124 (by decide) rfl rfl (fun c173 => ?_) (fun c173 => ?_)
                · refine wq_aload_n_b dX13_unfolds_127 1 rfl rfl ?_
                  refine g_26_11_b ln_RX13_37 dX13_unfolds_128 ?_
                  refine wq_iload_n_b dX13_unfolds_131 2 rfl rfl ?_
                  refine wq_iload_b dX13_unfolds_132 0 rfl ?_
                  refine wq_grd_b (fun g167 => ?_)
                  refine wq_iast_b (k := 27) (i := 7) (fun _ _ => rfl) (by decide) rfl rfl (m := 401) g167 (Nat.le_of_ble_eq_true rfl) (by decide) (by decide) (by decide) dX13_unfolds_134 (fun J168 => ?_)
                  refine wq_aload_n_b dX13_unfolds_135 1 rfl rfl ?_
                  refine g_26_12_b ln_RX13_40 dX13_unfolds_136 ?_
                  refine wq_iload_n_b dX13_unfolds_139 2 rfl rfl ?_
                  refine wq_iload_n_b dX13_unfolds_140 3 rfl rfl ?_
                  refine wq_iast_b (k := 27) (i := 8) (fun _ _ => rfl) (by decide) rfl rfl (m := 401) g167 (Nat.le_of_ble_eq_true rfl) (by decide) (by decide) (by decide) dX13_unfolds_141 (fun J169 => ?_)
                  refine wq_iinc_b (lv' := [(1, vi (s145.1 + 1)), (5, vi hj156e0), (0, vr Z 26 0), (2, vi s131.2), (3, vi s145.2), (4, vi hj146e0)]) dX13_unfolds_142 2 rfl (by decide) rfl ?_
                  refine wq_iload_n_b dX13_unfolds_145 4 rfl rfl ?_
                  refine wq_if_le_b 162 dX13_unfolds_146 (by decide) rfl (fun c172 => ?_) (fun c172 => ?_)
                  · refine wq_aload_n_b dX13_unfolds_149 2 rfl rfl ?_
                    refine g_26_14_b ln_RX13_46 dX13_unfolds_150 ?_
                    refine wq_iload_n_b dX13_unfolds_153 4 rfl rfl ?_
                    refine wq_dup2_b dX13_unfolds_154 rfl rfl ?_
                    refine wq_grd_b (fun g170 => ?_)
                    refine wq_iald_b (k := 27) (i := 10) rfl (by decide) rfl rfl (m := 42) g170 (Nat.le_of_ble_eq_true rfl) dX13_unfolds_155 ?_
                    refine wq_iconst_b dX13_unfolds_156 ?_
                    refine wq_iadd_b dX13_unfolds_157 ?_
                    refine wq_iast_b (k := 27) (i := 10) (fun _ _ => rfl) (by decide) rfl rfl (m := 42) g170 (Nat.le_of_ble_eq_true rfl) (by decide) (by decide) (by decide) dX13_unfolds_158 (fun J171 => ?_)
                    refine wq_goto_b 190 dX13_unfolds_159 (by decide) ?_
                    refine wq_goto_b 29 dX13_unfolds_190 (by decide) ?_
                    exact WQ_b.loc [2, 0, 3, 4] rfl (bk140 _ _ _)
                  · refine wq_iconst_b dX13_unfolds_162 ?_
                    refine wq_istore_n_b (lv' := [(3, vi (-1)), (1, vi (s145.1 + 1)), (5, vi hj156e0), (0, vr Z 26 0), (2, vi s131.2), (4, vi hj146e0)]) dX13_unfolds_163 rfl (by decide) rfl ?_
                    refine wq_goto_b 190 dX13_unfolds_164 (by decide) ?_
                    refine wq_goto_b 29 dX13_unfolds_190 (by decide) ?_
                    exact WQ_b.loc [3, 1, 4, 0] rfl (bk140 _ _ _)
                · refine wq_iinc_b (lv' := [(3, vi (s145.2 + 1)), (5, vi hj156e0), (0, vr Z 26 0), (1, vi s145.1), (2, vi s131.2), (4, vi hj146e0)]) dX13_unfolds_167 4 rfl (by decide) rfl ?_
                  refine wq_aload_n_b dX13_unfolds_170 2 rfl rfl ?_
                  refine g_26_13_b ln_RX13_43 dX13_unfolds_171 ?_
                  refine wq_iload_n_b dX13_unfolds_174 0 rfl rfl ?_
                  refine wq_iload_b dX13_unfolds_175 1 rfl ?_
                  refine wq_bipush_b dX13_unfolds_177 (by decide) ?_
                  refine wq_isub_b dX13_unfolds_179 ?_
                  refine wq_iconst_b dX13_unfolds_180 ?_
                  refine wq_iadd_b dX13_unfolds_181 ?_
                  refine wq_grd_b (fun g164 => ?_)
                  refine wq_iast_b (k := 27) (i := 9) (fun _ _ => rfl) (by decide) rfl rfl (m := 42) g164 (Nat.le_of_ble_eq_true rfl) (by decide) (by decide) (by decide) dX13_unfolds_182 (fun J165 => ?_)
                  refine wq_aload_n_b dX13_unfolds_183 2 rfl rfl ?_
                  refine g_26_14_b ln_RX13_46 dX13_unfolds_184 ?_
                  refine wq_iload_n_b dX13_unfolds_187 0 rfl rfl ?_
                  refine wq_iconst_b dX13_unfolds_188 ?_
                  refine wq_iast_b (k := 27) (i := 10) (fun _ _ => rfl) (by decide) rfl rfl (m := 42) g164 (Nat.le_of_ble_eq_true rfl) (by decide) (by decide) (by decide) dX13_unfolds_189 (fun J166 => ?_)
                  refine wq_goto_b 29 dX13_unfolds_190 (by decide) ?_
                  exact WQ_b.loc [2, 3, 4, 0] rfl (bk140 _ _ _)
              · refine wq_iinc_b (lv' := [(3, vi (s145.2 + (-1))), (5, vi hj156e0), (0, vr Z 26 0), (1, vi s145.1), (2, vi s131.2), (4, vi hj146e0)]) dX13_unfolds_95 4 rfl (by decide) rfl ?_
                refine wq_iload_n_b dX13_unfolds_98 0 rfl rfl ?_
                refine wq_if_le_b 115 dX13_unfolds_99 (by decide) rfl (fun c176 => ?_) (fun c176 => ?_)
                · refine wq_aload_n_b dX13_unfolds_102 2 rfl rfl ?_
                  refine g_26_14_b ln_RX13_46 dX13_unfolds_103 ?_
                  refine wq_iload_n_b dX13_unfolds_106 0 rfl rfl ?_
                  refine wq_dup2_b dX13_unfolds_107 rfl rfl ?_
                  refine wq_grd_b (fun g174 => ?_)
                  refine wq_iald_b (k := 27) (i := 10) rfl (by decide) rfl rfl (m := 42) g174 (Nat.le_of_ble_eq_true rfl) dX13_unfolds_108 ?_
                  refine wq_iconst_b dX13_unfolds_109 ?_
                  refine wq_iadd_b dX13_unfolds_110 ?_
                  refine wq_iast_b (k := 27) (i := 10) (fun _ _ => rfl) (by decide) rfl rfl (m := 42) g174 (Nat.le_of_ble_eq_true rfl) (by decide) (by decide) (by decide) dX13_unfolds_111 (fun J175 => ?_)
                  refine wq_goto_b 190 dX13_unfolds_112 (by decide) ?_
                  refine wq_goto_b 29 dX13_unfolds_190 (by decide) ?_
                  exact WQ_b.loc [2, 3, 4, 0] rfl (bk140 _ _ _)
                · refine wq_iconst_b dX13_unfolds_115 ?_
                  refine wq_istore_n_b (lv' := [(3, vi (-1)), (5, vi hj156e0), (0, vr Z 26 0), (1, vi s145.1), (2, vi s131.2), (4, vi hj146e0)]) dX13_unfolds_116 rfl (by decide) rfl ?_
                  refine wq_goto_b 190 dX13_unfolds_117 (by decide) ?_
                  refine wq_goto_b 29 dX13_unfolds_190 (by decide) ?_
                  exact WQ_b.loc [2, 3, 4, 0] rfl (bk140 _ _ _)
            refine wq_if_eq_b 72 dX13_unfolds_65 (by decide) rfl (fun c161 => ?_) (fun c161 => ?_)
            · refine wq_aload_n_b dX13_unfolds_72 1 rfl rfl ?_
              refine wq_aload_n_b dX13_unfolds_73 1 rfl rfl ?_
              refine g_26_13_b ln_RX13_43 dX13_unfolds_74 ?_
              refine wq_iload_n_b dX13_unfolds_77 4 rfl rfl ?_
              refine wq_grd_b (fun g157 => ?_)
              refine wq_iald_b (k := 27) (i := 9) rfl (by decide) rfl rfl (m := 42) g157 (Nat.le_of_ble_eq_true rfl) dX13_unfolds_78 ?_
              refine wq_aload_n_b dX13_unfolds_79 1 rfl rfl ?_
              refine g_26_14_b ln_RX13_46 dX13_unfolds_80 ?_
              refine wq_iload_n_b dX13_unfolds_83 4 rfl rfl ?_
              refine wq_iald_b (k := 27) (i := 10) rfl (by decide) rfl rfl (m := 42) g157 (Nat.le_of_ble_eq_true rfl) dX13_unfolds_84 ?_
              refine wq_cVi_b M_M_at (R_M_at_b Z (J154 27 9 (w32 s145.2).toNat) (J154 27 10 (w32 s145.2).toNat) _) ob_26_b rfl rfl (by decide) (by decide) (Nat.le_of_ble_eq_true rfl) ln_RX13_119 dX13_unfolds_85 (fun gr158 x160 J159 => ?_)
              exact WQ_b.loc [1, 2, 3, 4, 0] rfl (hj156 _  _ _)
            · refine wq_iconst_b dX13_unfolds_68 ?_
              refine wq_goto_b 88 dX13_unfolds_69 (by decide) ?_
              exact WQ_b.loc [1, 2, 3, 4, 0] rfl (hj156 _  _ _)
          have hj147 : ∀ (gr179 : Nat → Nat)   (J178 : Mem), WQ_b Z (yX13_unfolds, cX13_unfolds, 6, some .int, 2) I gr179 60 [(0, vr Z 26 0), (1, vi s145.1), (2, vi s131.2), (3, vi s145.2)] [] J178 (f_M_unfolds_j60 s145.1 s131.2 s145.2 J178) κ139 := by
            intro gr179 J178
            unfold f_M_unfolds_j60
            refine wq_iconst_b dX13_unfolds_60 ?_
            exact WQ_b.loc [0, 1, 2, 3] rfl (hj146 _  _ _)
          refine wq_if_le_b 60 dX13_unfolds_34 (by decide) rfl (fun c153 => ?_) (fun c153 => ?_)
          · refine wq_aload_n_b dX13_unfolds_37 0 rfl rfl ?_
            refine g_26_14_b ln_RX13_46 dX13_unfolds_38 ?_
            refine wq_iload_n_b dX13_unfolds_41 3 rfl rfl ?_
            refine wq_grd_b (fun g148 => ?_)
            refine wq_iald_b (k := 27) (i := 10) rfl (by decide) rfl rfl (m := 42) g148 (Nat.le_of_ble_eq_true rfl) dX13_unfolds_42 ?_
            refine wq_aload_n_b dX13_unfolds_43 0 rfl rfl ?_
            refine wq_aload_n_b dX13_unfolds_44 0 rfl rfl ?_
            refine g_26_13_b ln_RX13_43 dX13_unfolds_45 ?_
            refine wq_iload_n_b dX13_unfolds_48 3 rfl rfl ?_
            refine wq_iald_b (k := 27) (i := 9) rfl (by decide) rfl rfl (m := 42) g148 (Nat.le_of_ble_eq_true rfl) dX13_unfolds_49 ?_
            refine wq_cVi_b M_M_many (R_M_many_b Z (J143 27 9 (w32 s145.2).toNat) _) ob_26_b rfl rfl (by decide) (by decide) (Nat.le_of_ble_eq_true rfl) ln_RX13_103 dX13_unfolds_50 (fun gr149 x151 J150 => ?_)
            refine wq_icmp_ne_b 60 dX13_unfolds_53 (by decide) rfl rfl (fun c152 => ?_) (fun c152 => ?_)
            · refine wq_iconst_b dX13_unfolds_56 ?_
              refine wq_goto_b 61 dX13_unfolds_57 (by decide) ?_
              exact WQ_b.loc [0, 1, 2, 3] rfl (hj146 _  _ _)
            · exact WQ_b.loc [0, 1, 2, 3] rfl (hj147 _   _)
          · exact WQ_b.loc [0, 1, 2, 3] rfl (hj147 _   _)
      · refine wq_iinc_b (lv' := [(2, vi (s131.2 + 1)), (0, vr Z 26 0), (1, vi r181)]) dX13_unfolds_193 2 rfl (by decide) rfl ?_
        refine wq_goto_b 4 dX13_unfolds_196 (by decide) ?_
        exact WQ_b.loc [1, 2, 0] rfl (bk126 _ _ _)
    · exact WQ_b.loc [1] rfl (ex127 _ _ _)
  · refine wq_iload_n_b dX13_unfolds_199 0 rfl rfl ?_
    exact wq_iret_b rfl rfl dX13_unfolds_200
set_option maxRecDepth 20000 in
theorem R_M_tellsText_b (Z : ZT)  (I : Mem) (r : Unit) (J : Mem) (hf : f_M_tellsText I = some (r, J)) : Runs_b Z yX13_tellsText cX13_tellsText 2 (none) 4 [vr Z 26 0] I (none, J) := by
  refine Runs_b.of (rv := fun _ => none) (by decide +kernel) (Nat.le_of_ble_eq_true rfl) hf (fun gr => ?_)
  unfold f_M_tellsText
  refine WQ_b.loc [0] (lv' := [(0, vr Z 26 0)]) rfl ?_
  refine wq_aload_n_b dX13_tellsText_0 0 rfl rfl ?_
  refine g_26_0_b ln_RX13_9 dX13_tellsText_1 ?_
  refine wq_iconst_b dX13_tellsText_4 ?_
  refine wq_aload_n_b dX13_tellsText_5 0 rfl rfl ?_
  refine wq_cVi_b M_M_unfolds (R_M_unfolds_b Z _) ob_26_b rfl rfl (by decide) (by decide) (Nat.le_of_ble_eq_true rfl) ln_RX13_140 dX13_tellsText_6 (fun gr1 x3 J2 => ?_)
  refine wq_iast_b (k := 27) (i := 0) (fun _ _ => rfl) (by decide) rfl rfl (m := 16860) (by decide) (Nat.le_of_ble_eq_true rfl) (by decide) (by decide) (by decide) dX13_tellsText_9 (fun J5 => ?_)
  refine wq_iconst_b dX13_tellsText_10 ?_
  refine wq_istore_n_b (lv' := [(1, vi 0), (0, vr Z 26 0)]) dX13_tellsText_11 rfl (by decide) rfl ?_
  refine WQ_b.loc [1, 0] (lv' := [(0, vr Z 26 0), (1, vi 0)]) rfl ?_
  refine wq_loopS_b (fun s17 => [(0, vr Z 26 0), (1, vi s17)]) 44 (fun _ => [(0, vr Z 26 0)]) (fun κ11 bk12 ex13 gr16 s17 J15 => ?_) (fun gr25 r23 J24 => ?_) gr1 _ rfl
  · unfold f_M_tellsText_w12
    refine wq_iload_n_b dX13_tellsText_12 1 rfl rfl ?_
    refine wq_aload_n_b dX13_tellsText_13 0 rfl rfl ?_
    refine g_26_0_b ln_RX13_9 dX13_tellsText_14 ?_
    refine wq_iconst_b dX13_tellsText_17 ?_
    refine wq_iald_b (k := 27) (i := 0) rfl (by decide) rfl rfl (m := 16860) (by decide) (Nat.le_of_ble_eq_true rfl) dX13_tellsText_18 ?_
    refine wq_icmp_ge_b 44 dX13_tellsText_19 (by decide) rfl rfl (fun c22 => ?_) (fun c22 => ?_)
    · refine wq_aload_n_b dX13_tellsText_22 0 rfl rfl ?_
      refine g_26_0_b ln_RX13_9 dX13_tellsText_23 ?_
      refine wq_sipush_b dX13_tellsText_26 (by decide) ?_
      refine wq_iload_n_b dX13_tellsText_29 1 rfl rfl ?_
      refine wq_iadd_b dX13_tellsText_30 ?_
      refine wq_aload_n_b dX13_tellsText_31 0 rfl rfl ?_
      refine g_26_11_b ln_RX13_37 dX13_tellsText_32 ?_
      refine wq_iload_n_b dX13_tellsText_35 1 rfl rfl ?_
      refine wq_grd_b (fun g19 => ?_)
      refine wq_iald_b (k := 27) (i := 7) rfl (by decide) rfl rfl (m := 401) g19 (Nat.le_of_ble_eq_true rfl) dX13_tellsText_36 ?_
      refine wq_grd_b (fun g20 => ?_)
      refine wq_iast_b (k := 27) (i := 0) (fun _ _ => rfl) (by decide) rfl rfl (m := 16860) g20 (Nat.le_of_ble_eq_true rfl) (by decide) (by decide) (by decide) dX13_tellsText_37 (fun J21 => ?_)
      refine wq_iinc_b (lv' := [(1, vi (s17 + 1)), (0, vr Z 26 0)]) dX13_tellsText_38 1 rfl (by decide) rfl ?_
      refine wq_goto_b 12 dX13_tellsText_41 (by decide) ?_
      exact WQ_b.loc [1, 0] rfl (bk12 _ _ _)
    · exact WQ_b.loc [0] rfl (ex13 _ _ _)
  · refine wq_aload_n_b dX13_tellsText_44 0 rfl rfl ?_
    refine g_26_0_b ln_RX13_9 dX13_tellsText_45 ?_
    refine wq_iconst_b dX13_tellsText_48 ?_
    refine wq_aload_n_b dX13_tellsText_49 0 rfl rfl ?_
    refine wq_cVi_b M_M_rules (R_M_rules_b Z _) ob_26_b rfl rfl (by decide) (by decide) (Nat.le_of_ble_eq_true rfl) ln_RX13_144 dX13_tellsText_50 (fun gr26 x28 J27 => ?_)
    refine wq_iast_b (k := 27) (i := 0) (fun _ _ => rfl) (by decide) rfl rfl (m := 16860) (by decide) (Nat.le_of_ble_eq_true rfl) (by decide) (by decide) (by decide) dX13_tellsText_53 (fun J30 => ?_)
    exact wq_vret_b rfl rfl dX13_tellsText_54
