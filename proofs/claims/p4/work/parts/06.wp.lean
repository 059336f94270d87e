/-! ===== the words for every method, the static things, a method's run over the logical memory ===== -/
def wNames : List String := ["RULE", "START", "INLINE", "LEAST", "TIE", "MODE", "STEP", "INLINED", "MAKE", "EXPAND", "APPEND", "CUT", "AGAIN", "CLOSE", "OTHE\x52"]
def wFld : List (String × String × String × List Int32) := [("java/lang/Enum", "ordinal", "I", [0, 1, 2, 3, 4, 5, 6, 7, 8, 9, 10, 11, 12, 13, 14]), (RX11, "orders", "Z", [0, 0, 0, 1, 1, 1, 1, 1, 1, 1, 1, 1, 1, 0, 0]), (RX11, "lowest", "I", [0, 0, 0, 2, 0, 0, 1, 0, 0, 0, 0, 1, 0, 0, 0]), (RX11, "highest", "I", [39, 0, 1, 9, 2, 1, 50, 0, 0, 39, 0, 400, 20, 0, 0])]
def wText : List (List Int) := [[114, 117, 108, 101], [115, 116, 97, 114, 116], [105, 110, 108, 105, 110, 101], [108, 101, 97, 115, 116], [116, 105, 101], [109, 111, 100, 101], [115, 116, 101, 112], [105, 110, 108, 105, 110, 101, 100], [109, 97, 107, 101], [101, 120, 112, 97, 110, 100], [97, 112, 112, 101, 110, 100], [99, 117, 116], [97, 103, 97, 105, 110], [41], []]
def wSm : List Int := [0, 0, 0, 7, 8, 9, 1, 2, 3, 4, 5, 6, 10, 0, 0]
def wLdc : List (Nat × String × Nat) := [(316, "rule", 0), (321, "start", 1), (296, "inline", 2), (288, "least", 3), (294, "tie", 4), (357, "mode", 5), (345, "step", 6), (347, "inlined", 7), (349, "make", 8), (351, "expand", 9), (353, "append", 10), (355, "cut", 11), (359, "again", 12)]
abbrev zN (Z : ZT) : Nat → Prop := fun q => zB Z ≤ q
/-- words that hold wherever the tables are warmer, and are handed on by themselves -/
def nwW : Cond → Bool
  | .methodLinkNest .. => true
  | .fieldLinkNest .. => true
  | .declares _ => true
  | .castable .. => true
  | _ => false
def lw_nw : List Cond := lw_tbl.filter nwW
theorem nw_warm {w : Cond} (hw : w ∈ lw_nw) {s U : State} (hW : s.WarmedH U.vm) (h : va_Nw w s) : va_Nw w U := by
  have hw := (List.mem_filter.mp hw).2
  cases w <;> first | exact h.warmM hW | exact h.warmF hW | exact h.warmD hW | exact h.warmC hW | cases hw
theorem nw_same {w : Cond} (hw : w ∈ lw_nw) {s U : State} (hv : U.vm = s.vm) (h : va_Nw w s) : va_Nw w U := by
  have hw := (List.mem_filter.mp hw).2
  cases w <;> first | exact va_Nw.same rfl hv.symm h | cases hw
theorem nw_in {w : Cond} (i : Nat) (h : lw_tbl[i]? = some w) (hg : nwW w = true) : w ∈ lw_nw := List.mem_filter.mpr ⟨List.mem_of_getElem? h, hg⟩
/-- classes that are not one another's -/
def wNot : List (String × String) := [("java/lang/IndexOutOfBoundsException", "java/lang/IllegalArgumentException"), ("java/util/NoSuchElementException", "java/lang/IllegalArgumentException"), ("java/lang/IllegalArgumentException", "java/lang/IndexOutOfBoundsException"), ("java/util/NoSuchElementException", "java/lang/IndexOutOfBoundsException"), ("java/lang/IllegalArgumentException", "java/util/NoSuchElementException"), ("java/lang/IndexOutOfBoundsException", "java/util/NoSuchElementException")]
def Sta (Z : ZT) (U : State) : Prop :=
  va_En RX11 "LPairRules$Word;" wNames wFld (zA Z 11) (zN Z) U (zH Z) ∧
  va_Ef 15 RX11 "text" "Ljava/lang/String;" (fun i => .ref (zA Z 34 i)) (zA Z 11) (zN Z) U (zH Z) ∧
  vk_S 15 (wText.map List.length) (wText.map (fun l => l.map Int32.ofInt)) (zA Z 34) (zA Z 35) (zN Z) U (zH Z) ∧
  va_Z RX8 "WORDS" "[LPairRules$Word;" (.ref (zA Z 32 0)) (zN Z) U (zH Z) ∧
  va_T (.object RX11) (zA Z 32 0) 15 (fun j => .ref (zA Z 11 j)) (zN Z) U (zH Z) ∧
  va_Z RX0 "$SwitchMap$PairRules$Word" "[I" (.ref (zA Z 33 0)) (zN Z) U (zH Z) ∧
  va_T .int (zA Z 33 0) 15 (fun j => .int (Int32.ofInt (wSm.getD j 0))) (zN Z) U (zH Z) ∧
  (va_Z "java/lang/String" "COMPACT_STRINGS" "Z" (.int 1) (zN Z) U (zH Z) ∧ (∃ v : Value, v.category = 1 ∧ va_Z "jdk/internal/util/Preconditions" "SIOOBE_FORMATTER" "Ljava/util/function/BiFunction;" v (zN Z) U (zH Z)) ∧ vx_Zq Bundle.tN "UNASSIGNED_STACK" Bundle.steD (zN Z) U (zH Z) ∧ vx_Zq Bundle.tN "SUPPRESSED_SENTINEL" Bundle.listD (zN Z) U (zH Z) ∧ ∀ q ∈ wNot, va_Nc q.1 q.2 U) ∧
  (∀ q ∈ wLdc, vk_R RX13 q.1 q.2.1 (zA Z 34 q.2.2) U) ∧ ∀ w ∈ lw_nw, va_Nw w U
def KK (Z : ZT) (U : State) : Prop := va_K (zD Z) cls (tysOf Z) U ∧ Sta Z U
theorem Sta.warm {Z : ZT} {s U : State} (hW : s.WarmedH U.vm) (h : Sta Z s) : Sta Z U := by
  obtain ⟨h1, h2, h3, h4, h5, h6, h7, ⟨h8, ⟨v8, hc8, hz8⟩, hU8, hN8, hX8⟩, h9, hn⟩ := h
  have hv := hW.alike
  exact ⟨h1.moved hv, h2.moved hv, h3.moved hv, h4.moved hv, h5.moved hv, h6.moved hv, h7.moved hv, ⟨h8.moved hv, ⟨v8, hc8, hz8.moved hv⟩, vx_Zq.moved hv hU8, vx_Zq.moved hv hN8, fun q hq => (hX8 q hq).moved hv⟩, fun q hq => (h9 q hq).warm hW, fun w hw => nw_warm hw hW (hn w hw)⟩
theorem Sta.same {Z : ZT} {s U : State} (hv : U.vm = s.vm) (h : Sta Z s) : Sta Z U := by
  obtain ⟨h1, h2, h3, h4, h5, h6, h7, ⟨h8, ⟨v8, hc8, hz8⟩, hU8, hN8, hX8⟩, h9, hn⟩ := h
  have ha : s.vm.Alike U.vm := by rw [hv]; exact Vm.Alike.refl s.vm
  exact ⟨h1.moved ha, h2.moved ha, h3.moved ha, h4.moved ha, h5.moved ha, h6.moved ha, h7.moved ha, ⟨h8.moved ha, ⟨v8, hc8, hz8.moved ha⟩, vx_Zq.moved ha hU8, vx_Zq.moved ha hN8, fun q hq => (hX8 q hq).moved ha⟩, fun q hq => (h9 q hq).same hv, fun w hw => nw_same hw hv (hn w hw)⟩
theorem KK.warm {Z : ZT} {s U : State} (hW : s.WarmedH U.vm) (h : KK Z s) : KK Z U := ⟨va_K.moved hW.alike h.1, h.2.warm hW⟩
theorem KK.same {Z : ZT} {s U : State} (hv : U.vm = s.vm) (h : KK Z s) : KK Z U := ⟨va_K.moved (by rw [hv]; exact Vm.Alike.refl s.vm) h.1, h.2.same hv⟩
/-- the words that go from caller to callee -/
def lw_good : List Cond := lw_tbl.filter goodWord
theorem lw_in {w : Cond} (i : Nat) (h : lw_tbl[i]? = some w) (hg : goodWord w = true) : w ∈ lw_good := List.mem_filter.mpr ⟨List.mem_of_getElem? h, hg⟩
theorem li_1 {w : Cond} (i : Nat) (h : tables_1_1[i]? = some w) (hg : goodWord w = true) : w ∈ lw_good := List.mem_filter.mpr ⟨List.mem_append_right _ (lj_1 i h), hg⟩
theorem li_2 {w : Cond} (i : Nat) (h : tables_1_2[i]? = some w) (hg : goodWord w = true) : w ∈ lw_good := List.mem_filter.mpr ⟨List.mem_append_right _ (lj_2 i h), hg⟩
theorem li_3 {w : Cond} (i : Nat) (h : tables_1_3[i]? = some w) (hg : goodWord w = true) : w ∈ lw_good := List.mem_filter.mpr ⟨List.mem_append_right _ (lj_3 i h), hg⟩
theorem li_4 {w : Cond} (i : Nat) (h : tables_1_4[i]? = some w) (hg : goodWord w = true) : w ∈ lw_good := List.mem_filter.mpr ⟨List.mem_append_right _ (lj_4 i h), hg⟩
theorem li_5 {w : Cond} (i : Nat) (h : tables_1_5[i]? = some w) (hg : goodWord w = true) : w ∈ lw_good := List.mem_filter.mpr ⟨List.mem_append_right _ (lj_5 i h), hg⟩
theorem li_6 {w : Cond} (i : Nat) (h : tables_1_6[i]? = some w) (hg : goodWord w = true) : w ∈ lw_good := List.mem_filter.mpr ⟨List.mem_append_right _ (lj_6 i h), hg⟩
theorem li_7 {w : Cond} (i : Nat) (h : tables_1_7[i]? = some w) (hg : goodWord w = true) : w ∈ lw_good := List.mem_filter.mpr ⟨List.mem_append_right _ (lj_7 i h), hg⟩
theorem li_8 {w : Cond} (i : Nat) (h : tables_1_8[i]? = some w) (hg : goodWord w = true) : w ∈ lw_good := List.mem_filter.mpr ⟨List.mem_append_right _ (lj_8 i h), hg⟩
theorem li_9 {w : Cond} (i : Nat) (h : tables_1_9[i]? = some w) (hg : goodWord w = true) : w ∈ lw_good := List.mem_filter.mpr ⟨List.mem_append_right _ (lj_9 i h), hg⟩
theorem li_10 {w : Cond} (i : Nat) (h : tables_1_10[i]? = some w) (hg : goodWord w = true) : w ∈ lw_good := List.mem_filter.mpr ⟨List.mem_append_right _ (lj_10 i h), hg⟩
abbrev wsAll (y : MethodName) (cc : ByteArray) (maxL : Nat) (ret : Option FieldType) : List Cond := Cond.code y cc maxL ret :: lw_good
theorem goodAll {y : MethodName} {cc : ByteArray} {maxL : Nat} {ret : Option FieldType} (h : Cond.code y cc maxL ret ∈ lw_good) : GoodIn lw_good (wsAll y cc maxL ret) := by
  intro w hw
  have hm : w ∈ lw_good := by
    rcases List.mem_cons.mp hw with rfl | hw
    · exact h
    · exact hw
  exact ⟨hm, good_of_word (List.mem_filter.mp hm).2⟩
/-! counters: cells and slots made so far -/
def cle (I I' : Mem) : Prop := I 30 0 0 ≤ I' 30 0 0 ∧ I 30 0 1 ≤ I' 30 0 1
def dC (I I' : Mem) : Nat := (I' 30 0 0 - I 30 0 0).toNat
def dS (I I' : Mem) : Nat := (I' 30 0 1 - I 30 0 1).toNat
theorem cle.refl (I : Mem) : cle I I := ⟨Int.le_refl _, Int.le_refl _⟩
theorem cle.trans {I J K : Mem} (h : cle I J) (k : cle J K) : cle I K := ⟨Int.le_trans h.1 k.1, Int.le_trans h.2 k.2⟩
abbrev OV : Type := Option Value × Mem
/-- how a method ends: with an answer, or throwing an object of a class -/
abbrev OT : Type := (Option Value ⊕ String) × Mem
abbrev rmH (h mc ms : Nat) : Room := { frames := h, cells := mc, slots := ms, locals := 35 * h }
def Pcz (Z : ZT) (av : List Value) (I : Mem) : Array Value → State → Prop := fun v U => v = av.toArray ∧ HH Z I U.heap ∧ KK Z U
def Qcz (Z : ZT) (o : OV) : Array Value → State → Outcome → State → Prop := fun _ _ oc t => oc = .returned o.1 ∧ HH Z o.2 t.heap
/-- method y, at height h, with these arguments over this memory, ends with this answer and memory -/
def Runs (Z : ZT) (y : MethodName) (cc : ByteArray) (maxL : Nat) (ret : Option FieldType) (h : Nat) (av : List Value) (I : Mem) (o : OV) : Prop :=
  cle I o.2 ∧ ∀ l : Launch, l.stackTraces = false → Met l y (wsAll y cc maxL ret) (rmH h (dC I o.2) (dS I o.2)) (Pcz Z av I) (Qcz Z o) (dC I o.2) (dS I o.2) (zN Z)
abbrev XT : Type := Program × Launch × Env × State × MethodId × Array Value × List Frame × Method × Code
abbrev YT : Type := MethodName × ByteArray × Nat × Option FieldType × Nat
/-- the tables of handlers: the law's methods alone have such -/
def xtL : List (String × List (Nat × Nat × Nat × Nat)) := [("size", [(0, 9, 12, 13)]), ("isRule", [(0, 16, 19, 19)]), ("rule", [(0, 10, 13, 19), (0, 10, 17, 13)]), ("bodyAt", [(0, 10, 13, 19)]), ("startAt", [(0, 9, 12, 19)]), ("letterAt", [(0, 9, 12, 19)]), ("symbolOf", [(0, 9, 12, 19)]), ("letters", [(0, 9, 12, 13)]), ("account", [(0, 9, 12, 13)]), ("count", [(0, 10, 13, 13)]), ("best", [(0, 9, 12, 13)]), ("why", [(0, 10, 13, 13)]), ("gain", [(0, 10, 13, 13)]), ("sizeIn", [(0, 9, 12, 13)]), ("step", [(0, 9, 12, 13)]), ("make", [(0, 10, 13, 13)]), ("expand", [(0, 9, 12, 19)]), ("append", [(0, 9, 12, 13)]), ("cut", [(0, 9, 12, 13)]), ("set", [(0, 10, 13, 13)]), ("undo", [(0, 8, 11, 80)]), ("save", [(0, 9, 12, 13)]), ("restore", [(0, 9, 12, 13), (0, 9, 15, 80)])]
def xtb (y : MethodName) : List (Nat × Nat × Nat × Nat) := if y.cls = "PairRulesLaw" then (xtL.lookup y.name).getD [] else []
/-- what a method's body stands on -/
def Bd (Z : ZT) (X : XT) (Y : YT) : Prop :=
  X.1.tables.exec = Jvm.exec ∧ X.2.2.2.2.2.2.2.2.code = Y.2.1 ∧ X.2.2.2.2.2.2.2.2.maxLocals = Y.2.2.1 ∧ X.2.2.2.1.vm.findClass Y.1.cls = some X.2.2.2.2.1.cls ∧ (∀ w ∈ lw_good, w.before X.2.2.2.2.2.1 X.2.2.2.1 = true) ∧ KK Z X.2.2.2.1 ∧ X.2.2.2.2.2.2.2.1.sig.returnType = Y.2.2.2.1 ∧ X.2.2.2.2.2.2.2.1.locks = false ∧ X.2.1.stackTraces = false ∧ X.2.2.2.2.2.2.2.2.exceptionTable.toList = tableOf (xtb Y.1) ∧ ∃ I1 : Mem, HH Z I1 X.2.2.2.1.heap
/-- what holds at the end -/
def Qz (Z : ZT) (X : XT) (I0 : Mem) (o : OT) : State → Prop := match o.1 with
  | .inl v => MQ X.2.2.2.2.2.2.1 (Qcz Z (v, o.2)) X.2.2.2.2.2.1 X.2.2.2.1 (dC I0 o.2) (dS I0 o.2) (zN Z)
  | .inr E => vx_MQ X.2.2.2.2.2.2.1 (fun _ _ _ _ => False) (fun E' _ t => E' = E ∧ HH Z o.2 t.heap) X.2.2.2.2.2.1 X.2.2.2.1 (dC I0 o.2) (dS I0 o.2) (zN Z)
/-- W over the context -/
abbrev WX (Z : ZT) (X : XT) (Y : YT) (I0 : Mem) (o : OT) (H : Heap) (locs : List Loc) (cells slots : Nat) (g : JFrame) : Prop :=
  W X.1 X.2.1 X.2.2.1 (rmH Y.2.2.2.2 (dC I0 o.2) (dS I0 o.2)) X.2.2.2.1 X.2.2.2.2.1 X.2.2.2.2.2.1 X.2.2.2.2.2.2.1 X.2.2.2.2.2.2.2.1 X.2.2.2.2.2.2.2.2 H locs cells slots (Qz Z X I0 o) g
def WP (Z : ZT) (Y : YT) (I0 : Mem) (o : OT) (gr : Nat → Nat) (pc : Nat) (lv : List (Nat × Value)) (st : List Value) (I : Mem) : Prop :=
  cle I o.2 ∧ (∀ X : XT, Bd Z X Y → cle I0 I → ∀ (H : Heap) (locs : List Loc) (ls : Array Slot), HHA Z gr I H → (∀ q ∈ locs, zN Z q.base) → lv_has ls Y.2.2.1 lv → WX Z X Y I0 o H locs (dC I0 I) (dS I0 I) (F0 X.2.2.2.2.1 pc ls st))
def bnd {α β : Type} (e : Option (α × Mem)) (f : α → Mem → Option (β × Mem)) : Option (β × Mem) := match e with
  | none => none
  | some (a, I) => f a I
def WQ (Z : ZT) (Y : YT) (I0 : Mem) (gr : Nat → Nat) {α : Type} (pc : Nat) (lv : List (Nat × Value)) (st : List Value) (I : Mem) (e : Option (α × Mem)) (κ : α → Mem → Option OT) : Prop :=
  ∀ o : OT, bnd e κ = some o → WP Z Y I0 o gr pc lv st I
abbrev grd {α : Type} (c : Prop) [Decidable c] (e : Option α) : Option α := if c then e else none
abbrev ltI {α β : Type} (x : α) (f : α → β) : β := f x
section WPS
variable {Z : ZT} {Y : YT} {I0 : Mem} {o : OT} {gr : Nat → Nat} {pc : Nat} {lv : List (Nat × Value)} {st : List Value} {I : Mem}
/-- a step of the machine alone -/
theorem WP.go {pc' : Nat} {lv' : List (Nat × Value)} {st' : List Value} (k : WP Z Y I0 o gr pc' lv' st' I)
    (h : ∀ X : XT, Bd Z X Y → ∀ (H : Heap) (locs : List Loc) (ls : Array Slot) (cells slots : Nat), HHA Z gr I H → lv_has ls Y.2.2.1 lv → (∀ ls' : Array Slot, lv_has ls' Y.2.2.1 lv' → WX Z X Y I0 o H locs cells slots (F0 X.2.2.2.2.1 pc' ls' st')) → WX Z X Y I0 o H locs cells slots (F0 X.2.2.2.2.1 pc ls st)) : WP Z Y I0 o gr pc lv st I :=
  ⟨k.1, fun X B hc H locs ls hH hlo hl => h X B H locs ls _ _ hH hl fun ls' hl' => k.2 X B hc H locs ls' hH hlo hl'⟩
variable {α : Type} {e : Option (α × Mem)} {κ : α → Mem → Option OT}
theorem WQ.go {pc' : Nat} {lv' : List (Nat × Value)} {st' : List Value}
    (h : ∀ X : XT, Bd Z X Y → ∀ (o : OT) (H : Heap) (locs : List Loc) (ls : Array Slot) (cells slots : Nat), HHA Z gr I H → lv_has ls Y.2.2.1 lv → (∀ ls' : Array Slot, lv_has ls' Y.2.2.1 lv' → WX Z X Y I0 o H locs cells slots (F0 X.2.2.2.2.1 pc' ls' st')) → WX Z X Y I0 o H locs cells slots (F0 X.2.2.2.2.1 pc ls st))
    (k : WQ Z Y I0 gr pc' lv' st' I e κ) : WQ Z Y I0 gr pc lv st I e κ :=
  fun o ho => (k o ho).go fun X B => h X B o
/-- a branch -/
theorem WQ.br {pc1 pc2 : Nat} {st' : List Value} {c : Prop} [Decidable c] {e1 e2 : Option (α × Mem)}
    (h : ∀ X : XT, Bd Z X Y → ∀ (o : OT) (H : Heap) (locs : List Loc) (ls : Array Slot) (cells slots : Nat), HHA Z gr I H → lv_has ls Y.2.2.1 lv → (c → WX Z X Y I0 o H locs cells slots (F0 X.2.2.2.2.1 pc1 ls st')) → (¬ c → WX Z X Y I0 o H locs cells slots (F0 X.2.2.2.2.1 pc2 ls st')) → WX Z X Y I0 o H locs cells slots (F0 X.2.2.2.2.1 pc ls st))
    (k1 : c → WQ Z Y I0 gr pc1 lv st' I e1 κ) (k2 : ¬ c → WQ Z Y I0 gr pc2 lv st' I e2 κ) : WQ Z Y I0 gr pc lv st I (if c then e1 else e2) κ := by
  intro o ho
  by_cases hc : c
  · rw [if_pos hc] at ho
    have k := k1 hc o ho
    exact ⟨k.1, fun X B hcl H locs ls hH hlo hl => h X B o H locs ls _ _ hH hl (fun _ => k.2 X B hcl H locs ls hH hlo hl) (fun q => absurd hc q)⟩
  · rw [if_neg hc] at ho
    have k := k2 hc o ho
    exact ⟨k.1, fun X B hcl H locs ls hH hlo hl => h X B o H locs ls _ _ hH hl (fun q => absurd q hc) (fun _ => k.2 X B hcl H locs ls hH hlo hl)⟩
theorem wq_grd {c : Prop} [Decidable c] (k : c → WQ Z Y I0 gr pc lv st I e κ) : WQ Z Y I0 gr pc lv st I (if c then e else none) κ := by
  intro o ho
  by_cases hc : c
  · rw [if_pos hc] at ho; exact k hc o ho
  · rw [if_neg hc] at ho; cases ho
theorem WQ.assoc {β : Type} {e : Option (β × Mem)} {f : β → Mem → Option (α × Mem)} (k : WQ Z Y I0 gr pc lv st I e (fun b J => bnd (f b J) κ)) : WQ Z Y I0 gr pc lv st I (bnd e f) κ := by
  intro o ho
  refine k o ?_
  cases e with
  | none => cases ho
  | some q => exact ho
theorem wq_val {a : α} (k : ∀ o : OT, κ a I = some o → WP Z Y I0 o gr pc lv st I) : WQ Z Y I0 gr pc lv st I (some (a, I)) κ := fun o ho => k o ho
theorem WQ.conv {β : Type} {a : α} {b : β} {κ' : β → Mem → Option OT} (h : κ' b I = κ a I) (k : WQ Z Y I0 gr pc lv st I (some (a, I)) κ) : WQ Z Y I0 gr pc lv st I (some (b, I)) κ' := fun o ho => k o (by rw [← ho]; exact h.symm)
theorem WQ.loc {lv' : List (Nat × Value)} (ks : List Nat) (hl : lv_pick lv ks = lv') (k : WQ Z Y I0 gr pc lv' st I e κ) : WQ Z Y I0 gr pc lv st I e κ :=
  WQ.go (fun _ _ _ _ _ _ _ _ _ h kk => kk _ (lv_sub h ks hl)) k
end WPS
