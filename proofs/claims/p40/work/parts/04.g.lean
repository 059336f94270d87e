section
/-! ===== the logical memory, and the heap that holds it ===== -/
def w32 (x : Int) : Int := x.bmod 4294967296
abbrev vi (x : Int) : Value := .int (Int32.ofInt x)
abbrev Mem : Type := Nat → Nat → Nat → Int
def sI (I : Mem) (k i s : Nat) (v : Int) : Mem := fun k' i' s' => if k' = k ∧ i' = i ∧ s' = s then v else I k' i' s'
theorem sI_self (I : Mem) (k i s : Nat) (v : Int) : sI I k i s v k i s = v := if_pos ⟨rfl, rfl, rfl⟩
theorem sI_ne {I : Mem} {k i s : Nat} {v : Int} {k' i' s' : Nat} (h : ¬ (k' = k ∧ i' = i ∧ s' = s)) : sI I k i s v k' i' s' = I k' i' s' := if_neg h
/-- the places: how many cells there were at the law's start, that heap, the classes' numbers and slots, the array classes, where each object lies -/
abbrev ZT : Type := Nat × Heap × va_G × (Nat → ClassId) × (Nat → Nat → Nat)
abbrev zB (Z : ZT) : Nat := Z.1
abbrev zH (Z : ZT) : Heap := Z.2.1
abbrev zD (Z : ZT) : va_G := Z.2.2.1
abbrev zC (Z : ZT) : Nat → ClassId := Z.2.2.2.1
abbrev zA (Z : ZT) : Nat → Nat → Nat := Z.2.2.2.2
abbrev vr (Z : ZT) (k i : Nat) : Value := .ref (zA Z k i)
/-- a reference that may be null: below 0 it is -/
def vrn (Z : ZT) (k : Nat) (x : Int) : Value := if x < 0 then .null else .ref (zA Z k x.toNat)
abbrev cls : List vw_C := [(RX12, TX12, 10), (RX1, TX1, 10), (RX5, TX5, 2), (RX9, TX9, 2), (RX3, TX3, 10), (RX10, TX10, 8), (RX8, TX8, 8), (RX7, TX7, 7), (RX6, TX6, 11), (RX2, TX2, 5), (RX4, TX4, 2), (RX13, TX13, 44)]
abbrev tysOf (Z : ZT) : List (ClassId × FieldType) := [(zC Z 0, .int), (zC Z 1, .boolean), (zC Z 2, .byte), (zC Z 3, .long), (zC Z 4, .object RX5), (zC Z 5, .object RX1), (zC Z 6, .object RX11)]
def svLen (i : Nat) : Nat := if i < 3 then 40 else if i = 3 then 400 else 41
def scLen (i : Nat) : Nat := if i = 5 then 2 else 60
def mLen (i : Nat) : Nat := if i < 3 then 16860 else if i = 3 then 134880 else if i = 4 then 33720 else if i < 7 then 66 else if i < 9 then 401 else if i < 11 then 42 else if i < 14 then 4356 else if i = 14 then 600 else if i < 19 then 64 else if i < 21 then 2 else if i = 21 then 66 else 70000
abbrev arI (c n : Nat) (f : Nat → Int) : va_E := .inl (c, n, .inl fun j => Int32.ofInt (f j))
abbrev arR (c n : Nat) (f : Nat → Nat) : va_E := .inl (c, n, .inr (.inr (.inr (.inr fun j => some (f j)))))
/-- what the cell of kind k, number i is, where the rows' arrays lie at gr -/
def ent (Z : ZT) (gr : Nat → Nat) (I : Mem) (k i : Nat) : va_E := match k with
  | 0 => .inr (0, [vr Z 1 0, vr Z 1 1, vr Z 3 0, vr Z 5 0, vr Z 6 0, vr Z 7 0, vr Z 8 0, vr Z 9 0, vr Z 10 0, vi (I 0 i 9)])
  | 1 => .inr (1, [vr Z 2 (43 * i), vr Z 2 (43 * i + 1), vr Z 13 i, vr Z 2 (43 * i + 2), vr Z 14 i, vr Z 15 i, vi (I 1 i 6), vi (I 1 i 7), vi (I 1 i 8), vi (I 1 i 9)])
  | 2 => .inr (2, [.ref (gr i), vi (I 2 i 1)])
  | 3 => .inr (3, [vr Z 4 0, vr Z 17 0])
  | 4 => .inr (4, [vr Z 16 0, vr Z 16 1, vr Z 16 2, vr Z 16 3, vi (I 4 i 4), vrn Z 1 (I 4 i 5), vi (I 4 i 6), vi (I 4 i 7), vi (I 4 i 8), vi (I 4 i 9)])
  | 5 => .inr (5, [vr Z 18 0, vr Z 18 1, vr Z 18 2, vr Z 18 3, vr Z 18 4, vr Z 18 5, vi (I 5 i 6), vi (I 5 i 7)])
  | 6 => .inr (6, [vr Z 19 0, vi (I 6 i 1), vi (I 6 i 2), vi (I 6 i 3), vi (I 6 i 4), vi (I 6 i 5), vi (I 6 i 6), vi (I 6 i 7)])
  | 7 => .inr (7, [vr Z 6 0, vr Z 1 1, vi (I 7 i 2), vi (I 7 i 3), vi (I 7 i 4), vi (I 7 i 5), vi (I 7 i 6)])
  | 8 => .inr (8, [vr Z 6 0, vr Z 20 0, vr Z 21 0, vr Z 21 1, vr Z 21 2, vr Z 21 3, vr Z 21 4, vr Z 21 5, vi (I 8 i 8), vi (I 8 i 9), vi (I 8 i 10)])
  | 9 => .inr (9, [vr Z 22 0, vr Z 23 0, vr Z 24 0, vi (I 9 i 3), vi (I 9 i 4)])
  | 10 => .inr (10, [.ref (gr 516), vi (I 10 i 1)])
  | 12 => arI (zC Z 0) (I 2 i 2).toNat (I 12 i)
  | 13 => arR (zC Z 4) 40 (fun j => zA Z 2 (43 * i + 3 + j))
  | 14 => arI (zC Z 0) 40 (I 14 i)
  | 15 => arI (zC Z 0) 9 (I 15 i)
  | 16 => arI (zC Z 0) 4356 (I 16 i)
  | 17 => arI (zC Z 0) 40 (I 17 i)
  | 18 => arI (zC Z 0) (svLen i) (I 18 i)
  | 19 => arI (zC Z 0) 600 (I 19 i)
  | 20 => arR (zC Z 6) 60 (fun j => zA Z 11 (I 20 i j).toNat)
  | 21 => arI (zC Z 0) (scLen i) (I 21 i)
  | 22 => arR (zC Z 5) 8 (fun j => zA Z 1 (2 + j))
  | 23 => arR (zC Z 5) 2 (fun j => zA Z 1 (10 + j))
  | 24 => arI (zC Z 1) 2 (I 24 i)
  | 25 => arI (zC Z 2) (I 10 0 2).toNat (I 25 i)
  | 26 => .inr (11, [vr Z 27 0, vr Z 27 1, vr Z 27 2, vr Z 27 3, vr Z 27 4, vr Z 28 0, vi (I 26 i 6), vi (I 26 i 7), vr Z 27 5, vr Z 27 6, vi (I 26 i 10), vr Z 27 7, vr Z 27 8, vr Z 27 9, vr Z 27 10, vr Z 27 11, vr Z 27 12, vr Z 27 13, vi (I 26 i 18), vr Z 27 14, vi (I 26 i 20), vi (I 26 i 21), vi (I 26 i 22), vi (I 26 i 23), vi (I 26 i 24), vi (I 26 i 25), vi (I 26 i 26), vi (I 26 i 27), vi (I 26 i 28), vi (I 26 i 29), vi (I 26 i 30), vi (I 26 i 31), vr Z 27 15, vr Z 27 16, vr Z 27 17, vr Z 27 18, vr Z 27 19, vr Z 27 20, vi (I 26 i 38), vi (I 26 i 39), vi (I 26 i 40), vr Z 27 21, vr Z 27 22, vi (I 26 i 43)])
  | 27 => arI (zC Z 0) (mLen i) (I 27 i)
  | 28 => arI (zC Z 1) 2 (I 28 i)
  | 29 => .inl (zC Z 3, 1, .inr (.inl fun j => Int64.ofInt (I 29 i j)))
  | _ => .inl (0, 0, .inl fun _ => 0)
def ksz : Nat → Nat
  | 1 => 12 | 2 => 516 | 11 => 0 | 12 => 516 | 13 => 12 | 14 => 12 | 15 => 12 | 16 => 4 | 18 => 6 | 21 => 6 | 27 => 23 | k => if k < 30 then 1 else 0
def adG (Z : ZT) (gr : Nat → Nat) (k i : Nat) : Nat := if k = 12 then gr i else if k = 25 then gr 516 else zA Z k i
def HHA (Z : ZT) (gr : Nat → Nat) (I : Mem) (H : Heap) : Prop :=
  ((zH Z).size = zB Z ∧ zB Z ≤ H.size ∧ ∀ q : Nat, q < zB Z → H[q]? = (zH Z)[q]?) ∧
  (∀ k i k' i' : Nat, i < ksz k → i' < ksz k' → adG Z gr k i = adG Z gr k' i' → k = k' ∧ i = i') ∧
  (∀ k i : Nat, i < ksz k → zB Z ≤ adG Z gr k i) ∧
  ∀ k i : Nat, i < ksz k → va_at (zD Z) cls (adG Z gr k i, ent Z gr I k i) H
def HH (Z : ZT) (I : Mem) (H : Heap) : Prop := ∃ gr : Nat → Nat, HHA Z gr I H
theorem ent_congr {Z : ZT} {gr : Nat → Nat} {I I' : Mem} {k i : Nat} (h : ∀ s : Nat, I' k i s = I k i s) (h12 : k = 12 → I' 2 i 2 = I 2 i 2) (h25 : k = 25 → I' 10 0 2 = I 10 0 2) : ent Z gr I' k i = ent Z gr I k i := by
  have hf : I' k i = I k i := funext h
  unfold ent
  split <;> first | rfl | (simp only [hf]; done) | (simp only [hf, h12 rfl]; done) | (simp only [hf, h25 rfl]; done) | (simp only [h]; done)
theorem HHA.upd {Z : ZT} {gr : Nat → Nat} {I I' : Mem} {H H1 : Heap} {k i : Nat} (h : HHA Z gr I H) (hi : i < ksz k) (hz : H1.size = H.size) (ho : ∀ q : Nat, q ≠ adG Z gr k i → H1[q]? = H[q]?)
    (he : va_at (zD Z) cls (adG Z gr k i, ent Z gr I' k i) H1) (hI : ∀ k' i' : Nat, i' < ksz k' → ¬ (k' = k ∧ i' = i) → ent Z gr I' k' i' = ent Z gr I k' i') : HHA Z gr I' H1 := by
  obtain ⟨⟨h1, h2, h3⟩, h4, h5, h6⟩ := h
  refine ⟨⟨h1, by rw [hz]; exact h2, fun q hq => ?_⟩, h4, h5, fun k' i' hi' => ?_⟩
  · rw [ho q (fun e => by have := h5 k i hi; omega)]; exact h3 q hq
  · by_cases hk : k' = k ∧ i' = i
    · obtain ⟨rfl, rfl⟩ := hk; exact he
    · rw [hI k' i' hi' hk]
      exact (h6 k' i' hi').kept (ho _ (fun e => hk (h4 k' i' k i hi' hi e)))
/-- a plain store: of no length -/
theorem sI_ent {Z : ZT} {gr : Nat → Nat} {I : Mem} {k i s : Nat} {v : Int} (h2 : ¬ (k = 2 ∧ s = 2)) (h10 : ¬ (k = 10 ∧ s = 2)) {k' i' : Nat} (h : ¬ (k' = k ∧ i' = i)) : ent Z gr (sI I k i s v) k' i' = ent Z gr I k' i' :=
  ent_congr (fun s' => sI_ne (fun e => h ⟨e.1, e.2.1⟩)) (fun _ => sI_ne (fun e => h2 ⟨e.1.symm, e.2.2.symm⟩)) (fun _ => sI_ne (fun e => h10 ⟨e.1.symm, e.2.2.symm⟩))
theorem HHA.at {Z : ZT} {gr : Nat → Nat} {I : Mem} {H : Heap} (h : HHA Z gr I H) {k i : Nat} (hi : i < ksz k) : va_at (zD Z) cls (adG Z gr k i, ent Z gr I k i) H := h.2.2.2 k i hi
theorem va_P1 {D : va_G} {cl : List vw_C} {q : Nat × va_E} {H : Heap} (h : va_at D cl q H) : va_P D cl [q] H := fun k q' hk => by
  match k, hk with
  | 0, hk => cases hk; exact h
  | k + 1, hk => simp at hk
end
section
/-! ===== the words for every method, the static things, a method's run over the logical memory ===== -/
def wNames : List String := ["RULE", "START", "INLINE", "LEAST", "TIE", "MODE", "STEP", "INLINED", "MAKE", "EXPAND", "APPEND", "CUT", "AGAIN", "CLOSE", "OTHE\x52"]
def wFld : List (String × String × String × List Int32) := [("java/lang/Enum", "ordinal", "I", [0, 1, 2, 3, 4, 5, 6, 7, 8, 9, 10, 11, 12, 13, 14]), (RX11, "orders", "Z", [0, 0, 0, 1, 1, 1, 1, 1, 1, 1, 1, 1, 1, 0, 0]), (RX11, "lowest", "I", [0, 0, 0, 2, 0, 0, 1, 0, 0, 0, 0, 1, 0, 0, 0]), (RX11, "highest", "I", [39, 0, 1, 9, 2, 1, 50, 0, 0, 39, 0, 400, 20, 0, 0])]
def wText : List (List Int) := [[114, 117, 108, 101], [115, 116, 97, 114, 116], [105, 110, 108, 105, 110, 101], [108, 101, 97, 115, 116], [116, 105, 101], [109, 111, 100, 101], [115, 116, 101, 112], [105, 110, 108, 105, 110, 101, 100], [109, 97, 107, 101], [101, 120, 112, 97, 110, 100], [97, 112, 112, 101, 110, 100], [99, 117, 116], [97, 103, 97, 105, 110], [41], []]
def wSm : List Int := [0, 0, 0, 7, 8, 9, 1, 2, 3, 4, 5, 6, 10, 0, 0]
def wLdc : List (Nat × String × Nat) := [(316, "rule", 0), (321, "start", 1), (296, "inline", 2), (288, "least", 3), (294, "tie", 4), (357, "mode", 5), (345, "step", 6), (347, "inlined", 7), (349, "make", 8), (351, "expand", 9), (353, "append", 10), (355, "cut", 11), (359, "again", 12)]
abbrev zN (Z : ZT) : Nat → Prop := fun q => zB Z ≤ q
/-- words that hold wherever the tables are warmer, and are handed on by themselves -/
def nwW : Cond → Bool
  | .methodLinkNest .. => true
  | .fieldLinkNest .. => true
  | .declares _ => true
  | .castable .. => true
  | _ => false
def lw_nw : List Cond := lw_tbl.filter nwW
theorem nw_warm {w : Cond} (hw : w ∈ lw_nw) {s U : State} (hW : s.WarmedH U.vm) (h : va_Nw w s) : va_Nw w U := by
  have hw := (List.mem_filter.mp hw).2
  cases w <;> first | exact h.warmM hW | exact h.warmF hW | exact h.warmD hW | exact h.warmC hW | cases hw
theorem nw_same {w : Cond} (hw : w ∈ lw_nw) {s U : State} (hv : U.vm = s.vm) (h : va_Nw w s) : va_Nw w U := by
  have hw := (List.mem_filter.mp hw).2
  cases w <;> first | exact va_Nw.same rfl hv.symm h | cases hw
theorem nw_in {w : Cond} (i : Nat) (h : lw_tbl[i]? = some w) (hg : nwW w = true) : w ∈ lw_nw := List.mem_filter.mpr ⟨List.mem_of_getElem? h, hg⟩
/-- classes that are not one another's -/
def wNot : List (String × String) := [("java/lang/IndexOutOfBoundsException", "java/lang/IllegalArgumentException"), ("java/util/NoSuchElementException", "java/lang/IllegalArgumentException"), ("java/lang/IllegalArgumentException", "java/lang/IndexOutOfBoundsException"), ("java/util/NoSuchElementException", "java/lang/IndexOutOfBoundsException"), ("java/lang/IllegalArgumentException", "java/util/NoSuchElementException"), ("java/lang/IndexOutOfBoundsException", "java/util/NoSuchElementException")]
def Sta (Z : ZT) (U : State) : Prop :=
  va_En RX11 "LPairRules$Word;" wNames wFld (zA Z 11) (zN Z) U (zH Z) ∧
  va_Ef 15 RX11 "text" "Ljava/lang/String;" (fun i => .ref (zA Z 34 i)) (zA Z 11) (zN Z) U (zH Z) ∧
  vk_S 15 (wText.map List.length) (wText.map (fun l => l.map Int32.ofInt)) (zA Z 34) (zA Z 35) (zN Z) U (zH Z) ∧
  va_Z RX8 "WORDS" "[LPairRules$Word;" (.ref (zA Z 32 0)) (zN Z) U (zH Z) ∧
  va_T (.object RX11) (zA Z 32 0) 15 (fun j => .ref (zA Z 11 j)) (zN Z) U (zH Z) ∧
  va_Z RX0 "$SwitchMap$PairRules$Word" "[I" (.ref (zA Z 33 0)) (zN Z) U (zH Z) ∧
  va_T .int (zA Z 33 0) 15 (fun j => .int (Int32.ofInt (wSm.getD j 0))) (zN Z) U (zH Z) ∧
  (va_Z "java/lang/String" "COMPACT_STRINGS" "Z" (.int 1) (zN Z) U (zH Z) ∧ (∃ v : Value, v.category = 1 ∧ va_Z "jdk/internal/util/Preconditions" "SIOOBE_FORMATTER" "Ljava/util/function/BiFunction;" v (zN Z) U (zH Z)) ∧ vx_Zq Bundle.tN "UNASSIGNED_STACK" Bundle.steD (zN Z) U (zH Z) ∧ vx_Zq Bundle.tN "SUPPRESSED_SENTINEL" Bundle.listD (zN Z) U (zH Z) ∧ ∀ q ∈ wNot, va_Nc q.1 q.2 U) ∧
  (∀ q ∈ wLdc, vk_R RX13 q.1 q.2.1 (zA Z 34 q.2.2) U) ∧ ∀ w ∈ lw_nw, va_Nw w U
def KK (Z : ZT) (U : State) : Prop := va_K (zD Z) cls (tysOf Z) U ∧ Sta Z U
theorem Sta.warm {Z : ZT} {s U : State} (hW : s.WarmedH U.vm) (h : Sta Z s) : Sta Z U := by
  obtain ⟨h1, h2, h3, h4, h5, h6, h7, ⟨h8, ⟨v8, hc8, hz8⟩, hU8, hN8, hX8⟩, h9, hn⟩ := h
  have hv := hW.alike
  exact ⟨h1.moved hv, h2.moved hv, h3.moved hv, h4.moved hv, h5.moved hv, h6.moved hv, h7.moved hv, ⟨h8.moved hv, ⟨v8, hc8, hz8.moved hv⟩, vx_Zq.moved hv hU8, vx_Zq.moved hv hN8, fun q hq => (hX8 q hq).moved hv⟩, fun q hq => (h9 q hq).warm hW, fun w hw => nw_warm hw hW (hn w hw)⟩
theorem Sta.same {Z : ZT} {s U : State} (hv : U.vm = s.vm) (h : Sta Z s) : Sta Z U := by
  obtain ⟨h1, h2, h3, h4, h5, h6, h7, ⟨h8, ⟨v8, hc8, hz8⟩, hU8, hN8, hX8⟩, h9, hn⟩ := h
  have ha : s.vm.Alike U.vm := by rw [hv]; exact Vm.Alike.refl s.vm
  exact ⟨h1.moved ha, h2.moved ha, h3.moved ha, h4.moved ha, h5.moved ha, h6.moved ha, h7.moved ha, ⟨h8.moved ha, ⟨v8, hc8, hz8.moved ha⟩, vx_Zq.moved ha hU8, vx_Zq.moved ha hN8, fun q hq => (hX8 q hq).moved ha⟩, fun q hq => (h9 q hq).same hv, fun w hw => nw_same hw hv (hn w hw)⟩
theorem KK.warm {Z : ZT} {s U : State} (hW : s.WarmedH U.vm) (h : KK Z s) : KK Z U := ⟨va_K.moved hW.alike h.1, h.2.warm hW⟩
theorem KK.same {Z : ZT} {s U : State} (hv : U.vm = s.vm) (h : KK Z s) : KK Z U := ⟨va_K.moved (by rw [hv]; exact Vm.Alike.refl s.vm) h.1, h.2.same hv⟩
/-- the words that go from caller to callee -/
def lw_good : List Cond := lw_tbl.filter goodWord
theorem lw_in {w : Cond} (i : Nat) (h : lw_tbl[i]? = some w) (hg : goodWord w = true) : w ∈ lw_good := List.mem_filter.mpr ⟨List.mem_of_getElem? h, hg⟩
theorem li_1 {w : Cond} (i : Nat) (h : tables_1_1[i]? = some w) (hg : goodWord w = true) : w ∈ lw_good := List.mem_filter.mpr ⟨List.mem_append_right _ (lj_1 i h), hg⟩
theorem li_2 {w : Cond} (i : Nat) (h : tables_1_2[i]? = some w) (hg : goodWord w = true) : w ∈ lw_good := List.mem_filter.mpr ⟨List.mem_append_right _ (lj_2 i h), hg⟩
theorem li_3 {w : Cond} (i : Nat) (h : tables_1_3[i]? = some w) (hg : goodWord w = true) : w ∈ lw_good := List.mem_filter.mpr ⟨List.mem_append_right _ (lj_3 i h), hg⟩
theorem li_4 {w : Cond} (i : Nat) (h : tables_1_4[i]? = some w) (hg : goodWord w = true) : w ∈ lw_good := List.mem_filter.mpr ⟨List.mem_append_right _ (lj_4 i h), hg⟩
theorem li_5 {w : Cond} (i : Nat) (h : tables_1_5[i]? = some w) (hg : goodWord w = true) : w ∈ lw_good := List.mem_filter.mpr ⟨List.mem_append_right _ (lj_5 i h), hg⟩
theorem li_6 {w : Cond} (i : Nat) (h : tables_1_6[i]? = some w) (hg : goodWord w = true) : w ∈ lw_good := List.mem_filter.mpr ⟨List.mem_append_right _ (lj_6 i h), hg⟩
theorem li_7 {w : Cond} (i : Nat) (h : tables_1_7[i]? = some w) (hg : goodWord w = true) : w ∈ lw_good := List.mem_filter.mpr ⟨List.mem_append_right _ (lj_7 i h), hg⟩
theorem li_8 {w : Cond} (i : Nat) (h : tables_1_8[i]? = some w) (hg : goodWord w = true) : w ∈ lw_good := List.mem_filter.mpr ⟨List.mem_append_right _ (lj_8 i h), hg⟩
theorem li_9 {w : Cond} (i : Nat) (h : tables_1_9[i]? = some w) (hg : goodWord w = true) : w ∈ lw_good := List.mem_filter.mpr ⟨List.mem_append_right _ (lj_9 i h), hg⟩
theorem li_10 {w : Cond} (i : Nat) (h : tables_1_10[i]? = some w) (hg : goodWord w = true) : w ∈ lw_good := List.mem_filter.mpr ⟨List.mem_append_right _ (lj_10 i h), hg⟩
abbrev wsAll (y : MethodName) (cc : ByteArray) (maxL : Nat) (ret : Option FieldType) : List Cond := Cond.code y cc maxL ret :: lw_good
theorem goodAll {y : MethodName} {cc : ByteArray} {maxL : Nat} {ret : Option FieldType} (h : Cond.code y cc maxL ret ∈ lw_good) : GoodIn lw_good (wsAll y cc maxL ret) := by
  intro w hw
  have hm : w ∈ lw_good := by
    rcases List.mem_cons.mp hw with rfl | hw
    · exact h
    · exact hw
  exact ⟨hm, good_of_word (List.mem_filter.mp hm).2⟩
/-! counters: cells and slots made so far -/
def cle (I I' : Mem) : Prop := I 30 0 0 ≤ I' 30 0 0 ∧ I 30 0 1 ≤ I' 30 0 1
def dC (I I' : Mem) : Nat := (I' 30 0 0 - I 30 0 0).toNat
def dS (I I' : Mem) : Nat := (I' 30 0 1 - I 30 0 1).toNat
theorem cle.refl (I : Mem) : cle I I := ⟨Int.le_refl _, Int.le_refl _⟩
theorem cle.trans {I J K : Mem} (h : cle I J) (k : cle J K) : cle I K := ⟨Int.le_trans h.1 k.1, Int.le_trans h.2 k.2⟩
abbrev OV : Type := Option Value × Mem
/-- how a method ends: with an answer, or throwing an object of a class -/
abbrev OT : Type := (Option Value ⊕ String) × Mem
abbrev rmH (h mc ms : Nat) : Room := { frames := h, cells := mc, slots := ms, locals := 35 * h }
def Pcz (Z : ZT) (av : List Value) (I : Mem) : Array Value → State → Prop := fun v U => v = av.toArray ∧ HH Z I U.heap ∧ KK Z U
def Qcz (Z : ZT) (o : OV) : Array Value → State → Outcome → State → Prop := fun _ _ oc t => oc = .returned o.1 ∧ HH Z o.2 t.heap
/-- method y, at height h, with these arguments over this memory, ends with this answer and memory -/
def Runs (Z : ZT) (y : MethodName) (cc : ByteArray) (maxL : Nat) (ret : Option FieldType) (h : Nat) (av : List Value) (I : Mem) (o : OV) : Prop :=
  cle I o.2 ∧ ∀ l : Launch, l.stackTraces = false → Met l y (wsAll y cc maxL ret) (rmH h (dC I o.2) (dS I o.2)) (Pcz Z av I) (Qcz Z o) (dC I o.2) (dS I o.2) (zN Z)
abbrev XT : Type := Program × Launch × Env × State × MethodId × Array Value × List Frame × Method × Code
abbrev YT : Type := MethodName × ByteArray × Nat × Option FieldType × Nat
/-- the tables of handlers: the law's methods alone have such -/
def xtL : List (String × List (Nat × Nat × Nat × Nat)) := [("size", [(0, 9, 12, 13)]), ("isRule", [(0, 16, 19, 19)]), ("rule", [(0, 10, 13, 19), (0, 10, 17, 13)]), ("bodyAt", [(0, 10, 13, 19)]), ("startAt", [(0, 9, 12, 19)]), ("letterAt", [(0, 9, 12, 19)]), ("symbolOf", [(0, 9, 12, 19)]), ("letters", [(0, 9, 12, 13)]), ("account", [(0, 9, 12, 13)]), ("count", [(0, 10, 13, 13)]), ("best", [(0, 9, 12, 13)]), ("why", [(0, 10, 13, 13)]), ("gain", [(0, 10, 13, 13)]), ("sizeIn", [(0, 9, 12, 13)]), ("step", [(0, 9, 12, 13)]), ("make", [(0, 10, 13, 13)]), ("expand", [(0, 9, 12, 19)]), ("append", [(0, 9, 12, 13)]), ("cut", [(0, 9, 12, 13)]), ("set", [(0, 10, 13, 13)]), ("undo", [(0, 8, 11, 80)]), ("save", [(0, 9, 12, 13)]), ("restore", [(0, 9, 12, 13), (0, 9, 15, 80)])]
def xtb (y : MethodName) : List (Nat × Nat × Nat × Nat) := if y.cls = "PairRulesLaw" then (xtL.lookup y.name).getD [] else []
/-- what a method's body stands on -/
def Bd (Z : ZT) (X : XT) (Y : YT) : Prop :=
  X.1.tables.exec = Jvm.exec ∧ X.2.2.2.2.2.2.2.2.code = Y.2.1 ∧ X.2.2.2.2.2.2.2.2.maxLocals = Y.2.2.1 ∧ X.2.2.2.1.vm.findClass Y.1.cls = some X.2.2.2.2.1.cls ∧ (∀ w ∈ lw_good, w.before X.2.2.2.2.2.1 X.2.2.2.1 = true) ∧ KK Z X.2.2.2.1 ∧ X.2.2.2.2.2.2.2.1.sig.returnType = Y.2.2.2.1 ∧ X.2.2.2.2.2.2.2.1.locks = false ∧ X.2.1.stackTraces = false ∧ X.2.2.2.2.2.2.2.2.exceptionTable.toList = tableOf (xtb Y.1) ∧ ∃ I1 : Mem, HH Z I1 X.2.2.2.1.heap
/-- what holds at the end -/
def Qz (Z : ZT) (X : XT) (I0 : Mem) (o : OT) : State → Prop := match o.1 with
  | .inl v => MQ X.2.2.2.2.2.2.1 (Qcz Z (v, o.2)) X.2.2.2.2.2.1 X.2.2.2.1 (dC I0 o.2) (dS I0 o.2) (zN Z)
  | .inr E => vx_MQ X.2.2.2.2.2.2.1 (fun _ _ _ _ => False) (fun E' _ t => E' = E ∧ HH Z o.2 t.heap) X.2.2.2.2.2.1 X.2.2.2.1 (dC I0 o.2) (dS I0 o.2) (zN Z)
/-- W over the context -/
abbrev WX (Z : ZT) (X : XT) (Y : YT) (I0 : Mem) (o : OT) (H : Heap) (locs : List Loc) (cells slots : Nat) (g : JFrame) : Prop :=
  W X.1 X.2.1 X.2.2.1 (rmH Y.2.2.2.2 (dC I0 o.2) (dS I0 o.2)) X.2.2.2.1 X.2.2.2.2.1 X.2.2.2.2.2.1 X.2.2.2.2.2.2.1 X.2.2.2.2.2.2.2.1 X.2.2.2.2.2.2.2.2 H locs cells slots (Qz Z X I0 o) g
def WP (Z : ZT) (Y : YT) (I0 : Mem) (o : OT) (gr : Nat → Nat) (pc : Nat) (lv : List (Nat × Value)) (st : List Value) (I : Mem) : Prop :=
  cle I o.2 ∧ (∀ X : XT, Bd Z X Y → cle I0 I → ∀ (H : Heap) (locs : List Loc) (ls : Array Slot), HHA Z gr I H → (∀ q ∈ locs, zN Z q.base) → lv_has ls Y.2.2.1 lv → WX Z X Y I0 o H locs (dC I0 I) (dS I0 I) (F0 X.2.2.2.2.1 pc ls st))
def bnd {α β : Type} (e : Option (α × Mem)) (f : α → Mem → Option (β × Mem)) : Option (β × Mem) := match e with
  | none => none
  | some (a, I) => f a I
def WQ (Z : ZT) (Y : YT) (I0 : Mem) (gr : Nat → Nat) {α : Type} (pc : Nat) (lv : List (Nat × Value)) (st : List Value) (I : Mem) (e : Option (α × Mem)) (κ : α → Mem → Option OT) : Prop :=
  ∀ o : OT, bnd e κ = some o → WP Z Y I0 o gr pc lv st I
abbrev grd {α : Type} (c : Prop) [Decidable c] (e : Option α) : Option α := if c then e else none
abbrev ltI {α β : Type} (x : α) (f : α → β) : β := f x
section WPS
variable {Z : ZT} {Y : YT} {I0 : Mem} {o : OT} {gr : Nat → Nat} {pc : Nat} {lv : List (Nat × Value)} {st : List Value} {I : Mem}
/-- a step of the machine alone -/
theorem WP.go {pc' : Nat} {lv' : List (Nat × Value)} {st' : List Value} (k : WP Z Y I0 o gr pc' lv' st' I)
    (h : ∀ X : XT, Bd Z X Y → ∀ (H : Heap) (locs : List Loc) (ls : Array Slot) (cells slots : Nat), HHA Z gr I H → lv_has ls Y.2.2.1 lv → (∀ ls' : Array Slot, lv_has ls' Y.2.2.1 lv' → WX Z X Y I0 o H locs cells slots (F0 X.2.2.2.2.1 pc' ls' st')) → WX Z X Y I0 o H locs cells slots (F0 X.2.2.2.2.1 pc ls st)) : WP Z Y I0 o gr pc lv st I :=
  ⟨k.1, fun X B hc H locs ls hH hlo hl => h X B H locs ls _ _ hH hl fun ls' hl' => k.2 X B hc H locs ls' hH hlo hl'⟩
variable {α : Type} {e : Option (α × Mem)} {κ : α → Mem → Option OT}
theorem WQ.go {pc' : Nat} {lv' : List (Nat × Value)} {st' : List Value}
    (h : ∀ X : XT, Bd Z X Y → ∀ (o : OT) (H : Heap) (locs : List Loc) (ls : Array Slot) (cells slots : Nat), HHA Z gr I H → lv_has ls Y.2.2.1 lv → (∀ ls' : Array Slot, lv_has ls' Y.2.2.1 lv' → WX Z X Y I0 o H locs cells slots (F0 X.2.2.2.2.1 pc' ls' st')) → WX Z X Y I0 o H locs cells slots (F0 X.2.2.2.2.1 pc ls st))
    (k : WQ Z Y I0 gr pc' lv' st' I e κ) : WQ Z Y I0 gr pc lv st I e κ :=
  fun o ho => (k o ho).go fun X B => h X B o
/-- a branch -/
theorem WQ.br {pc1 pc2 : Nat} {st' : List Value} {c : Prop} [Decidable c] {e1 e2 : Option (α × Mem)}
    (h : ∀ X : XT, Bd Z X Y → ∀ (o : OT) (H : Heap) (locs : List Loc) (ls : Array Slot) (cells slots : Nat), HHA Z gr I H → lv_has ls Y.2.2.1 lv → (c → WX Z X Y I0 o H locs cells slots (F0 X.2.2.2.2.1 pc1 ls st')) → (¬ c → WX Z X Y I0 o H locs cells slots (F0 X.2.2.2.2.1 pc2 ls st')) → WX Z X Y I0 o H locs cells slots (F0 X.2.2.2.2.1 pc ls st))
    (k1 : c → WQ Z Y I0 gr pc1 lv st' I e1 κ) (k2 : ¬ c → WQ Z Y I0 gr pc2 lv st' I e2 κ) : WQ Z Y I0 gr pc lv st I (if c then e1 else e2) κ := by
  intro o ho
  by_cases hc : c
  · rw [if_pos hc] at ho
    have k := k1 hc o ho
    exact ⟨k.1, fun X B hcl H locs ls hH hlo hl => h X B o H locs ls _ _ hH hl (fun _ => k.2 X B hcl H locs ls hH hlo hl) (fun q => absurd hc q)⟩
  · rw [if_neg hc] at ho
    have k := k2 hc o ho
    exact ⟨k.1, fun X B hcl H locs ls hH hlo hl => h X B o H locs ls _ _ hH hl (fun q => absurd q hc) (fun _ => k.2 X B hcl H locs ls hH hlo hl)⟩
theorem wq_grd {c : Prop} [Decidable c] (k : c → WQ Z Y I0 gr pc lv st I e κ) : WQ Z Y I0 gr pc lv st I (if c then e else none) κ := by
  intro o ho
  by_cases hc : c
  · rw [if_pos hc] at ho; exact k hc o ho
  · rw [if_neg hc] at ho; cases ho
theorem WQ.assoc {β : Type} {e : Option (β × Mem)} {f : β → Mem → Option (α × Mem)} (k : WQ Z Y I0 gr pc lv st I e (fun b J => bnd (f b J) κ)) : WQ Z Y I0 gr pc lv st I (bnd e f) κ := by
  intro o ho
  refine k o ?_
  cases e with
  | none => cases ho
  | some q => exact ho
theorem wq_val {a : α} (k : ∀ o : OT, κ a I = some o → WP Z Y I0 o gr pc lv st I) : WQ Z Y I0 gr pc lv st I (some (a, I)) κ := fun o ho => k o ho
theorem WQ.conv {β : Type} {a : α} {b : β} {κ' : β → Mem → Option OT} (h : κ' b I = κ a I) (k : WQ Z Y I0 gr pc lv st I (some (a, I)) κ) : WQ Z Y I0 gr pc lv st I (some (b, I)) κ' := fun o ho => k o (by rw [← ho]; exact h.symm)
theorem WQ.loc {lv' : List (Nat × Value)} (ks : List Nat) (hl : lv_pick lv ks = lv') (k : WQ Z Y I0 gr pc lv' st I e κ) : WQ Z Y I0 gr pc lv st I e κ :=
  WQ.go (fun _ _ _ _ _ _ _ _ _ h kk => kk _ (lv_sub h ks hl)) k
end WPS
end
section
/-! ===== the instructions, over the logical memory ===== -/
theorem w_toInt (x : Int) : (Int32.ofInt x).toInt = w32 x := Int32.toInt_ofInt
theorem w_eq (x y : Int) : Int32.ofInt x = Int32.ofInt y ↔ w32 x = w32 y := by rw [← Int32.toInt_inj, w_toInt, w_toInt]
theorem w_lt (x y : Int) : Int32.ofInt x < Int32.ofInt y ↔ w32 x < w32 y := by rw [Int32.lt_iff_toInt_lt, w_toInt, w_toInt]
theorem w_le (x y : Int) : Int32.ofInt x ≤ Int32.ofInt y ↔ ¬ w32 y < w32 x := by rw [Int32.le_iff_toInt_le, w_toInt, w_toInt]; omega
theorem w_0 : w32 0 = 0 := by decide
theorem w_in {x x' m : Int} {n : Nat} (hx : w32 x = x') (h : 0 ≤ x' ∧ x' < m) (hm : m.toNat ≤ n) : vp_in (Int32.ofInt x) n := by
  rw [vp_in_iff, w_toInt, hx]; omega
theorem w_nat {x x' : Int} (hx : w32 x = x') : (Int32.ofInt x).toNatClampNeg = x'.toNat := by
  show (Int32.ofInt x).toInt.toNat = _
  rw [w_toInt, hx]
theorem i_add (x y : Int) : Int32.ofInt x + Int32.ofInt y = Int32.ofInt (x + y) := (Int32.ofInt_add x y).symm
theorem i_sub (x y : Int) : Int32.ofInt x - Int32.ofInt y = Int32.ofInt (x - y) := by
  apply Int32.toInt_inj.mp; rw [Int32.toInt_sub, w_toInt, w_toInt, w_toInt]; unfold w32; simp
theorem i_mul (x y : Int) : Int32.ofInt x * Int32.ofInt y = Int32.ofInt (x * y) := (Int32.ofInt_mul x y).symm
theorem i_neg (x : Int) : -Int32.ofInt x = Int32.ofInt (-x) := (Int32.ofInt_neg x).symm
def idv (x y : Int) : Int := (w32 x).tdiv (w32 y)
def irm (x y : Int) : Int := x - idv x y * y
theorem i_div (x y : Int) : Int32.ofInt x / Int32.ofInt y = Int32.ofInt (idv x y) := by
  apply Int32.toInt_inj.mp; rw [Int32.toInt_div, w_toInt, w_toInt, w_toInt]; rfl
theorem i_rem (x y : Int) : Int32.ofInt x - Int32.ofInt x / Int32.ofInt y * Int32.ofInt y = Int32.ofInt (irm x y) := by
  rw [i_div, i_mul, i_sub]; rfl
def ian (x y : Int) : Int := (Int32.ofInt x &&& Int32.ofInt y).toInt
def ior (x y : Int) : Int := (Int32.ofInt x ||| Int32.ofInt y).toInt
def ish (x y : Int) : Int := (Int32.ofInt x <<< (Int32.ofInt y &&& 31)).toInt
def isr (x y : Int) : Int := (Int32.ofInt x >>> (Int32.ofInt y &&& 31)).toInt
def ius (x y : Int) : Int := ((Int32.ofInt x).toUInt32 >>> ((Int32.ofInt y).toUInt32 &&& Int32.toUInt32 31)).toInt32.toInt
def i2b (x : Int) : Int := (Int32.ofInt x).toInt8.toInt32.toInt
def stl (i : Nat) (v : Value) (lv : List (Nat × Value)) : List (Nat × Value) := (i, v) :: lv.filter (fun q => !(q.1 == i) && !(q.1 + 1 == i && q.2.category == 2))
section ROWS
variable {Z : ZT} {Y : YT} {I0 : Mem} {gr : Nat → Nat} {pc : Nat} {lv : List (Nat × Value)} {st : List Value} {I : Mem} {α : Type} {e e1 e2 : Option (α × Mem)} {κ : α → Mem → Option OT}
theorem wq_iconst {n : Int} (d : decode Y.2.1 pc = .ok (.iconst n, 1)) (k : WQ Z Y I0 gr (pc + 1) lv (vi n :: st) I e κ) : WQ Z Y I0 gr pc lv st I e κ :=
  WQ.go (fun _ B _ _ _ ls _ _ _ hl kk => lv_iconst B.1 B.2.1 d rfl (kk ls hl)) k
theorem wq_bipush {n : Int} (d : decode Y.2.1 pc = .ok (.bipush n, 2)) (hv : (Int8.ofInt n).toInt32 = Int32.ofInt n) (k : WQ Z Y I0 gr (pc + 2) lv (vi n :: st) I e κ) : WQ Z Y I0 gr pc lv st I e κ :=
  WQ.go (fun _ B _ _ _ ls _ _ _ hl kk => lv_bipush B.1 B.2.1 d hv (kk ls hl)) k
theorem wq_sipush {n : Int} (d : decode Y.2.1 pc = .ok (.sipush n, 3)) (hv : (Int16.ofInt n).toInt32 = Int32.ofInt n) (k : WQ Z Y I0 gr (pc + 3) lv (vi n :: st) I e κ) : WQ Z Y I0 gr pc lv st I e κ :=
  WQ.go (fun _ B _ _ _ ls _ _ _ hl kk => lv_sipush B.1 B.2.1 d hv (kk ls hl)) k
theorem wq_ldc {index : Nat} {n : Int} (hw : Cond.constant Y.1.cls index (Int32.ofInt n) ∈ lw_good) (d : decode Y.2.1 pc = .ok (.ldc index, 2)) (k : WQ Z Y I0 gr (pc + 2) lv (vi n :: st) I e κ) : WQ Z Y I0 gr pc lv st I e κ :=
  WQ.go (fun _ B _ _ _ ls _ _ _ hl kk => lv_ldc B.1 B.2.1 B.2.2.2.1 (B.2.2.2.2.1 _ hw) d (kk ls hl)) k
theorem wq_iload_n {j : Nat} {x : Int} {c : Fin 4} (d : decode Y.2.1 pc = .ok (.iload_n c, 1)) (j' : Nat) (hj : (c : Nat) = j) (hl : lv[j']? = some (j, vi x)) (k : WQ Z Y I0 gr (pc + 1) lv (vi x :: st) I e κ) : WQ Z Y I0 gr pc lv st I e κ :=
  WQ.go (fun _ B _ _ _ ls _ _ _ h kk => lv_iload_n B.1 B.2.1 d hj (lv_at h j' hl) (kk ls h)) k
theorem wq_iload {j : Nat} {x : Int} (d : decode Y.2.1 pc = .ok (.iload j, 2)) (j' : Nat) (hl : lv[j']? = some (j, vi x)) (k : WQ Z Y I0 gr (pc + 2) lv (vi x :: st) I e κ) : WQ Z Y I0 gr pc lv st I e κ :=
  WQ.go (fun _ B _ _ _ ls _ _ _ h kk => lv_iload B.1 B.2.1 d (lv_at h j' hl) (kk ls h)) k
theorem wq_aload_n {j x : Nat} {c : Fin 4} (d : decode Y.2.1 pc = .ok (.aload_n c, 1)) (j' : Nat) (hj : (c : Nat) = j) (hl : lv[j']? = some (j, .ref x)) (k : WQ Z Y I0 gr (pc + 1) lv (.ref x :: st) I e κ) : WQ Z Y I0 gr pc lv st I e κ :=
  WQ.go (fun _ B _ _ _ ls _ _ _ h kk => lv_aload_n B.1 B.2.1 d hj (lv_at h j' hl) (kk ls h)) k
theorem wq_aload {j x : Nat} (d : decode Y.2.1 pc = .ok (.aload j, 2)) (j' : Nat) (hl : lv[j']? = some (j, .ref x)) (k : WQ Z Y I0 gr (pc + 2) lv (.ref x :: st) I e κ) : WQ Z Y I0 gr pc lv st I e κ :=
  WQ.go (fun _ B _ _ _ ls _ _ _ h kk => lv_aload B.1 B.2.1 d (lv_at h j' hl) (kk ls h)) k
theorem wq_istore_n {j : Nat} {x : Int} {lv' : List (Nat × Value)} {c : Fin 4} (d : decode Y.2.1 pc = .ok (.istore_n c, 1)) (hj : (c : Nat) = j) (hn : j < Y.2.2.1) (hl : stl j (vi x) lv = lv') (k : WQ Z Y I0 gr (pc + 1) lv' st I e κ) : WQ Z Y I0 gr pc lv (vi x :: st) I e κ :=
  WQ.go (fun _ B _ _ _ ls _ _ _ h kk => lv_istore_n B.1 B.2.1 d hj h hn hl (fun ls' h' => kk ls' h')) k
theorem wq_istore {j : Nat} {x : Int} {lv' : List (Nat × Value)} (d : decode Y.2.1 pc = .ok (.istore j, 2)) (hn : j < Y.2.2.1) (hl : stl j (vi x) lv = lv') (k : WQ Z Y I0 gr (pc + 2) lv' st I e κ) : WQ Z Y I0 gr pc lv (vi x :: st) I e κ :=
  WQ.go (fun _ B _ _ _ ls _ _ _ h kk => lv_istore B.1 B.2.1 d h hn hl (fun ls' h' => kk ls' h')) k
theorem wq_astore_n {j x : Nat} {lv' : List (Nat × Value)} {c : Fin 4} (d : decode Y.2.1 pc = .ok (.astore_n c, 1)) (hj : (c : Nat) = j) (hn : j < Y.2.2.1) (hl : stl j (.ref x) lv = lv') (k : WQ Z Y I0 gr (pc + 1) lv' st I e κ) : WQ Z Y I0 gr pc lv (.ref x :: st) I e κ :=
  WQ.go (fun _ B _ _ _ ls _ _ _ h kk => lv_astore_n B.1 B.2.1 d hj h hn hl (fun ls' h' => kk ls' h')) k
theorem wq_astore {j x : Nat} {lv' : List (Nat × Value)} (d : decode Y.2.1 pc = .ok (.astore j, 2)) (hn : j < Y.2.2.1) (hl : stl j (.ref x) lv = lv') (k : WQ Z Y I0 gr (pc + 2) lv' st I e κ) : WQ Z Y I0 gr pc lv (.ref x :: st) I e κ :=
  WQ.go (fun _ B _ _ _ ls _ _ _ h kk => lv_astore B.1 B.2.1 d h hn hl (fun ls' h' => kk ls' h')) k
theorem wq_iinc {j : Nat} {n x : Int} {lv' : List (Nat × Value)} (d : decode Y.2.1 pc = .ok (.iinc j n, 3)) (j' : Nat) (hk : lv[j']? = some (j, vi x)) (hn : j < Y.2.2.1) (hl : stl j (vi (x + n)) lv = lv') (k : WQ Z Y I0 gr (pc + 3) lv' st I e κ) : WQ Z Y I0 gr pc lv st I e κ :=
  WQ.go (fun _ B _ _ _ ls _ _ _ h kk => lv_iinc B.1 B.2.1 d h (k := j') hk (i_add x n) hn hl (fun ls' h' => kk ls' h')) k
theorem wq_iadd {x y : Int} (d : decode Y.2.1 pc = .ok (.iadd, 1)) (k : WQ Z Y I0 gr (pc + 1) lv (vi (x + y) :: st) I e κ) : WQ Z Y I0 gr pc lv (vi y :: vi x :: st) I e κ :=
  WQ.go (fun _ B _ _ _ ls _ _ _ hl kk => lv_iadd B.1 B.2.1 d (by rw [i_add]; exact kk ls hl)) k
theorem wq_isub {x y : Int} (d : decode Y.2.1 pc = .ok (.isub, 1)) (k : WQ Z Y I0 gr (pc + 1) lv (vi (x - y) :: st) I e κ) : WQ Z Y I0 gr pc lv (vi y :: vi x :: st) I e κ :=
  WQ.go (fun _ B _ _ _ ls _ _ _ hl kk => lv_isub B.1 B.2.1 d (by rw [i_sub]; exact kk ls hl)) k
theorem wq_imul {x y : Int} (d : decode Y.2.1 pc = .ok (.imul, 1)) (k : WQ Z Y I0 gr (pc + 1) lv (vi (x * y) :: st) I e κ) : WQ Z Y I0 gr pc lv (vi y :: vi x :: st) I e κ :=
  WQ.go (fun _ B _ _ _ ls _ _ _ hl kk => lv_imul B.1 B.2.1 d (by rw [i_mul]; exact kk ls hl)) k
theorem wq_ineg {x : Int} (d : decode Y.2.1 pc = .ok (.ineg, 1)) (k : WQ Z Y I0 gr (pc + 1) lv (vi (-x) :: st) I e κ) : WQ Z Y I0 gr pc lv (vi x :: st) I e κ :=
  WQ.go (fun _ B _ _ _ ls _ _ _ hl kk => lv_ineg B.1 B.2.1 d (by rw [i_neg]; exact kk ls hl)) k
theorem wq_idiv {x y : Int} (d : decode Y.2.1 pc = .ok (.idiv, 1)) (h : ¬ Int32.ofInt y = 0) (k : WQ Z Y I0 gr (pc + 1) lv (vi (idv x y) :: st) I e κ) : WQ Z Y I0 gr pc lv (vi y :: vi x :: st) I e κ :=
  WQ.go (fun _ B _ _ _ ls _ _ _ hl kk => lv_idiv B.1 B.2.1 d h (by rw [i_div]; exact kk ls hl)) k
theorem wq_irem {x y : Int} (d : decode Y.2.1 pc = .ok (.irem, 1)) (h : ¬ Int32.ofInt y = 0) (k : WQ Z Y I0 gr (pc + 1) lv (vi (irm x y) :: st) I e κ) : WQ Z Y I0 gr pc lv (vi y :: vi x :: st) I e κ :=
  WQ.go (fun _ B _ _ _ ls _ _ _ hl kk => lv_irem B.1 B.2.1 d h (by rw [i_rem]; exact kk ls hl)) k
theorem wq_iand {x y : Int} (d : decode Y.2.1 pc = .ok (.iand, 1)) (k : WQ Z Y I0 gr (pc + 1) lv (vi (ian x y) :: st) I e κ) : WQ Z Y I0 gr pc lv (vi y :: vi x :: st) I e κ :=
  WQ.go (fun _ B _ _ _ ls _ _ _ hl kk => lv_iand B.1 B.2.1 d (by have := kk ls hl; simp only [ian, vi, Int32.ofInt_toInt] at this; exact this)) k
theorem wq_ior {x y : Int} (d : decode Y.2.1 pc = .ok (.ior, 1)) (k : WQ Z Y I0 gr (pc + 1) lv (vi (ior x y) :: st) I e κ) : WQ Z Y I0 gr pc lv (vi y :: vi x :: st) I e κ :=
  WQ.go (fun _ B _ _ _ ls _ _ _ hl kk => lv_ior B.1 B.2.1 d (by have := kk ls hl; simp only [ior, vi, Int32.ofInt_toInt] at this; exact this)) k
theorem wq_ishl {x y : Int} (d : decode Y.2.1 pc = .ok (.ishl, 1)) (k : WQ Z Y I0 gr (pc + 1) lv (vi (ish x y) :: st) I e κ) : WQ Z Y I0 gr pc lv (vi y :: vi x :: st) I e κ :=
  WQ.go (fun _ B _ _ _ ls _ _ _ hl kk => lv_ishl B.1 B.2.1 d (by have := kk ls hl; simp only [ish, vi, Int32.ofInt_toInt] at this; exact this)) k
theorem wq_ishr {x y : Int} (d : decode Y.2.1 pc = .ok (.ishr, 1)) (k : WQ Z Y I0 gr (pc + 1) lv (vi (isr x y) :: st) I e κ) : WQ Z Y I0 gr pc lv (vi y :: vi x :: st) I e κ :=
  WQ.go (fun _ B _ _ _ ls _ _ _ hl kk => lv_ishr B.1 B.2.1 d (by have := kk ls hl; simp only [isr, vi, Int32.ofInt_toInt] at this; exact this)) k
theorem wq_iushr {x y : Int} (d : decode Y.2.1 pc = .ok (.iushr, 1)) (k : WQ Z Y I0 gr (pc + 1) lv (vi (ius x y) :: st) I e κ) : WQ Z Y I0 gr pc lv (vi y :: vi x :: st) I e κ :=
  WQ.go (fun _ B _ _ _ ls _ _ _ hl kk => lv_iushr B.1 B.2.1 d (Int32.ofInt_toInt _).symm (kk ls hl)) k
theorem wq_i2b {x : Int} (d : decode Y.2.1 pc = .ok (.i2b, 1)) (k : WQ Z Y I0 gr (pc + 1) lv (vi (i2b x) :: st) I e κ) : WQ Z Y I0 gr pc lv (vi x :: st) I e κ :=
  WQ.go (fun _ B _ _ _ ls _ _ _ hl kk => lv_i2b B.1 B.2.1 d (Int32.ofInt_toInt _).symm (kk ls hl)) k
theorem wq_dup {v : Value} (d : decode Y.2.1 pc = .ok (.dup, 1)) (hv : v.category = 1) (k : WQ Z Y I0 gr (pc + 1) lv (v :: v :: st) I e κ) : WQ Z Y I0 gr pc lv (v :: st) I e κ :=
  WQ.go (fun _ B _ _ _ ls _ _ _ hl kk => lv_dup B.1 B.2.1 d hv (kk ls hl)) k
theorem wq_dup2 {u v : Value} (d : decode Y.2.1 pc = .ok (.dup2, 1)) (hu : u.category = 1) (hv : v.category = 1) (k : WQ Z Y I0 gr (pc + 1) lv (u :: v :: u :: v :: st) I e κ) : WQ Z Y I0 gr pc lv (u :: v :: st) I e κ :=
  WQ.go (fun _ B _ _ _ ls _ _ _ hl kk => lv_dup2_11 B.1 B.2.1 d hu hv (kk ls hl)) k
theorem wq_dup_x1 {u v : Value} (d : decode Y.2.1 pc = .ok (.dup_x1, 1)) (hu : u.category = 1) (hv : v.category = 1) (k : WQ Z Y I0 gr (pc + 1) lv (u :: v :: u :: st) I e κ) : WQ Z Y I0 gr pc lv (u :: v :: st) I e κ :=
  WQ.go (fun _ B _ _ _ ls _ _ _ hl kk => lv_dup_x1 B.1 B.2.1 d hu hv (kk ls hl)) k
theorem wq_pop {v : Value} (d : decode Y.2.1 pc = .ok (.pop, 1)) (hv : v.category = 1) (k : WQ Z Y I0 gr (pc + 1) lv st I e κ) : WQ Z Y I0 gr pc lv (v :: st) I e κ :=
  WQ.go (fun _ B _ _ _ ls _ _ _ hl kk => lv_pop B.1 B.2.1 d hv (kk ls hl)) k
theorem wq_goto {off : Int} (tgt : Nat) (d : decode Y.2.1 pc = .ok (.goto off, 3)) (ht : (pc : Int) + off = (tgt : Int)) (k : WQ Z Y I0 gr tgt lv st I e κ) : WQ Z Y I0 gr pc lv st I e κ :=
  WQ.go (fun _ B _ _ _ ls _ _ _ hl kk => lv_goto B.1 B.2.1 d ht (kk ls hl)) k
theorem wq_if_eq {off x x' : Int} (tgt : Nat) (d : decode Y.2.1 pc = .ok (.ifCond .eq off, 3)) (ht : (pc : Int) + off = (tgt : Int)) (hx : w32 x = x') (k1 : x' = 0 → WQ Z Y I0 gr tgt lv st I e1 κ) (k2 : ¬ x' = 0 → WQ Z Y I0 gr (pc + 3) lv st I e2 κ) : WQ Z Y I0 gr pc lv (vi x :: st) I (if x' = 0 then e1 else e2) κ :=
  WQ.br (fun _ B _ _ _ ls _ _ _ _ h1 h2 => lv_if_eq B.1 B.2.1 d ht (fun q => h1 (by rw [← hx, ← w_0]; exact (w_eq x 0).mp q)) (fun q => h2 (fun r => q ((w_eq x 0).mpr (by rw [hx, r, w_0]))))) k1 k2
theorem wq_if_ne {off x x' : Int} (tgt : Nat) (d : decode Y.2.1 pc = .ok (.ifCond .ne off, 3)) (ht : (pc : Int) + off = (tgt : Int)) (hx : w32 x = x') (k1 : x' = 0 → WQ Z Y I0 gr (pc + 3) lv st I e1 κ) (k2 : ¬ x' = 0 → WQ Z Y I0 gr tgt lv st I e2 κ) : WQ Z Y I0 gr pc lv (vi x :: st) I (if x' = 0 then e1 else e2) κ :=
  WQ.br (fun _ B _ _ _ ls _ _ _ _ h1 h2 => lv_if_ne B.1 B.2.1 d ht (fun q => h2 (fun r => q ((w_eq x 0).mpr (by rw [hx, r, w_0])))) (fun q => h1 (by rw [← hx, ← w_0]; exact (w_eq x 0).mp q))) k1 k2
theorem wq_if_lt {off x x' : Int} (tgt : Nat) (d : decode Y.2.1 pc = .ok (.ifCond .lt off, 3)) (ht : (pc : Int) + off = (tgt : Int)) (hx : w32 x = x') (k1 : x' < 0 → WQ Z Y I0 gr tgt lv st I e1 κ) (k2 : ¬ x' < 0 → WQ Z Y I0 gr (pc + 3) lv st I e2 κ) : WQ Z Y I0 gr pc lv (vi x :: st) I (if x' < 0 then e1 else e2) κ :=
  WQ.br (fun _ B _ _ _ ls _ _ _ _ h1 h2 => lv_if_lt B.1 B.2.1 d ht (fun q => h1 (by have := (w_lt x 0).mp q; rw [hx, w_0] at this; exact this)) (fun q => h2 (fun r => q ((w_lt x 0).mpr (by rw [hx, w_0]; exact r))))) k1 k2
theorem wq_if_ge {off x x' : Int} (tgt : Nat) (d : decode Y.2.1 pc = .ok (.ifCond .ge off, 3)) (ht : (pc : Int) + off = (tgt : Int)) (hx : w32 x = x') (k1 : x' < 0 → WQ Z Y I0 gr (pc + 3) lv st I e1 κ) (k2 : ¬ x' < 0 → WQ Z Y I0 gr tgt lv st I e2 κ) : WQ Z Y I0 gr pc lv (vi x :: st) I (if x' < 0 then e1 else e2) κ :=
  WQ.br (fun _ B _ _ _ ls _ _ _ _ h1 h2 => lv_if_ge B.1 B.2.1 d ht (fun q => h2 (by have := (w_le 0 x).mp q; rw [hx, w_0] at this; exact this)) (fun q => h1 (by have := mt (w_le 0 x).mpr q; rw [hx, w_0] at this; omega))) k1 k2
theorem wq_if_gt {off x x' : Int} (tgt : Nat) (d : decode Y.2.1 pc = .ok (.ifCond .gt off, 3)) (ht : (pc : Int) + off = (tgt : Int)) (hx : w32 x = x') (k1 : 0 < x' → WQ Z Y I0 gr tgt lv st I e1 κ) (k2 : ¬ 0 < x' → WQ Z Y I0 gr (pc + 3) lv st I e2 κ) : WQ Z Y I0 gr pc lv (vi x :: st) I (if 0 < x' then e1 else e2) κ :=
  WQ.br (fun _ B _ _ _ ls _ _ _ _ h1 h2 => lv_if_gt B.1 B.2.1 d ht (fun q => h1 (by have := (w_lt 0 x).mp q; rw [hx, w_0] at this; exact this)) (fun q => h2 (fun r => q ((w_lt 0 x).mpr (by rw [hx, w_0]; exact r))))) k1 k2
theorem wq_if_le {off x x' : Int} (tgt : Nat) (d : decode Y.2.1 pc = .ok (.ifCond .le off, 3)) (ht : (pc : Int) + off = (tgt : Int)) (hx : w32 x = x') (k1 : 0 < x' → WQ Z Y I0 gr (pc + 3) lv st I e1 κ) (k2 : ¬ 0 < x' → WQ Z Y I0 gr tgt lv st I e2 κ) : WQ Z Y I0 gr pc lv (vi x :: st) I (if 0 < x' then e1 else e2) κ :=
  WQ.br (fun _ B _ _ _ ls _ _ _ _ h1 h2 => lv_if_le B.1 B.2.1 d ht (fun q => h2 (by have := (w_le x 0).mp q; rw [hx, w_0] at this; exact this)) (fun q => h1 (by have := mt (w_le x 0).mpr q; rw [hx, w_0] at this; omega))) k1 k2
theorem wq_icmp_eq {off x y x' y' : Int} (tgt : Nat) (d : decode Y.2.1 pc = .ok (.if_icmp .eq off, 3)) (ht : (pc : Int) + off = (tgt : Int)) (hx : w32 x = x') (hy : w32 y = y') (k1 : x' = y' → WQ Z Y I0 gr tgt lv st I e1 κ) (k2 : ¬ x' = y' → WQ Z Y I0 gr (pc + 3) lv st I e2 κ) : WQ Z Y I0 gr pc lv (vi y :: vi x :: st) I (if x' = y' then e1 else e2) κ :=
  WQ.br (fun _ B _ _ _ ls _ _ _ _ h1 h2 => lv_icmp_eq B.1 B.2.1 d ht (fun q => h1 (by rw [← hx, ← hy]; exact (w_eq x y).mp q)) (fun q => h2 (fun r => q ((w_eq x y).mpr (by rw [hx, r, hy]))))) k1 k2
theorem wq_icmp_ne {off x y x' y' : Int} (tgt : Nat) (d : decode Y.2.1 pc = .ok (.if_icmp .ne off, 3)) (ht : (pc : Int) + off = (tgt : Int)) (hx : w32 x = x') (hy : w32 y = y') (k1 : x' = y' → WQ Z Y I0 gr (pc + 3) lv st I e1 κ) (k2 : ¬ x' = y' → WQ Z Y I0 gr tgt lv st I e2 κ) : WQ Z Y I0 gr pc lv (vi y :: vi x :: st) I (if x' = y' then e1 else e2) κ :=
  WQ.br (fun _ B _ _ _ ls _ _ _ _ h1 h2 => lv_icmp_ne B.1 B.2.1 d ht (fun q => h2 (fun r => q ((w_eq x y).mpr (by rw [hx, r, hy])))) (fun q => h1 (by rw [← hx, ← hy]; exact (w_eq x y).mp q))) k1 k2
theorem wq_icmp_lt {off x y x' y' : Int} (tgt : Nat) (d : decode Y.2.1 pc = .ok (.if_icmp .lt off, 3)) (ht : (pc : Int) + off = (tgt : Int)) (hx : w32 x = x') (hy : w32 y = y') (k1 : x' < y' → WQ Z Y I0 gr tgt lv st I e1 κ) (k2 : ¬ x' < y' → WQ Z Y I0 gr (pc + 3) lv st I e2 κ) : WQ Z Y I0 gr pc lv (vi y :: vi x :: st) I (if x' < y' then e1 else e2) κ :=
  WQ.br (fun _ B _ _ _ ls _ _ _ _ h1 h2 => lv_icmp_lt B.1 B.2.1 d ht (fun q => h1 (by have := (w_lt x y).mp q; rw [hx, hy] at this; exact this)) (fun q => h2 (fun r => q ((w_lt x y).mpr (by rw [hx, hy]; exact r))))) k1 k2
theorem wq_icmp_ge {off x y x' y' : Int} (tgt : Nat) (d : decode Y.2.1 pc = .ok (.if_icmp .ge off, 3)) (ht : (pc : Int) + off = (tgt : Int)) (hx : w32 x = x') (hy : w32 y = y') (k1 : x' < y' → WQ Z Y I0 gr (pc + 3) lv st I e1 κ) (k2 : ¬ x' < y' → WQ Z Y I0 gr tgt lv st I e2 κ) : WQ Z Y I0 gr pc lv (vi y :: vi x :: st) I (if x' < y' then e1 else e2) κ :=
  WQ.br (fun _ B _ _ _ ls _ _ _ _ h1 h2 => lv_icmp_ge B.1 B.2.1 d ht (fun q => h2 (by have := (w_le y x).mp q; rw [hx, hy] at this; exact this)) (fun q => h1 (by have := mt (w_le y x).mpr q; rw [hx, hy] at this; omega))) k1 k2
theorem wq_icmp_gt {off x y x' y' : Int} (tgt : Nat) (d : decode Y.2.1 pc = .ok (.if_icmp .gt off, 3)) (ht : (pc : Int) + off = (tgt : Int)) (hx : w32 x = x') (hy : w32 y = y') (k1 : y' < x' → WQ Z Y I0 gr tgt lv st I e1 κ) (k2 : ¬ y' < x' → WQ Z Y I0 gr (pc + 3) lv st I e2 κ) : WQ Z Y I0 gr pc lv (vi y :: vi x :: st) I (if y' < x' then e1 else e2) κ :=
  WQ.br (fun _ B _ _ _ ls _ _ _ _ h1 h2 => lv_icmp_gt B.1 B.2.1 d ht (fun q => h1 (by have := (w_lt y x).mp q; rw [hx, hy] at this; exact this)) (fun q => h2 (fun r => q ((w_lt y x).mpr (by rw [hx, hy]; exact r))))) k1 k2
theorem wq_icmp_le {off x y x' y' : Int} (tgt : Nat) (d : decode Y.2.1 pc = .ok (.if_icmp .le off, 3)) (ht : (pc : Int) + off = (tgt : Int)) (hx : w32 x = x') (hy : w32 y = y') (k1 : y' < x' → WQ Z Y I0 gr (pc + 3) lv st I e1 κ) (k2 : ¬ y' < x' → WQ Z Y I0 gr tgt lv st I e2 κ) : WQ Z Y I0 gr pc lv (vi y :: vi x :: st) I (if y' < x' then e1 else e2) κ :=
  WQ.br (fun _ B _ _ _ ls _ _ _ _ h1 h2 => lv_icmp_le B.1 B.2.1 d ht (fun q => h2 (by have := (w_le x y).mp q; rw [hx, hy] at this; exact this)) (fun q => h1 (by have := mt (w_le x y).mpr q; rw [hx, hy] at this; omega))) k1 k2
end ROWS
end
section
/-! ===== fields, arrays, calls, ends, loops ===== -/
section MEMS
variable {Z : ZT} {Y : YT} {I0 : Mem} {gr : Nat → Nat} {pc : Nat} {lv : List (Nat × Value)} {st : List Value} {I : Mem} {α : Type} {e e1 e2 : Option (α × Mem)} {κ : α → Mem → Option OT}
theorem dC_eq {I0 I J : Mem} (h : ∀ s : Nat, J 30 0 s = I 30 0 s) : dC I0 J = dC I0 I := by unfold dC; rw [h]
theorem dS_eq {I0 I J : Mem} (h : ∀ s : Nat, J 30 0 s = I 30 0 s) : dS I0 J = dS I0 I := by unfold dS; rw [h]
theorem WQ.mem {J : Mem} {pc' : Nat} {lv' : List (Nat × Value)} {st' : List Value} (hc : ∀ s : Nat, J 30 0 s = I 30 0 s)
    (h : ∀ X : XT, Bd Z X Y → ∀ (o : OT) (H : Heap) (locs : List Loc) (ls : Array Slot) (cells slots : Nat), HHA Z gr I H → (∀ q ∈ locs, zN Z q.base) → lv_has ls Y.2.2.1 lv → (∀ (H1 : Heap) (locs1 : List Loc) (ls' : Array Slot), HHA Z gr J H1 → (∀ q ∈ locs1, zN Z q.base) → lv_has ls' Y.2.2.1 lv' → WX Z X Y I0 o H1 locs1 cells slots (F0 X.2.2.2.2.1 pc' ls' st')) → WX Z X Y I0 o H locs cells slots (F0 X.2.2.2.2.1 pc ls st))
    (k : WQ Z Y I0 gr pc' lv' st' J e κ) : WQ Z Y I0 gr pc lv st I e κ := by
  intro o ho
  have kk := k o ho
  refine ⟨⟨by rw [← hc]; exact kk.1.1, by rw [← hc]; exact kk.1.2⟩, fun X B hcl H locs ls hH hlo hl => ?_⟩
  have h1 := fun H1 locs1 ls' hH1 hlo1 hl' => kk.2 X B ⟨by rw [hc]; exact hcl.1, by rw [hc]; exact hcl.2⟩ H1 locs1 ls' hH1 hlo1 hl'
  rw [dC_eq hc, dS_eq hc] at h1
  exact h X B o H locs ls _ _ hH hlo hl h1
theorem sI_30 {k i s : Nat} {v : Int} (hk : k ≠ 30) (s' : Nat) : sI I k i s v 30 0 s' = I 30 0 s' := sI_ne (fun q => hk q.1.symm)
theorem locs_put {locs : List Loc} (h : ∀ q ∈ locs, zN Z q.base) {a i : Nat} (ha : zB Z ≤ a) : ∀ q ∈ locs ++ [⟨a, i⟩], zN Z q.base := fun q hq => by
  rcases List.mem_append.mp hq with h1 | h1
  · exact h q h1
  · cases List.mem_singleton.mp h1; exact ha
/-- a field is read -/
theorem wq_get {k i fk ci N index a : Nat} {C fn fd : String} {T : u_T} {fs : List Value} {v : Value} (he : ent Z gr I k i = .inr (ci, fs)) (hi : i < ksz k) (ha : adG Z gr k i = a) (hc : cls[ci]? = some (C, T, N)) (hin : ∀ w ∈ u_ws C T N, w ∈ lw_good) (hk : fk < N) (hT : T fk = (C, fn, fd, (T fk).2.2.2)) (hv : fs[fk]? = some v)
    (hln : Cond.fieldLink Y.1.cls index C fn fd ∈ lw_good) (d : decode Y.2.1 pc = .ok (.getfield index, 3)) (kk : WQ Z Y I0 gr (pc + 3) lv (v :: st) I e κ) : WQ Z Y I0 gr pc lv (.ref a :: st) I e κ := by
  refine WQ.go (fun X B o H locs ls cells slots hH hl k1 => ?_) kk
  have hat := hH.at hi
  rw [he, ha] at hat
  have h1 : (T fk).1 = C := by rw [hT]
  have h2 : (T fk).2.1 = fn := by rw [hT]
  have h3 : (T fk).2.2.1 = fd := by rw [hT]
  exact va_get (C := C) (T := T) (N := N) (ci := ci) (Ts := lw_good) B.1 B.2.1 (fun w hw => B.2.2.2.2.1 w hw) hin B.2.2.2.1 B.2.2.2.2.2.1.1 (va_P1 hat) 0 rfl hc fk hk (ref := C) (by rw [h2, h3]; exact B.2.2.2.2.1 _ hln) (fun x hx => by rw [h1] at hx; exact hx) hv d (k1 ls hl)
/-- a field of a number is written -/
theorem wq_put {k i fk ci N index a : Nat} {C fn fd : String} {T : u_T} {ty : Nat → FieldType} {fs : List Value} {x : Int} {f : Mem → Option (α × Mem)} {v : Value} (he : ent Z gr I k i = .inr (ci, fs)) (hset : ent Z gr (sI I k i fk x) k i = .inr (ci, fs.set fk v)) (hi : i < ksz k) (ha : adG Z gr k i = a) (hc : cls[ci]? = some (C, T, N)) (hin : ∀ w ∈ u_ws C T N, w ∈ lw_good)
    (hty : ∀ k, k < N → parseFieldDescriptor (T k).2.2.1 = some (ty k)) (hnm : ∀ a, a < N → ∀ b, b < N → a ≠ b → (T a).2.1 ≠ (T b).2.1) (hk : fk < N) (hT : T fk = (C, fn, fd, false)) (hl : fk < fs.length) (hn : narrow (ty fk) v = v) (hf : fits (ty fk) v = true) (h2 : ¬ (k = 2 ∧ fk = 2)) (h10 : ¬ (k = 10 ∧ fk = 2)) (h30 : k ≠ 30)
    (hln : Cond.fieldLink Y.1.cls index C fn fd ∈ lw_good) (d : decode Y.2.1 pc = .ok (.putfield index, 3)) (kk : ∀ J : Mem, WQ Z Y I0 gr (pc + 3) lv st J (f J) κ) : WQ Z Y I0 gr pc lv (v :: .ref a :: st) I (ltI (sI I k i fk x) f) κ := by
  refine WQ.mem (sI_30 h30) (fun X B o H locs ls cells slots hH hlo hl0 k1 => ?_) (kk _)
  have hat := hH.at hi
  rw [he, ha] at hat
  have e1 : (T fk).1 = C := by rw [hT]
  have e2 : (T fk).2.1 = fn := by rw [hT]
  have e3 : (T fk).2.2.1 = fd := by rw [hT]
  have e4 : (T fk).2.2.2 = false := by rw [hT]
  have hts : ∀ w ∈ lw_good, w.before X.2.2.2.2.2.1 X.2.2.2.1 = true := fun w hw => B.2.2.2.2.1 w hw
  have hK := B.2.2.2.2.2.1.1
  have hap := va_apart (own := Y.1.cls) hts hin ty hty hnm hK hc
  obtain ⟨r, h1, cell, q1, q2, q3, q4⟩ := hat
  have hr : r = (C, T, N) := Option.some.inj (h1.symm.trans hc)
  subst hr
  obtain ⟨hS, hfc, kC, hkC, hkind⟩ := hK.1 ci _ hc
  obtain ⟨cf, kf, fi, fl, hif, hsl⟩ := hS fk hk
  have hlay := hts _ (hin _ (u_in_lay hk))
  unfold u_lay at hlay
  rw [if_neg (by rw [e4]; decide)] at hlay
  have hst := (u_facts hfc hkC (u_lays hts hin hk) hif).1
  have h6 := u_store hfc hkC hkind hlay hif (hty fk hk) hn hf
  have hlnk := hts _ hln
  rw [← e2, ← e3] at hlnk
  have hif' : X.2.2.2.1.fieldFound? C (T fk).2.1 (T fk).2.2.1 = some (cf, kf, fi, fl) := by rw [← e1]; exact hif
  refine W.putK B.1 B.2.1 (f := fl) (ref := C) ⟨B.2.2.2.1, hlnk, ⟨_, _, _, hif'⟩, hst⟩ (by rw [q2]; exact h6) q1 q3 (by rw [hsl]; exact k2_hasslot (q4 fk hk)) rfl rfl d fun H' p1 p2 p3 => ?_
  rw [hsl] at p1 ⊢
  have hHn : HHA Z gr (sI I k i fk x) H' := by
    refine hH.upd hi p2 (by rw [ha]; exact p3) ?_ (fun k' i' hi' hne => sI_ent h2 h10 hne)
    rw [hset, ha]
    exact ⟨_, hc, t_OB.to (V := updV (vp_V fs) fk v) ⟨_, p1, q2, q3, t_set q4 hap hk v⟩ (fun j _ => vp_updV_set hl v j)⟩
  exact k1 H' _ ls hHn (locs_put hlo (by rw [← ha]; exact hH.2.2.1 k i hi)) hl0
/-- an int array's element is read -/
theorem wq_iald {k i a n : Nat} {f : Nat → Int} {j j' m : Int} (he : ent Z gr I k i = arI (zC Z 0) n f) (hi : i < ksz k) (ha : adG Z gr k i = a) (hj : w32 j = j') (hin : 0 ≤ j' ∧ j' < m) (hm : m.toNat ≤ n) (d : decode Y.2.1 pc = .ok (.iaload, 1)) (kk : WQ Z Y I0 gr (pc + 1) lv (vi (f j'.toNat) :: st) I e κ) : WQ Z Y I0 gr pc lv (vi j :: .ref a :: st) I e κ := by
  refine WQ.go (fun X B o H locs ls cells slots hH hl k1 => ?_) kk
  have hat := hH.at hi
  rw [he, ha] at hat
  refine va_iald (cA := zC Z 0) (n := n) (f := fun j => Int32.ofInt (f j)) B.1 B.2.1 B.2.2.2.2.2.1.1 (va_P1 hat) 0 0 rfl rfl (w_in hj hin hm) d ?_
  rw [w_nat hj]
  exact k1 ls hl
theorem wq_zald {k i a n : Nat} {f : Nat → Int} {j j' m : Int} (he : ent Z gr I k i = arI (zC Z 1) n f) (hi : i < ksz k) (ha : adG Z gr k i = a) (hj : w32 j = j') (hin : 0 ≤ j' ∧ j' < m) (hm : m.toNat ≤ n) (d : decode Y.2.1 pc = .ok (.baload, 1)) (kk : WQ Z Y I0 gr (pc + 1) lv (vi (f j'.toNat) :: st) I e κ) : WQ Z Y I0 gr pc lv (vi j :: .ref a :: st) I e κ := by
  refine WQ.go (fun X B o H locs ls cells slots hH hl k1 => ?_) kk
  have hat := hH.at hi
  rw [he, ha] at hat
  refine va_zald (cA := zC Z 1) (n := n) (f := fun j => Int32.ofInt (f j)) B.1 B.2.1 B.2.2.2.2.2.1.1 (va_P1 hat) 0 1 rfl rfl (w_in hj hin hm) d ?_
  rw [w_nat hj]
  exact k1 ls hl
theorem wq_bald {k i a n : Nat} {f : Nat → Int} {j j' m : Int} (he : ent Z gr I k i = arI (zC Z 2) n f) (hi : i < ksz k) (ha : adG Z gr k i = a) (hj : w32 j = j') (hin : 0 ≤ j' ∧ j' < m) (hm : m.toNat ≤ n) (d : decode Y.2.1 pc = .ok (.baload, 1)) (kk : WQ Z Y I0 gr (pc + 1) lv (vi (f j'.toNat) :: st) I e κ) : WQ Z Y I0 gr pc lv (vi j :: .ref a :: st) I e κ := by
  refine WQ.go (fun X B o H locs ls cells slots hH hl k1 => ?_) kk
  have hat := hH.at hi
  rw [he, ha] at hat
  refine va_bald (cA := zC Z 2) (n := n) (f := fun j => Int32.ofInt (f j)) B.1 B.2.1 B.2.2.2.2.2.1.1 (va_P1 hat) 0 2 rfl rfl (w_in hj hin hm) d ?_
  rw [w_nat hj]
  exact k1 ls hl
/-- an array of references is read -/
theorem wq_aald {k i a n t0 : Nat} {C : String} {f : Nat → Nat} {j j' m : Int} {cA : ClassId} (he : ent Z gr I k i = arR cA n f) (ht : (tysOf Z)[t0]? = some (cA, .object C)) (hi : i < ksz k) (ha : adG Z gr k i = a) (hj : w32 j = j') (hin : 0 ≤ j' ∧ j' < m) (hm : m.toNat ≤ n) (d : decode Y.2.1 pc = .ok (.aaload, 1)) (kk : WQ Z Y I0 gr (pc + 1) lv (.ref (f j'.toNat) :: st) I e κ) : WQ Z Y I0 gr pc lv (vi j :: .ref a :: st) I e κ := by
  refine WQ.go (fun X B o H locs ls cells slots hH hl k1 => ?_) kk
  have hat := hH.at hi
  rw [he, ha] at hat
  refine va_aldq (cA := cA) (n := n) (f := fun j => some (f j)) B.1 B.2.1 B.2.2.2.2.2.1.1 (va_P1 hat) 0 t0 rfl ht (w_in hj hin hm) d ?_
  rw [w_nat hj]
  exact k1 ls hl
/-- an int array's element is written -/
theorem wq_iast {k i a n : Nat} {j j' m x : Int} {f : Mem → Option (α × Mem)} (he : ∀ J : Mem, (∀ i', J 2 i' 2 = I 2 i' 2) → ent Z gr J k i = arI (zC Z 0) n (J k i)) (hi : i < ksz k) (ha : adG Z gr k i = a) (hj : w32 j = j') (hin : 0 ≤ j' ∧ j' < m) (hm : m.toNat ≤ n) (h2 : k ≠ 2) (h10 : k ≠ 10) (h30 : k ≠ 30) (d : decode Y.2.1 pc = .ok (.iastore, 1)) (kk : ∀ J : Mem, WQ Z Y I0 gr (pc + 1) lv st J (f J) κ) : WQ Z Y I0 gr pc lv (vi x :: vi j :: .ref a :: st) I (ltI (sI I k i j'.toNat x) f) κ := by
  refine WQ.mem (sI_30 h30) (fun X B o H locs ls cells slots hH hlo hl k1 => ?_) (kk _)
  have hat := hH.at hi
  rw [he I (fun _ => rfl), ha] at hat
  have hat : H[a]? = some (vp_cell (zC Z 0) (n, .inl fun j => Int32.ofInt (I k i j))) := hat
  refine W.iast B.1 B.2.1 hat ((B.2.2.2.2.2.1.1.2 0 _ rfl).1 n (fun j => .int (Int32.ofInt (I k i j)))) (fun q => by cases q) (by show ¬ (_ < 0 ∨ (arrV _ _ _).slots.size ≤ _); rw [arrV_size]; exact w_in hj hin hm) rfl rfl d fun H1 e1 z oq => ?_
  have hHn : HHA Z gr (sI I k i j'.toNat x) H1 := by
    refine hH.upd hi z (by rw [ha]; exact oq) ?_ (fun k' i' hi' hne => sI_ent (fun q => h2 q.1) (fun q => h10 q.1) hne)
    rw [he _ (fun i' => sI_ne (fun q => h2 q.1.symm)), ha]
    show H1[a]? = some (vp_cell _ _)
    rw [e1, vp_cell_i, vp_cell_i, arrV_store, w_nat hj]
    congr 2
    funext q
    by_cases hq : q = j'.toNat
    · subst hq; simp [updV, sI]
    · simp [updV, hq, sI]
  exact k1 H1 _ ls hHn (locs_put hlo (by rw [← ha]; exact hH.2.2.1 k i hi)) hl
/-- a boolean array's element is written -/
theorem wq_zast {k i a n : Nat} {j j' m x : Int} {f : Mem → Option (α × Mem)} (he : ∀ J : Mem, ent Z gr J k i = arI (zC Z 1) n (J k i)) (hi : i < ksz k) (ha : adG Z gr k i = a) (hj : w32 j = j') (hin : 0 ≤ j' ∧ j' < m) (hm : m.toNat ≤ n) (hx : narrow .boolean (vi x) = vi x) (h2 : k ≠ 2) (h10 : k ≠ 10) (h30 : k ≠ 30) (d : decode Y.2.1 pc = .ok (.bastore, 1)) (kk : ∀ J : Mem, WQ Z Y I0 gr (pc + 1) lv st J (f J) κ) : WQ Z Y I0 gr pc lv (vi x :: vi j :: .ref a :: st) I (ltI (sI I k i j'.toNat x) f) κ := by
  refine WQ.mem (sI_30 h30) (fun X B o H locs ls cells slots hH hlo hl k1 => ?_) (kk _)
  have hat := hH.at hi
  rw [he I, ha] at hat
  have hat : H[a]? = some (vp_cell (zC Z 1) (n, .inl fun j => Int32.ofInt (I k i j))) := hat
  refine W.zast B.1 B.2.1 hat ((B.2.2.2.2.2.1.1.2 1 _ rfl).1 n (fun j => .int (Int32.ofInt (I k i j)))) (fun q => by cases q) (by show ¬ (_ < 0 ∨ (arrV _ _ _).slots.size ≤ _); rw [arrV_size]; exact w_in hj hin hm) rfl rfl d fun H1 e1 z oq => ?_
  have hHn : HHA Z gr (sI I k i j'.toNat x) H1 := by
    refine hH.upd hi z (by rw [ha]; exact oq) ?_ (fun k' i' hi' hne => sI_ent (fun q => h2 q.1) (fun q => h10 q.1) hne)
    rw [he, ha]
    show H1[a]? = some (vp_cell _ _)
    rw [e1, vp_cell_i, vp_cell_i, arrV_store, w_nat hj, hx]
    congr 2
    funext q
    by_cases hq : q = j'.toNat
    · subst hq; simp [updV, sI]
    · simp [updV, hq, sI]
  exact k1 H1 _ ls hHn (locs_put hlo (by rw [← ha]; exact hH.2.2.1 k i hi)) hl
/-- an array's length -/
theorem wq_alen {k i a t0 : Nat} {ty : FieldType} {x : vp_A} {cA : ClassId} {m : Int} (he : ent Z gr I k i = .inl (cA, x)) (ht : (tysOf Z)[t0]? = some (cA, ty)) (hi : i < ksz k) (ha : adG Z gr k i = a) (hx : Int32.ofNat x.1 = Int32.ofInt m) (d : decode Y.2.1 pc = .ok (.arraylength, 1)) (kk : WQ Z Y I0 gr (pc + 1) lv (vi m :: st) I e κ) : WQ Z Y I0 gr pc lv (.ref a :: st) I e κ := by
  refine WQ.go (fun X B o H locs ls cells slots hH hl k1 => ?_) kk
  have hat := hH.at hi
  rw [he, ha] at hat
  exact va_alen (cA := cA) (x := x) B.1 B.2.1 B.2.2.2.2.2.1.1 (va_P1 hat) 0 t0 rfl ht hx d (k1 ls hl)
end MEMS
end
section
/-! ===== calls, ends, entries, loops ===== -/
section CALLS
variable {Z : ZT} {Y : YT} {I0 : Mem} {gr : Nat → Nat} {pc : Nat} {lv : List (Nat × Value)} {st : List Value} {I : Mem} {α : Type} {e : Option (α × Mem)} {κ : α → Mem → Option OT}
theorem fb_Pcz {Z : ZT} {av : List Value} {I : Mem} : FrameBlind (Pcz Z av I) := fun a U g mk h => ⟨h.1, h.2.1, KK.same (s := U) (U := U.calling g mk a) rfl h.2.2⟩
theorem pc_at {Z : ZT} {X : XT} {Y : YT} (B : Bd Z X Y) {gr : Nat → Nat} {I : Mem} {H : Heap} {av : List Value} (hH : HHA Z gr I H) : ∀ U : State, U.heap = H → X.2.2.2.1.WarmedH U.vm → Pcz Z av I av.toArray U :=
  fun U hU hW => ⟨rfl, ⟨gr, by rw [hU]; exact hH⟩, B.2.2.2.2.2.1.warm hW⟩
/-- behind a call -/
theorem call_go {p : Program} {l : Launch} {e : Env} {R : Room} {s : State} {m : MethodId} {args : Array Value} {below : List Frame} {meth : Method} {c : Code} {H : Heap} {locs : List Loc} {cells slots mc ms : Nat} {Q : State → Prop} {pc : Nat} {ls : Array Slot} {rest st0 : List Value} {a : Array Value} {Z : ZT} {o1 : OV}
    (hr : va_Run p l e R s m args below meth c H locs cells slots mc ms (F0 m pc ls st0) rest (Qcz Z o1 a) (zN Z)) (hlo : ∀ q ∈ locs, zN Z q.base)
    (kk : ∀ (H1 : Heap) (locs1 : List Loc), HH Z o1.2 H1 → (∀ q ∈ locs1, zN Z q.base) → W p l e R s m args below meth c H1 locs1 (cells + mc) (slots + ms) Q (F0 m (pc + 3) ls (o1.1.toList ++ rest))) : W p l e R s m args below meth c H locs cells slots Q (F0 m pc ls st0) := by
  intro T hT X
  obtain ⟨v, st₀, t, T', L, h0, X', hL, e1, e2, ⟨hv, hh⟩, st⟩ := hr T hT X
  cases hv
  obtain ⟨t2, a1, b1⟩ := kk T'.heap (locs ++ L) (by rw [e1]; exact hh) (fun q hq => by
    rcases List.mem_append.mp hq with h | h
    · exact hlo q h
    · exact hL q h) T' rfl X'
  exact ⟨t2, st t2 a1, b1⟩
/-- a call's step, of any kind: from the road of the call itself -/
theorem WP.call {o : OT} {o1 : OV} {y' : MethodName} {cc' : ByteArray} {maxL' h' : Nat} {ret' : Option FieldType} {av rest : List Value} (hr : Runs Z y' cc' maxL' ret' h' av I o1)
    (h : ∀ X : XT, Bd Z X Y → ∀ (H : Heap) (locs : List Loc) (ls : Array Slot), HHA Z gr I H → ls.size = Y.2.2.1 → dC I0 I + dC I o1.2 ≤ dC I0 o.2 ∧ dS I0 I + dS I o1.2 ≤ dS I0 o.2 → va_Run X.1 X.2.1 X.2.2.1 (rmH Y.2.2.2.2 (dC I0 o.2) (dS I0 o.2)) X.2.2.2.1 X.2.2.2.2.1 X.2.2.2.2.2.1 X.2.2.2.2.2.2.1 X.2.2.2.2.2.2.2.1 X.2.2.2.2.2.2.2.2 H locs (dC I0 I) (dS I0 I) (dC I o1.2) (dS I o1.2) (F0 X.2.2.2.2.1 pc ls st) rest (Qcz Z o1 av.toArray) (zN Z))
    (k : ∀ gr' : Nat → Nat, WP Z Y I0 o gr' (pc + 3) lv (o1.1.toList ++ rest) o1.2) : WP Z Y I0 o gr pc lv st I := by
  have hc1 := hr.1
  have hc2 := (k gr).1
  refine ⟨hc1.trans hc2, fun X B hcl H locs ls hH hlo hl => ?_⟩
  have hle : dC I0 I + dC I o1.2 = dC I0 o1.2 ∧ dS I0 I + dS I o1.2 = dS I0 o1.2 := by
    unfold dC dS
    obtain ⟨q1, q2⟩ := hc1
    obtain ⟨q5, q6⟩ := hcl
    constructor <;> omega
  have hle2 : dC I0 o1.2 ≤ dC I0 o.2 ∧ dS I0 o1.2 ≤ dS I0 o.2 := by
    unfold dC dS
    obtain ⟨q1, q2⟩ := hc2
    constructor <;> omega
  refine call_go (h X B H locs ls hH hl.1 ⟨by rw [hle.1]; exact hle2.1, by rw [hle.2]; exact hle2.2⟩) hlo (fun H1 locs1 hH1 hlo1 => ?_)
  obtain ⟨gr', hH1⟩ := hH1
  have := (k gr').2 X B (hcl.trans hc1) H1 locs1 ls hH1 hlo1 hl
  rw [hle.1, hle.2]
  exact this
theorem room_ok {h h' maxL' : Nat} (hh : h' < h) (hm : maxL' ≤ 16) : h' + 1 ≤ h ∧ 8 + (maxL' + 11) + 35 * h' ≤ 35 * h := ⟨hh, by omega⟩
/-- invokevirtual of a method of its own class -/
theorem WP.callV {o : OT} {o1 : OV} {y' : MethodName} {cc' : ByteArray} {maxL' h' k i ci N index n a : Nat} {T : u_T} {ret' : Option FieldType} {fs As rest : List Value} (hr : Runs Z y' cc' maxL' ret' h' (.ref a :: As) I o1)
    (he : ent Z gr I k i = .inr (ci, fs)) (hi : i < ksz k) (ha : adG Z gr k i = a) (hc : cls[ci]? = some (y'.cls, T, N)) (hn : As.length = n) (hst : st = As.reverse ++ .ref a :: rest) (hh : h' < Y.2.2.2.2) (hm : maxL' ≤ 16) (hw : (rest.map fun v => v.category).sum ≤ 8)
    (hcode : Cond.code y' cc' maxL' ret' ∈ lw_good) (hlink : Cond.methodLink Y.1.cls index y' ∈ lw_good) (hinst : Cond.instanceMethod y' ∈ lw_good) (hsel : Cond.selects y'.cls y' y' ∈ lw_good) (hini : Cond.initialized y'.cls ∈ lw_good)
    (hd : y'.cls ≠ "java/lang/invoke/MethodHandle" ∧ y'.cls ≠ "java/lang/invoke/VarHandle" ∧ (parseMethodDescriptor y'.desc).map (fun d => d.parameters.length) = some n) (d : decode Y.2.1 pc = .ok (.invokevirtual index, 3))
    (k : ∀ gr' : Nat → Nat, WP Z Y I0 o gr' (pc + 3) lv (o1.1.toList ++ rest) o1.2) : WP Z Y I0 o gr pc lv st I := by
  refine WP.call hr (fun X B H locs ls hH hls hroom => ?_) k
  have hat := hH.at hi
  rw [he, ha] at hat
  have hrecv := va_recv (q0 := 0) B.2.2.2.2.2.1.1 (va_P1 hat) hc rfl
  have hG : GoodIn lw_good (wsV Y.1.cls index y'.cls y' (wsAll y' cc' maxL' ret')) := by
    intro w hw
    rcases List.mem_append.mp hw with hw | hw
    · have hm : w ∈ lw_good := by
        simp only [List.mem_cons, List.mem_nil_iff, or_false] at hw
        rcases hw with rfl | rfl | rfl | rfl <;> assumption
      exact ⟨hm, good_of_word (List.mem_filter.mp hm).2⟩
    · exact goodAll hcode w hw
  exact va_runV (cc := Y.2.1) (nL := Y.2.2.1) (Ts := lw_good) (own := Y.1.cls) (As := As) (n := n) ⟨B.1, B.2.1, B.2.2.1, B.2.2.2.1, B.2.2.2.2.1⟩ (hr.2 X.2.1 B.2.2.2.2.2.2.2.2.1) (cwV n B.2.2.2.2.1 hG rfl rfl rfl ⟨rfl, hd⟩ (room_ok hh hm)) ⟨fb_Pcz, hrecv, pc_at B hH⟩ rfl hn hls hst (lv_room hw) d hroom
/-- invokestatic, in the same class -/
theorem WP.callS {o : OT} {o1 : OV} {y' : MethodName} {cc' : ByteArray} {maxL' h' index n : Nat} {ret' : Option FieldType} {As rest : List Value} (hr : Runs Z y' cc' maxL' ret' h' As I o1)
    (hn : As.length = n) (hst : st = As.reverse ++ rest) (hh : h' < Y.2.2.2.2) (hm : maxL' ≤ 16) (hw : (rest.map fun v => v.category).sum ≤ 8)
    (hcode : Cond.code y' cc' maxL' ret' ∈ lw_good) (hlink : Cond.methodLink Y.1.cls index y' ∈ lw_good) (hstat : Cond.static y' ∈ lw_good) (hini : Cond.initialized Y.1.cls ∈ lw_good)
    (hd : y'.cls = Y.1.cls ∧ y'.cls ≠ "java/lang/invoke/MethodHandle" ∧ y'.cls ≠ "java/lang/invoke/VarHandle" ∧ (parseMethodDescriptor y'.desc).map (fun d => d.parameters.length) = some n) (d : decode Y.2.1 pc = .ok (.invokestatic index, 3))
    (k : ∀ gr' : Nat → Nat, WP Z Y I0 o gr' (pc + 3) lv (o1.1.toList ++ rest) o1.2) : WP Z Y I0 o gr pc lv st I := by
  refine WP.call hr (fun X B H locs ls hH hls hroom => ?_) k
  have hG : GoodIn lw_good (wsS Y.1.cls index y' (wsAll y' cc' maxL' ret')) := by
    intro w hw
    rcases List.mem_append.mp hw with hw | hw
    · have hm : w ∈ lw_good := by
        simp only [List.mem_cons, List.mem_nil_iff, or_false] at hw
        rcases hw with rfl | rfl | rfl <;> assumption
      exact ⟨hm, good_of_word (List.mem_filter.mp hm).2⟩
    · exact goodAll hcode w hw
  exact va_runS (cc := Y.2.1) (nL := Y.2.2.1) (Ts := lw_good) (own := Y.1.cls) (As := As) (n := n) ⟨B.1, B.2.1, B.2.2.1, B.2.2.2.1, B.2.2.2.2.1⟩ (hr.2 X.2.1 B.2.2.2.2.2.2.2.2.1) (cwS n B.2.2.2.2.1 hG rfl rfl rfl hd (room_ok hh hm)) ⟨fb_Pcz, pc_at B hH⟩ rfl hn hls hst (lv_room hw) d hroom
/-- invokestatic, of a nest mate's private method -/
theorem WP.callSN {o : OT} {o1 : OV} {y' : MethodName} {cc' : ByteArray} {maxL' h' index n : Nat} {host : String} {ret' : Option FieldType} {As rest : List Value} (hr : Runs Z y' cc' maxL' ret' h' As I o1)
    (hn : As.length = n) (hst : st = As.reverse ++ rest) (hh : h' < Y.2.2.2.2) (hm : maxL' ≤ 16) (hw : (rest.map fun v => v.category).sum ≤ 8)
    (hcode : Cond.code y' cc' maxL' ret' ∈ lw_good) (hlink : Cond.methodLinkNest Y.1.cls index y' host ∈ lw_nw) (hstat : Cond.static y' ∈ lw_good) (hini : Cond.initialized y'.cls ∈ lw_good)
    (hd : y'.cls ≠ "java/lang/invoke/MethodHandle" ∧ y'.cls ≠ "java/lang/invoke/VarHandle" ∧ (parseMethodDescriptor y'.desc).map (fun d => d.parameters.length) = some n) (d : decode Y.2.1 pc = .ok (.invokestatic index, 3))
    (k : ∀ gr' : Nat → Nat, WP Z Y I0 o gr' (pc + 3) lv (o1.1.toList ++ rest) o1.2) : WP Z Y I0 o gr pc lv st I := by
  refine WP.call hr (fun X B H locs ls hH hls hroom => ?_) k
  exact va_runSN (cc := Y.2.1) (nL := Y.2.2.1) (Ts := lw_good) (own := Y.1.cls) (host := host) (As := As) (n := n) ⟨B.1, B.2.1, B.2.2.1, B.2.2.2.1, B.2.2.2.2.1⟩ (hr.2 X.2.1 B.2.2.2.2.2.2.2.2.1)
    ⟨va_cnB n B.2.2.2.2.1 (goodAll hcode) rfl rfl rfl (B.2.2.2.2.2.1.2.2.2.2.2.2.2.2.2.2 _ hlink) (B.2.2.2.2.1 _ hini) hd (room_ok hh hm), B.2.2.2.2.1 _ hstat, trivial⟩ ⟨fb_Pcz, pc_at B hH⟩ rfl hn hls hst (lv_room hw) d hroom
/-- the words of a method that is called: its code, instance, its class -/
def MwV (y' : MethodName) (cc' : ByteArray) (maxL' : Nat) (ret' : Option FieldType) (n : Nat) : Prop :=
  Cond.code y' cc' maxL' ret' ∈ lw_good ∧ Cond.instanceMethod y' ∈ lw_good ∧ Cond.selects y'.cls y' y' ∈ lw_good ∧ Cond.initialized y'.cls ∈ lw_good ∧ (y'.cls ≠ "java/lang/invoke/MethodHandle" ∧ y'.cls ≠ "java/lang/invoke/VarHandle" ∧ (parseMethodDescriptor y'.desc).map (fun d => d.parameters.length) = some n)
def MwS (y' : MethodName) (cc' : ByteArray) (maxL' : Nat) (ret' : Option FieldType) (n : Nat) : Prop :=
  Cond.code y' cc' maxL' ret' ∈ lw_good ∧ Cond.static y' ∈ lw_good ∧ Cond.initialized y'.cls ∈ lw_good ∧ (y'.cls ≠ "java/lang/invoke/MethodHandle" ∧ y'.cls ≠ "java/lang/invoke/VarHandle" ∧ (parseMethodDescriptor y'.desc).map (fun d => d.parameters.length) = some n)
theorem wq_callV {β : Type} {rv : β → Option Value} {f : Option (β × Mem)} {K : β → Mem → Option (α × Mem)} {y' : MethodName} {cc' : ByteArray} {maxL' h' k i ci N index n a : Nat} {T : u_T} {ret' : Option FieldType} {fs As rest : List Value} (hM : MwV y' cc' maxL' ret' n) (hr : ∀ (r : β) (J : Mem), f = some (r, J) → Runs Z y' cc' maxL' ret' h' (.ref a :: As) I (rv r, J))
    (he : ent Z gr I k i = .inr (ci, fs)) (hi : i < ksz k) (ha : adG Z gr k i = a) (hc : cls[ci]? = some (y'.cls, T, N)) (hn : As.length = n) (hst : st = As.reverse ++ .ref a :: rest) (hh : h' < Y.2.2.2.2) (hm : maxL' ≤ 16) (hw : (rest.map fun v => v.category).sum ≤ 8)
    (hlink : Cond.methodLink Y.1.cls index y' ∈ lw_good) (d : decode Y.2.1 pc = .ok (.invokevirtual index, 3))
    (kk : ∀ (gr' : Nat → Nat) (r : β) (J : Mem), WQ Z Y I0 gr' (pc + 3) lv ((rv r).toList ++ rest) J (K r J) κ) : WQ Z Y I0 gr pc lv st I (bnd f K) κ := by
  intro o ho
  cases hf : f with
  | none => rw [hf] at ho; cases ho
  | some q =>
    obtain ⟨r, J⟩ := q
    rw [hf] at ho
    exact WP.callV (hr r J hf) he hi ha hc hn hst hh hm hw hM.1 hlink hM.2.1 hM.2.2.1 hM.2.2.2.1 hM.2.2.2.2 d (fun gr' => kk gr' r J o ho)
theorem wq_callS {β : Type} {rv : β → Option Value} {f : Option (β × Mem)} {K : β → Mem → Option (α × Mem)} {y' : MethodName} {cc' : ByteArray} {maxL' h' index n : Nat} {ret' : Option FieldType} {As rest : List Value} (hM : MwS y' cc' maxL' ret' n) (hr : ∀ (r : β) (J : Mem), f = some (r, J) → Runs Z y' cc' maxL' ret' h' As I (rv r, J))
    (hcl : y'.cls = Y.1.cls) (hn : As.length = n) (hst : st = As.reverse ++ rest) (hh : h' < Y.2.2.2.2) (hm : maxL' ≤ 16) (hw : (rest.map fun v => v.category).sum ≤ 8)
    (hlink : Cond.methodLink Y.1.cls index y' ∈ lw_good) (d : decode Y.2.1 pc = .ok (.invokestatic index, 3))
    (kk : ∀ (gr' : Nat → Nat) (r : β) (J : Mem), WQ Z Y I0 gr' (pc + 3) lv ((rv r).toList ++ rest) J (K r J) κ) : WQ Z Y I0 gr pc lv st I (bnd f K) κ := by
  intro o ho
  cases hf : f with
  | none => rw [hf] at ho; cases ho
  | some q =>
    obtain ⟨r, J⟩ := q
    rw [hf] at ho
    exact WP.callS (hr r J hf) hn hst hh hm hw hM.1 hlink hM.2.1 (by rw [← hcl]; exact hM.2.2.1) ⟨hcl, hM.2.2.2⟩ d (fun gr' => kk gr' r J o ho)
theorem wq_callSN {β : Type} {rv : β → Option Value} {f : Option (β × Mem)} {K : β → Mem → Option (α × Mem)} {y' : MethodName} {cc' : ByteArray} {maxL' h' index n : Nat} {host : String} {ret' : Option FieldType} {As rest : List Value} (hM : MwS y' cc' maxL' ret' n) (hr : ∀ (r : β) (J : Mem), f = some (r, J) → Runs Z y' cc' maxL' ret' h' As I (rv r, J))
    (hn : As.length = n) (hst : st = As.reverse ++ rest) (hh : h' < Y.2.2.2.2) (hm : maxL' ≤ 16) (hw : (rest.map fun v => v.category).sum ≤ 8)
    (hlink : Cond.methodLinkNest Y.1.cls index y' host ∈ lw_nw) (d : decode Y.2.1 pc = .ok (.invokestatic index, 3))
    (kk : ∀ (gr' : Nat → Nat) (r : β) (J : Mem), WQ Z Y I0 gr' (pc + 3) lv ((rv r).toList ++ rest) J (K r J) κ) : WQ Z Y I0 gr pc lv st I (bnd f K) κ := by
  intro o ho
  cases hf : f with
  | none => rw [hf] at ho; cases ho
  | some q =>
    obtain ⟨r, J⟩ := q
    rw [hf] at ho
    exact WP.callSN (hr r J hf) hn hst hh hm hw hM.1 hlink hM.2.1 hM.2.2.1 hM.2.2.2 d (fun gr' => kk gr' r J o ho)
/-! ends: what the method answers -/
theorem wq_iret {x : Int} {b : α} (hr : Y.2.2.2.1 = some .int) (h : κ b I = some (.inl (some (vi x)), I)) (d : decode Y.2.1 pc = .ok (.ireturn, 1)) : WQ Z Y I0 gr pc lv [vi x] I (some (b, I)) κ := by
  intro o ho
  have ho : some o = some (.inl (some (vi x)), I) := ho.symm.trans h
  cases ho
  refine ⟨cle.refl I, fun X B hcl H locs ls hH hlo hl => ?_⟩
  exact W.iret (hlocks := B.2.2.2.2.2.2.2.1) B.1 B.2.1 (B.2.2.2.2.2.2.1.trans hr) (fun t ht _ => ⟨rfl, gr, by rw [ht]; exact hH⟩) hlo d
theorem wq_zret {x : Int} {b : α} (hr : Y.2.2.2.1 = some .boolean) (hx : x = 0 ∨ x = 1) (h : κ b I = some (.inl (some (vi x)), I)) (d : decode Y.2.1 pc = .ok (.ireturn, 1)) : WQ Z Y I0 gr pc lv [vi x] I (some (b, I)) κ := by
  intro o ho
  have ho : some o = some (.inl (some (vi x)), I) := ho.symm.trans h
  cases ho
  refine ⟨cle.refl I, fun X B hcl H locs ls hH hlo hl => ?_⟩
  exact W.zret (hlocks := B.2.2.2.2.2.2.2.1) B.1 B.2.1 (B.2.2.2.2.2.2.1.trans hr) (by rcases hx with rfl | rfl <;> rfl) (fun t ht _ => ⟨rfl, gr, by rw [ht]; exact hH⟩) hlo d
theorem wq_vret {b : α} (hr : Y.2.2.2.1 = none) (h : κ b I = some (.inl none, I)) (d : decode Y.2.1 pc = .ok (.return_, 1)) : WQ Z Y I0 gr pc lv [] I (some (b, I)) κ := by
  intro o ho
  have ho : some o = some (.inl none, I) := ho.symm.trans h
  cases ho
  refine ⟨cle.refl I, fun X B hcl H locs ls hH hlo hl => ?_⟩
  exact W.vret (hlocks := B.2.2.2.2.2.2.2.1) B.1 B.2.1 (B.2.2.2.2.2.2.1.trans hr) (fun t ht _ => ⟨rfl, gr, by rw [ht]; exact hH⟩) hlo d
theorem wq_aret {a : Nat} {b : α} {rt : FieldType} (hr : Y.2.2.2.1 = some rt) (hrt : (∃ n, rt = .object n) ∨ ∃ t, rt = .array t) (h : κ b I = some (.inl (some (.ref a)), I)) (d : decode Y.2.1 pc = .ok (.areturn, 1)) : WQ Z Y I0 gr pc lv [.ref a] I (some (b, I)) κ := by
  intro o ho
  have ho : some o = some (.inl (some (.ref a)), I) := ho.symm.trans h
  cases ho
  refine ⟨cle.refl I, fun X B hcl H locs ls hH hlo hl => ?_⟩
  exact W.aret (hlocks := B.2.2.2.2.2.2.2.1) B.1 B.2.1 (B.2.2.2.2.2.2.1.trans hr) hrt (Or.inr ⟨_, rfl⟩) (fun t ht _ => ⟨rfl, gr, by rw [ht]; exact hH⟩) hlo d
/-- a plain method has no handlers -/
theorem tab_nil {p : Program} {l : Launch} {e : Env} {s : State} {m : MethodId} {args : Array Value} {below : List Frame} {meth : Method} {c : Code} {s₁ : State} {y : MethodName} {ws : List Cond} {rm : Room} {cc : ByteArray} {maxL : Nat} {ret : Option FieldType} (B : BodyLoose p l y (headSpec ws rm) cc maxL ret e s m args below meth c s₁) (hw : Cond.code y cc maxL ret ∈ ws) (hy : (xtb y).isEmpty = true) : c.exceptionTable.toList = tableOf (xtb y) := by
  obtain ⟨meth9, c9, h1, h2, -, -, -, -, h7, -⟩ := Cond.code_spec B.named (atoms_spec (ws := ws) B.pre _ hw)
  cases Option.some.inj (h1.symm.trans B.method)
  cases Option.some.inj (h2.symm.trans (Stand.of_body B).code)
  rw [Array.isEmpty_iff.mp h7, List.isEmpty_iff.mp hy]
  rfl
/-- a method's entry -/
theorem Runs.of {β : Type} {rv : β → Option Value} {r : β} {J : Mem} {f : Option (β × Mem)} {y : MethodName} {cc : ByteArray} {maxL h : Nat} {ret : Option FieldType} {av : List Value} (hy : (plainName y.cls && (xtb y).isEmpty) = true) (hlen : (lg_sl av).length ≤ maxL) (hf : f = some (r, J))
    (k : ∀ gr : Nat → Nat, WQ Z (y, cc, maxL, ret, h) I gr 0 (lv_args 0 av) [] I f (fun b K => some (.inl (rv b), K))) : Runs Z y cc maxL ret h av I (rv r, J) := by
  have k := fun gr => k gr (.inl (rv r), J) (by rw [hf]; rfl)
  refine ⟨(k (fun _ => 0)).1, fun l hfl => ?_⟩
  rw [Bool.and_eq_true] at hy
  refine Met.ofW (cc := cc) (maxL := maxL) (ret := ret) hy.1 rfl ?_
  intro p e s m args below meth c s₁ B hml hv
  have htb := tab_nil (ws := wsAll y cc maxL ret) B List.mem_cons_self hy.2
  obtain ⟨rfl, ⟨gr, hH⟩, hKK⟩ := hv
  have hts : ∀ w ∈ lw_good, w.before av.toArray s = true := fun w hw => atoms_spec (ws := wsAll y cc maxL ret) B.pre w (List.mem_cons_of_mem _ hw)
  have hown := findClass_of_methodNamed B.named
  have hl := lv_entry av (n := maxL) hlen
  rw [lg_entry_eq]
  have hk := (k gr).2 (p, l, e, s, m, av.toArray, below, meth, c) ⟨B.exec, B.bytes, hml, hown, hts, hKK, B.returns, B.notSynchronized, hfl, htb, I, gr, hH⟩ (cle.refl I) s.heap [] _ hH (fun q hq => by cases hq) hl
  have e1 : dC I I = 0 := by unfold dC; omega
  have e2 : dS I I = 0 := by unfold dS; omega
  rw [e1, e2] at hk
  exact hk
end CALLS
/-! ===== loops ===== -/
/-- n turns at most -/
def whN {σ ρ : Type} (step : σ → Mem → Option ((σ ⊕ ρ) × Mem)) : Nat → σ → Mem → Option (ρ × Mem)
  | 0, _, _ => none
  | n + 1, s, I => match step s I with
    | none => none
    | some (.inl s', J) => whN step n s' J
    | some (.inr r, J) => some (r, J)
theorem whN_up {σ ρ : Type} {step : σ → Mem → Option ((σ ⊕ ρ) × Mem)} : ∀ {n : Nat} {s : σ} {I : Mem} {q : ρ × Mem}, whN step n s I = some q → ∀ m : Nat, n ≤ m → whN step m s I = some q := by
  intro n
  induction n with
  | zero => intro s I q h; cases h
  | succ n ih =>
    intro s I q h m hm
    obtain ⟨m, rfl⟩ : ∃ k, m = k + 1 := ⟨m - 1, by omega⟩
    unfold whN at h ⊢
    cases hs : step s I with
    | none => rw [hs] at h; cases h
    | some x =>
      obtain ⟨x, J⟩ := x
      rw [hs] at h
      cases x with
      | inl s' => exact ih h m (by omega)
      | inr r => exact h
/-- the loop: what it ends with, if it ends -/
noncomputable def whl {σ ρ : Type} (step : σ → Mem → Option ((σ ⊕ ρ) × Mem)) (s : σ) (I : Mem) : Option (ρ × Mem) :=
  @dite _ (∃ (n : Nat) (q : ρ × Mem), whN step n s I = some q) (Classical.propDecidable _) (fun h => whN step h.choose s I) (fun _ => none)
theorem whl_iff {σ ρ : Type} {step : σ → Mem → Option ((σ ⊕ ρ) × Mem)} {s : σ} {I : Mem} {q : ρ × Mem} : whl step s I = some q ↔ ∃ n : Nat, whN step n s I = some q := by
  constructor
  · intro h
    unfold whl at h
    split at h
    · exact ⟨_, h⟩
    · cases h
  · rintro ⟨n, hn⟩
    unfold whl
    have hex : ∃ (n : Nat) (q : ρ × Mem), whN step n s I = some q := ⟨n, q, hn⟩
    rw [dif_pos hex]
    obtain ⟨q', hq'⟩ := hex.choose_spec
    have a1 := whN_up hn (n + hex.choose) (by omega)
    have a2 := whN_up hq' (n + hex.choose) (by omega)
    rw [hq', ← a2, a1]
/-- one turn -/
theorem whl_eq {σ ρ : Type} (step : σ → Mem → Option ((σ ⊕ ρ) × Mem)) (s : σ) (I : Mem) : whl step s I = match step s I with
    | none => none
    | some (.inl s', J) => whl step s' J
    | some (.inr r, J) => some (r, J) := by
  have key : ∀ q : ρ × Mem, whl step s I = some q ↔ (match step s I with
    | none => none
    | some (.inl s', J) => whl step s' J
    | some (.inr r, J) => some (r, J)) = some q := by
    intro q
    rw [whl_iff]
    cases hs : step s I with
    | none =>
      constructor
      · rintro ⟨n, hn⟩
        cases n with
        | zero => cases hn
        | succ n => unfold whN at hn; rw [hs] at hn; cases hn
      · intro h; cases h
    | some x =>
      obtain ⟨x, J⟩ := x
      cases x with
      | inl s' =>
        show _ ↔ whl step s' J = some q
        rw [whl_iff]
        constructor
        · rintro ⟨n, hn⟩
          cases n with
          | zero => cases hn
          | succ n => unfold whN at hn; rw [hs] at hn; exact ⟨n, hn⟩
        · rintro ⟨n, hn⟩
          refine ⟨n + 1, ?_⟩
          unfold whN
          rw [hs]
          exact hn
      | inr r =>
        show _ ↔ some (r, J) = some q
        constructor
        · rintro ⟨n, hn⟩
          cases n with
          | zero => cases hn
          | succ n => unfold whN at hn; rw [hs] at hn; exact hn
        · intro h
          refine ⟨1, ?_⟩
          unfold whN
          rw [hs]
          exact h
  exact Option.ext (fun q => key q)
section LOOPS
variable {Z : ZT} {Y : YT} {I0 : Mem} {pc : Nat} {lv : List (Nat × Value)} {I : Mem}
/-- a loop, at its head: the locals are a picture of what it carries -/
theorem wq_loop {σ ρ : Type} {step : σ → Mem → Option ((σ ⊕ ρ) × Mem)} {κ : ρ → Mem → Option OT} (lvf : σ → List (Nat × Value))
    (hb : ∀ κ2 : σ ⊕ ρ → Mem → Option OT, (∀ (gr : Nat → Nat) (s : σ) (J : Mem), WQ Z Y I0 gr pc (lvf s) [] J (some (.inl s, J)) κ2) → (∀ (r : ρ) (J : Mem), κ2 (.inr r) J = κ r J) → ∀ (gr : Nat → Nat) (s : σ) (J : Mem), WQ Z Y I0 gr pc (lvf s) [] J (step s J) κ2) (gr : Nat → Nat) (s : σ) (h : lvf s = lv) : WQ Z Y I0 gr pc lv [] I (whl step s I) κ := by
  subst h
  have key : ∀ (n : Nat) (gr : Nat → Nat) (s : σ) (J : Mem) (q : ρ × Mem) (o : OT), whN step n s J = some q → κ q.1 q.2 = some o → WP Z Y I0 o gr pc (lvf s) [] J := by
    intro n
    induction n with
    | zero => intro gr s J q o h; cases h
    | succ n ih =>
      intro gr s J q o h ho
      have hb' := hb (fun x K => match x with
        | .inl s' => (match whN step n s' K with
          | none => none
          | some q => κ q.1 q.2)
        | .inr r => κ r K) ?_ (fun _ _ => rfl) gr s J o ?_
      · exact hb'
      · intro gr' s' K o' ho'
        cases hw : whN step n s' K with
        | none =>
          have : (match whN step n s' K with
            | none => none
            | some q => κ q.1 q.2) = some o' := ho'
          rw [hw] at this; cases this
        | some q' =>
          have : (match whN step n s' K with
            | none => none
            | some q => κ q.1 q.2) = some o' := ho'
          rw [hw] at this
          exact ih gr' s' K q' o' hw this
      · unfold whN at h
        cases hs : step s J with
        | none => rw [hs] at h; cases h
        | some x =>
          obtain ⟨x, K⟩ := x
          rw [hs] at h
          cases x with
          | inl s' =>
            have h : whN step n s' K = some q := h
            show (match whN step n s' K with
            | none => none
            | some q => κ q.1 q.2) = some o
            rw [h]; exact ho
          | inr r =>
            have h : some (r, K) = some q := h
            cases h
            exact ho
  intro o ho
  cases hw : whl step s I with
  | none => rw [hw] at ho; cases ho
  | some q =>
    rw [hw] at ho
    obtain ⟨n, hn⟩ := whl_iff.mp hw
    exact key n gr s I q o hn ho
end LOOPS
end
section
/-! ===== splits, switches, static things ===== -/
section PRIMS
variable {Z : ZT} {Y : YT} {I0 : Mem} {gr : Nat → Nat} {pc : Nat} {lv : List (Nat × Value)} {st : List Value} {I : Mem} {α : Type} {e e1 e2 : Option (α × Mem)} {κ : α → Mem → Option OT}
theorem WQ.split {c : Prop} [Decidable c] (k1 : c → WQ Z Y I0 gr pc lv st I e1 κ) (k2 : ¬ c → WQ Z Y I0 gr pc lv st I e2 κ) : WQ Z Y I0 gr pc lv st I (if c then e1 else e2) κ := by
  by_cases hc : c
  · rw [if_pos hc]; exact k1 hc
  · rw [if_neg hc]; exact k2 hc
theorem WQ.both (c : Prop) [Decidable c] (k : WQ Z Y I0 gr pc lv st I (if c then e else e) κ) : WQ Z Y I0 gr pc lv st I e κ := by rw [ite_self] at k; exact k
theorem WQ.top {x y : Int} (h : x = y) (k : WQ Z Y I0 gr pc lv (vi x :: st) I e κ) : WQ Z Y I0 gr pc lv (vi y :: st) I e κ := h ▸ k
theorem WQ.lt {β : Type} {x : β} {f : β → Option (α × Mem)} (k : WQ Z Y I0 gr pc lv st I (f x) κ) : WQ Z Y I0 gr pc lv st I (ltI x f) κ := k
theorem wq_tin {x x' n dflt lo hi off : Int} {offs : Array Int} {len : Nat} (tgt : Nat) (d : decode Y.2.1 pc = .ok (.tableswitch dflt lo hi offs, len)) (hx : w32 x = x') (hc : x' = n) (h1 : lo ≤ n) (h2 : n ≤ hi) (ho : offs[(n - lo).toNat]? = some off) (ht : (pc : Int) + off = (tgt : Int)) (k : WQ Z Y I0 gr tgt lv st I e κ) : WQ Z Y I0 gr pc lv (vi x :: st) I e κ :=
  WQ.go (fun _ B _ _ _ ls _ _ _ hl kk => lv_tableIn B.1 B.2.1 d (by rw [w_toInt, hx, hc]; omega) (by rw [w_toInt, hx, hc]; omega) (by rw [w_toInt, hx, hc]; exact ho) ht (kk ls hl)) k
theorem wq_tout {x x' dflt lo hi : Int} {offs : Array Int} {len : Nat} (tgt : Nat) (d : decode Y.2.1 pc = .ok (.tableswitch dflt lo hi offs, len)) (hx : w32 x = x') (hc : x' < lo ∨ hi < x') (ht : (pc : Int) + dflt = (tgt : Int)) (k : WQ Z Y I0 gr tgt lv st I e κ) : WQ Z Y I0 gr pc lv (vi x :: st) I e κ :=
  WQ.go (fun _ B _ _ _ ls _ _ _ hl kk => lv_tableOut B.1 B.2.1 d (by rw [w_toInt, hx]; exact hc) ht (kk ls hl)) k
theorem wq_look {x x' dflt off : Int} {ps : Array (Int × Int)} {len : Nat} (tgt : Nat) (d : decode Y.2.1 pc = .ok (.lookupswitch dflt ps, len)) (hx : w32 x = x') (hp : (ps.toList.zip (ps.toList.drop 1)).all (fun (a, next) => a.1 < next.1) = true) (ho : Op.lookupswitch.offset ps.toList dflt x' = off) (ht : (pc : Int) + off = (tgt : Int)) (k : WQ Z Y I0 gr tgt lv st I e κ) : WQ Z Y I0 gr pc lv (vi x :: st) I e κ :=
  WQ.go (fun _ B _ _ _ ls _ _ _ hl kk => lv_lookup B.1 B.2.1 d hp (by rw [w_toInt, hx]; exact ho) ht (kk ls hl)) k
/-- the old cells stand -/
theorem old_kept {H : Heap} (hH : HHA Z gr I H) : ∀ a : Nat, a < (zH Z).size → ¬ zN Z a → H[a]? = (zH Z)[a]? := fun a h1 _ => hH.1.2.2 a (by rw [← hH.1.1]; exact h1)
theorem wq_gets {C n fd : String} {v : Value} {index : Nat} (hS : ∀ U : State, Sta Z U → va_Z C n fd v (zN Z) U (zH Z)) (hln : Cond.fieldLink Y.1.cls index C n fd ∈ lw_good) (d : decode Y.2.1 pc = .ok (.getstatic index, 3)) (k : WQ Z Y I0 gr (pc + 3) lv (v :: st) I e κ) : WQ Z Y I0 gr pc lv st I e κ :=
  WQ.go (fun X B _ _ _ ls _ _ hH hl kk => by
    obtain ⟨cf, kf, fi, f, a, cell, h1, h2, h3, h4, h5, h6, h7, h8⟩ := (hS _ B.2.2.2.2.2.1.2).kept (old_kept hH)
    exact W.gets B.1 B.2.1 B.2.2.2.1 (B.2.2.2.2.1 _ hln) h1 h2 h3 h4 h5 (fun e => by rw [e] at h6; cases h6) h7 rfl d (kk ls hl)) k
theorem sta_word (j : Nat) (hj : j < 15) (U : State) (h : Sta Z U) : va_Z RX11 (wNames.getD j "") "LPairRules$Word;" (vr Z 11 j) (zN Z) U (zH Z) := (h.1.1 j hj).1
theorem sta_WORDS (U : State) (h : Sta Z U) : va_Z RX8 "WORDS" "[LPairRules$Word;" (vr Z 32 0) (zN Z) U (zH Z) := h.2.2.2.1
theorem sta_smap (U : State) (h : Sta Z U) : va_Z RX0 "$SwitchMap$PairRules$Word" "[I" (vr Z 33 0) (zN Z) U (zH Z) := h.2.2.2.2.2.1
/-- a field of an enum constant, through a nest link -/
theorem wq_word {j index q : Nat} {host fo fn fd : String} {l : List Int32} {x : Int} (hq : wFld[q]? = some (fo, fn, fd, l)) (hj : j < 15) (hx : l.getD j 0 = Int32.ofInt x) (hln : Cond.fieldLinkNest Y.1.cls index fo fn fd host ∈ lw_nw) (d : decode Y.2.1 pc = .ok (.getfield index, 3)) (k : WQ Z Y I0 gr (pc + 3) lv (vi x :: st) I e κ) : WQ Z Y I0 gr pc lv (vr Z 11 j :: st) I e κ :=
  WQ.go (fun X B _ _ _ ls _ _ hH hl kk => by
    have hS := B.2.2.2.2.2.1.2
    obtain ⟨cf, kf, fi, f, cell, h1, h2, h3, h4, h5, h6⟩ := ((hS.1.1 j hj).2.2 _ (List.mem_of_getElem? hq)).kept (old_kept hH)
    refine va_Wgetf (v := vi x) B.1 B.2.1 B.2.2.2.1 (va_Nw.use rfl (hS.2.2.2.2.2.2.2.2.2 _ hln)) h1 h2 h3 h4 ?_ rfl rfl d (kk ls hl)
    rw [h5]; exact congrArg (fun z => some (Value.int z)) hx) k
theorem wq_wtext {j index : Nat} {host : String} (hj : j < 15) (hln : Cond.fieldLinkNest Y.1.cls index RX11 "text" "Ljava/lang/String;" host ∈ lw_nw) (d : decode Y.2.1 pc = .ok (.getfield index, 3)) (k : WQ Z Y I0 gr (pc + 3) lv (vr Z 34 j :: st) I e κ) : WQ Z Y I0 gr pc lv (vr Z 11 j :: st) I e κ :=
  WQ.go (fun X B _ _ _ ls _ _ hH hl kk => by
    have hS := B.2.2.2.2.2.1.2
    obtain ⟨cf, kf, fi, f, cell, h1, h2, h3, h4, h5, h6⟩ := (hS.2.1 j hj).kept (old_kept hH)
    exact va_Wgetf (v := vr Z 34 j) B.1 B.2.1 B.2.2.2.1 (va_Nw.use rfl (hS.2.2.2.2.2.2.2.2.2 _ hln)) h1 h2 h3 h4 h5 rfl rfl d (kk ls hl)) k
/-- the switch's table, the row of all words -/
theorem wq_smap {j j' : Int} (hj : w32 j = j') (hin : 0 ≤ j' ∧ j' < 15) (d : decode Y.2.1 pc = .ok (.iaload, 1)) (k : WQ Z Y I0 gr (pc + 1) lv (vi (wSm.getD j'.toNat 0) :: st) I e κ) : WQ Z Y I0 gr pc lv (vi j :: vr Z 33 0 :: st) I e κ :=
  WQ.go (fun X B _ _ _ ls _ _ hH hl kk => by
    obtain ⟨cell, h1, h2, h3, h4, h5, h6, h7⟩ := (B.2.2.2.2.2.1.2.2.2.2.2.2.2.1).kept (old_kept hH)
    have hi := w_in (n := 15) hj hin (Nat.le_refl _)
    have hlt : (Int32.ofInt j).toNatClampNeg < 15 := Nat.not_le.mp fun q => hi (Or.inr q)
    refine W.iald (v := vi (wSm.getD j'.toNat 0)) B.1 B.2.1 h1 h2 h3 (fun q => hi (q.elim Or.inl (fun z => Or.inr (Nat.le_trans h4 z)))) ?_ rfl rfl d (kk ls hl)
    rw [h6 _ hlt, w_nat hj]) k
theorem wq_WORDS {j j' : Int} (hj : w32 j = j') (hin : 0 ≤ j' ∧ j' < 15) (d : decode Y.2.1 pc = .ok (.aaload, 1)) (k : WQ Z Y I0 gr (pc + 1) lv (vr Z 11 j'.toNat :: st) I e κ) : WQ Z Y I0 gr pc lv (vi j :: vr Z 32 0 :: st) I e κ :=
  WQ.go (fun X B _ _ _ ls _ _ hH hl kk => by
    obtain ⟨cell, h1, h2, h3, h4, h5, h6, h7⟩ := (B.2.2.2.2.2.1.2.2.2.2.2.1).kept (old_kept hH)
    have hi := w_in (n := 15) hj hin (Nat.le_refl _)
    have hlt : (Int32.ofInt j).toNatClampNeg < 15 := Nat.not_le.mp fun q => hi (Or.inr q)
    refine W.aald (ty := .object RX11) (v := vr Z 11 j'.toNat) B.1 B.2.1 h1 h2 rfl h3 (fun q => hi (q.elim Or.inl (fun z => Or.inr (Nat.le_trans h4 z)))) ?_ rfl rfl d (kk ls hl)
    rw [h6 _ hlt, w_nat hj]) k
theorem wq_WORDSlen (d : decode Y.2.1 pc = .ok (.arraylength, 1)) (k : WQ Z Y I0 gr (pc + 1) lv (vi 15 :: st) I e κ) : WQ Z Y I0 gr pc lv (vr Z 32 0 :: st) I e κ :=
  WQ.go (fun X B _ _ _ ls _ _ hH hl kk => by
    obtain ⟨cell, h1, h2, h3, h4, h5, h6, h7⟩ := (B.2.2.2.2.2.1.2.2.2.2.2.1).kept (old_kept hH)
    exact W.alen (n := Int32.ofInt 15) B.1 B.2.1 h1 h2 (by rw [h5]; rfl) rfl rfl d (kk ls hl)) k
/-! enum constants are told apart; null -/
theorem word_inj {U : State} (h : Sta Z U) {i j : Nat} (hi : i < 15) (hj : j < 15) : some (zA Z 11 i) = some (zA Z 11 j) ↔ i = j := ⟨fun q => h.1.2 i j hi hj (Option.some.inj q), fun q => by rw [q]⟩
theorem wq_acmp_eq {off : Int} {i j : Nat} (tgt : Nat) (d : decode Y.2.1 pc = .ok (.if_acmp .eq off, 3)) (ht : (pc : Int) + off = (tgt : Int)) (hi : i < 15) (hj : j < 15) (k1 : i = j → WQ Z Y I0 gr tgt lv st I e1 κ) (k2 : ¬ i = j → WQ Z Y I0 gr (pc + 3) lv st I e2 κ) : WQ Z Y I0 gr pc lv (vr Z 11 j :: vr Z 11 i :: st) I (if i = j then e1 else e2) κ :=
  WQ.br (fun _ B _ _ _ ls _ _ _ _ h1 h2 => lv_acmp_eq (rx := some (zA Z 11 i)) (ry := some (zA Z 11 j)) B.1 B.2.1 d ht (fun q => h1 ((word_inj B.2.2.2.2.2.1.2 hi hj).mp q)) (fun q => h2 (fun r => q ((word_inj B.2.2.2.2.2.1.2 hi hj).mpr r)))) k1 k2
theorem wq_acmp_ne {off : Int} {i j : Nat} (tgt : Nat) (d : decode Y.2.1 pc = .ok (.if_acmp .ne off, 3)) (ht : (pc : Int) + off = (tgt : Int)) (hi : i < 15) (hj : j < 15) (k1 : i = j → WQ Z Y I0 gr (pc + 3) lv st I e1 κ) (k2 : ¬ i = j → WQ Z Y I0 gr tgt lv st I e2 κ) : WQ Z Y I0 gr pc lv (vr Z 11 j :: vr Z 11 i :: st) I (if i = j then e1 else e2) κ :=
  WQ.br (fun _ B _ _ _ ls _ _ _ _ h1 h2 => lv_acmp_ne (rx := some (zA Z 11 i)) (ry := some (zA Z 11 j)) B.1 B.2.1 d ht (fun q => h2 (fun r => q ((word_inj B.2.2.2.2.2.1.2 hi hj).mpr r))) (fun q => h1 ((word_inj B.2.2.2.2.2.1.2 hi hj).mp q))) k1 k2
theorem wq_ifnull {off x : Int} {kk : Nat} (tgt : Nat) (d : decode Y.2.1 pc = .ok (.ifnull off, 3)) (ht : (pc : Int) + off = (tgt : Int)) (k1 : x < 0 → WQ Z Y I0 gr tgt lv st I e1 κ) (k2 : ¬ x < 0 → WQ Z Y I0 gr (pc + 3) lv st I e2 κ) : WQ Z Y I0 gr pc lv (vrn Z kk x :: st) I (if x < 0 then e1 else e2) κ :=
  WQ.br (fun _ B _ _ _ ls _ _ _ _ h1 h2 => by
    unfold vrn
    by_cases hx : x < 0
    · rw [if_pos hx]; exact lv_ifnullN B.1 B.2.1 d ht (h1 hx)
    · rw [if_neg hx]; exact lv_ifnull B.1 B.2.1 d (h2 hx)) k1 k2
theorem WQ.nn {x : Int} {kk : Nat} (hx : 0 ≤ x) (k : WQ Z Y I0 gr pc lv (vr Z kk x.toNat :: st) I e κ) : WQ Z Y I0 gr pc lv (vrn Z kk x :: st) I e κ := by
  unfold vrn; rw [if_neg (by omega)]; exact k
/-! Math -/
def imx (x y : Int) : Int := if w32 x < w32 y then y else x
def imn (x y : Int) : Int := if w32 y < w32 x then y else x
def iab (x : Int) : Int := if w32 x < 0 then 0 - x else x
theorem lhs_sum {rest : List Value} {h : Nat} (hw : (rest.map fun v => v.category).sum ≤ 8) (hh : 1 ≤ h) : (rest.map fun v => v.category).sum + 13 ≤ 35 * h := by omega
theorem wq_max {x y : Int} {index : Nat} (hh : 1 ≤ Y.2.2.2.2) (hw : (st.map fun v => v.category).sum ≤ 8) (hln : Cond.methodLink Y.1.cls index Lib.Math.max.name ∈ lw_good) (hst : Cond.static Lib.Math.max.name ∈ lw_good) (hin : Cond.initialized "java/lang/Math" ∈ lw_good) (hco : Cond.code Lib.Math.max.name Lib.Math.max.code 2 (some .int) ∈ lw_good) (d : decode Y.2.1 pc = .ok (.invokestatic index, 3)) (k : WQ Z Y I0 gr (pc + 3) lv (vi (imx x y) :: st) I e κ) : WQ Z Y I0 gr pc lv (vi y :: vi x :: st) I e κ := by
  intro o ho
  have k := k o ho
  refine ⟨k.1, fun X B hc H locs ls hH hlo hl => ?_⟩
  have hw1 := fun w (hw : w ∈ lw_good) => B.2.2.2.2.1 w hw
  have hle : dC I0 I ≤ dC I0 o.2 ∧ dS I0 I ≤ dS I0 o.2 := by
    unfold dC dS; obtain ⟨q1, q2⟩ := k.1; constructor <;> omega
  refine va_mmax B.1 B.2.1 (B.2.2.1.trans hl.1.symm) B.2.2.2.1 (hw1 _ hln) (hw1 _ hst) (hw1 _ hin) (hw1 _ hco) hh (lhs_sum hw hh) hle.1 hle.2 d ?_
  have h := k.2 X B hc H locs ls hH hlo hl
  have e1 : (if Int32.ofInt x < Int32.ofInt y then Int32.ofInt y else Int32.ofInt x) = Int32.ofInt (imx x y) := by
    unfold imx; by_cases q : w32 x < w32 y
    · rw [if_pos q, if_pos ((w_lt x y).mpr q)]
    · rw [if_neg q, if_neg (fun r => q ((w_lt x y).mp r))]
  rw [e1]; exact h
theorem wq_min {x y : Int} {index : Nat} (hh : 1 ≤ Y.2.2.2.2) (hw : (st.map fun v => v.category).sum ≤ 8) (hln : Cond.methodLink Y.1.cls index Lib.Math.min.name ∈ lw_good) (hst : Cond.static Lib.Math.min.name ∈ lw_good) (hin : Cond.initialized "java/lang/Math" ∈ lw_good) (hco : Cond.code Lib.Math.min.name Lib.Math.min.code 2 (some .int) ∈ lw_good) (d : decode Y.2.1 pc = .ok (.invokestatic index, 3)) (k : WQ Z Y I0 gr (pc + 3) lv (vi (imn x y) :: st) I e κ) : WQ Z Y I0 gr pc lv (vi y :: vi x :: st) I e κ := by
  intro o ho
  have k := k o ho
  refine ⟨k.1, fun X B hc H locs ls hH hlo hl => ?_⟩
  have hw1 := fun w (hw : w ∈ lw_good) => B.2.2.2.2.1 w hw
  have hle : dC I0 I ≤ dC I0 o.2 ∧ dS I0 I ≤ dS I0 o.2 := by
    unfold dC dS; obtain ⟨q1, q2⟩ := k.1; constructor <;> omega
  refine va_mmin B.1 B.2.1 (B.2.2.1.trans hl.1.symm) B.2.2.2.1 (hw1 _ hln) (hw1 _ hst) (hw1 _ hin) (hw1 _ hco) hh (lhs_sum hw hh) hle.1 hle.2 d ?_
  have h := k.2 X B hc H locs ls hH hlo hl
  have e1 : (if Int32.ofInt y < Int32.ofInt x then Int32.ofInt y else Int32.ofInt x) = Int32.ofInt (imn x y) := by
    unfold imn; by_cases q : w32 y < w32 x
    · rw [if_pos q, if_pos ((w_lt y x).mpr q)]
    · rw [if_neg q, if_neg (fun r => q ((w_lt y x).mp r))]
  rw [e1]; exact h
theorem wq_abs {x : Int} {index : Nat} (hh : 1 ≤ Y.2.2.2.2) (hw : (st.map fun v => v.category).sum ≤ 8) (hln : Cond.methodLink Y.1.cls index Lib.Math.abs.name ∈ lw_good) (hst : Cond.static Lib.Math.abs.name ∈ lw_good) (hin : Cond.initialized "java/lang/Math" ∈ lw_good) (hco : Cond.code Lib.Math.abs.name Lib.Math.abs.code 1 (some .int) ∈ lw_good) (d : decode Y.2.1 pc = .ok (.invokestatic index, 3)) (k : WQ Z Y I0 gr (pc + 3) lv (vi (iab x) :: st) I e κ) : WQ Z Y I0 gr pc lv (vi x :: st) I e κ := by
  intro o ho
  have k := k o ho
  refine ⟨k.1, fun X B hc H locs ls hH hlo hl => ?_⟩
  have hw1 := fun w (hw : w ∈ lw_good) => B.2.2.2.2.1 w hw
  have hle : dC I0 I ≤ dC I0 o.2 ∧ dS I0 I ≤ dS I0 o.2 := by
    unfold dC dS; obtain ⟨q1, q2⟩ := k.1; constructor <;> omega
  refine va_mabs B.1 B.2.1 (B.2.2.1.trans hl.1.symm) B.2.2.2.1 (hw1 _ hln) (hw1 _ hst) (hw1 _ hin) (hw1 _ hco) hh (lhs_sum hw hh) hle.1 hle.2 d ?_
  have h := k.2 X B hc H locs ls hH hlo hl
  have e1 : (if 0 ≤ Int32.ofInt x then Int32.ofInt x else 0 - Int32.ofInt x) = Int32.ofInt (iab x) := by
    have h0 : (0 : Int32) = Int32.ofInt 0 := rfl
    unfold iab; by_cases q : w32 x < 0
    · rw [if_pos q, if_neg (fun r => (w_le 0 x).mp (by rw [← h0]; exact r) (by rw [w_0]; exact q)), h0, i_sub]
    · rw [if_neg q, if_pos (by rw [h0]; exact (w_le 0 x).mpr (by rw [w_0]; exact q))]
  rw [e1]; exact h
/-! an object of the heap, for a call on it; calls of methods that only answer -/
def Ob (Z : ZT) (gr : Nat → Nat) (I : Mem) (a : Nat) (C : String) : Prop := ∃ (k i ci N : Nat) (T : u_T) (fs : List Value), ent Z gr I k i = .inr (ci, fs) ∧ i < ksz k ∧ adG Z gr k i = a ∧ cls[ci]? = some (C, T, N)
theorem wq_cV {β : Type} {rv : β → Option Value} {f : Option (β × Mem)} {K : β → Mem → Option (α × Mem)} {y' : MethodName} {cc' : ByteArray} {maxL' h' index n a : Nat} {ret' : Option FieldType} {As rest : List Value} (hM : MwV y' cc' maxL' ret' n) (hr : ∀ (r : β) (J : Mem), f = some (r, J) → Runs Z y' cc' maxL' ret' h' (.ref a :: As) I (rv r, J))
    (hO : Ob Z gr I a y'.cls) (hn : As.length = n) (hst : st = As.reverse ++ .ref a :: rest) (hh : h' < Y.2.2.2.2) (hm : maxL' ≤ 16) (hw : (rest.map fun v => v.category).sum ≤ 8)
    (hlink : Cond.methodLink Y.1.cls index y' ∈ lw_good) (d : decode Y.2.1 pc = .ok (.invokevirtual index, 3))
    (kk : ∀ (gr' : Nat → Nat) (r : β) (J : Mem), WQ Z Y I0 gr' (pc + 3) lv ((rv r).toList ++ rest) J (K r J) κ) : WQ Z Y I0 gr pc lv st I (bnd f K) κ := by
  obtain ⟨k, i, ci, N, T, fs, h1, h2, h3, h4⟩ := hO
  exact wq_callV hM hr h1 h2 h3 h4 hn hst hh hm hw hlink d kk
theorem wq_cVi {f : Option (Int × Mem)} {K : Int → Mem → Option (α × Mem)} {y' : MethodName} {cc' : ByteArray} {maxL' h' index n a : Nat} {ret' : Option FieldType} {As rest : List Value} (hM : MwV y' cc' maxL' ret' n) (hr : ∀ (r : Int) (J : Mem), f = some (r, J) → Runs Z y' cc' maxL' ret' h' (.ref a :: As) I (some (vi r), J))
    (hO : Ob Z gr I a y'.cls) (hn : As.length = n) (hst : st = As.reverse ++ .ref a :: rest) (hh : h' < Y.2.2.2.2) (hm : maxL' ≤ 16) (hw : (rest.map fun v => v.category).sum ≤ 8)
    (hlink : Cond.methodLink Y.1.cls index y' ∈ lw_good) (d : decode Y.2.1 pc = .ok (.invokevirtual index, 3))
    (kk : ∀ (gr' : Nat → Nat) (r : Int) (J : Mem), WQ Z Y I0 gr' (pc + 3) lv (vi r :: rest) J (K r J) κ) : WQ Z Y I0 gr pc lv st I (bnd f K) κ := wq_cV (rv := fun r => some (vi r)) hM hr hO hn hst hh hm hw hlink d kk
theorem wq_cVr {f : Option (Nat × Mem)} {K : Nat → Mem → Option (α × Mem)} {y' : MethodName} {cc' : ByteArray} {maxL' h' index n a : Nat} {ret' : Option FieldType} {As rest : List Value} (q : Nat) (hM : MwV y' cc' maxL' ret' n) (hr : ∀ (r : Nat) (J : Mem), f = some (r, J) → Runs Z y' cc' maxL' ret' h' (.ref a :: As) I (some (vr Z q r), J))
    (hO : Ob Z gr I a y'.cls) (hn : As.length = n) (hst : st = As.reverse ++ .ref a :: rest) (hh : h' < Y.2.2.2.2) (hm : maxL' ≤ 16) (hw : (rest.map fun v => v.category).sum ≤ 8)
    (hlink : Cond.methodLink Y.1.cls index y' ∈ lw_good) (d : decode Y.2.1 pc = .ok (.invokevirtual index, 3))
    (kk : ∀ (gr' : Nat → Nat) (r : Nat) (J : Mem), WQ Z Y I0 gr' (pc + 3) lv (vr Z q r :: rest) J (K r J) κ) : WQ Z Y I0 gr pc lv st I (bnd f K) κ := wq_cV (rv := fun r => some (vr Z q r)) hM hr hO hn hst hh hm hw hlink d kk
theorem wq_cVv {f : Option (Unit × Mem)} {K : Unit → Mem → Option (α × Mem)} {y' : MethodName} {cc' : ByteArray} {maxL' h' index n a : Nat} {ret' : Option FieldType} {As rest : List Value} (hM : MwV y' cc' maxL' ret' n) (hr : ∀ (r : Unit) (J : Mem), f = some (r, J) → Runs Z y' cc' maxL' ret' h' (.ref a :: As) I (none, J))
    (hO : Ob Z gr I a y'.cls) (hn : As.length = n) (hst : st = As.reverse ++ .ref a :: rest) (hh : h' < Y.2.2.2.2) (hm : maxL' ≤ 16) (hw : (rest.map fun v => v.category).sum ≤ 8)
    (hlink : Cond.methodLink Y.1.cls index y' ∈ lw_good) (d : decode Y.2.1 pc = .ok (.invokevirtual index, 3))
    (kk : ∀ (gr' : Nat → Nat) (r : Unit) (J : Mem), WQ Z Y I0 gr' (pc + 3) lv rest J (K r J) κ) : WQ Z Y I0 gr pc lv st I (bnd f K) κ := wq_cV (rv := fun _ => none) hM hr hO hn hst hh hm hw hlink d kk
theorem wq_pV {v : Value} {y' : MethodName} {cc' : ByteArray} {maxL' h' index n a : Nat} {ret' : Option FieldType} {As rest : List Value} (hM : MwV y' cc' maxL' ret' n) (hr : Runs Z y' cc' maxL' ret' h' (.ref a :: As) I (some v, I))
    (hO : Ob Z gr I a y'.cls) (hn : As.length = n) (hst : st = As.reverse ++ .ref a :: rest) (hh : h' < Y.2.2.2.2) (hm : maxL' ≤ 16) (hw : (rest.map fun v => v.category).sum ≤ 8)
    (hlink : Cond.methodLink Y.1.cls index y' ∈ lw_good) (d : decode Y.2.1 pc = .ok (.invokevirtual index, 3))
    (kk : ∀ gr' : Nat → Nat, WQ Z Y I0 gr' (pc + 3) lv (v :: rest) I e κ) : WQ Z Y I0 gr pc lv st I e κ := by
  intro o ho
  obtain ⟨k, i, ci, N, T, fs, h1, h2, h3, h4⟩ := hO
  exact WP.callV hr h1 h2 h3 h4 hn hst hh hm hw hM.1 hlink hM.2.1 hM.2.2.1 hM.2.2.2.1 hM.2.2.2.2 d (fun gr' => kk gr' o ho)
theorem wq_cSi {f : Option (Int × Mem)} {K : Int → Mem → Option (α × Mem)} {y' : MethodName} {cc' : ByteArray} {maxL' h' index n : Nat} {ret' : Option FieldType} {As rest : List Value} (hM : MwS y' cc' maxL' ret' n) (hr : ∀ (r : Int) (J : Mem), f = some (r, J) → Runs Z y' cc' maxL' ret' h' As I (some (vi r), J))
    (hcl : y'.cls = Y.1.cls) (hn : As.length = n) (hst : st = As.reverse ++ rest) (hh : h' < Y.2.2.2.2) (hm : maxL' ≤ 16) (hw : (rest.map fun v => v.category).sum ≤ 8)
    (hlink : Cond.methodLink Y.1.cls index y' ∈ lw_good) (d : decode Y.2.1 pc = .ok (.invokestatic index, 3))
    (kk : ∀ (gr' : Nat → Nat) (r : Int) (J : Mem), WQ Z Y I0 gr' (pc + 3) lv (vi r :: rest) J (K r J) κ) : WQ Z Y I0 gr pc lv st I (bnd f K) κ := wq_callS (rv := fun r => some (vi r)) hM hr hcl hn hst hh hm hw hlink d kk
theorem wq_cSv {f : Option (Unit × Mem)} {K : Unit → Mem → Option (α × Mem)} {y' : MethodName} {cc' : ByteArray} {maxL' h' index n : Nat} {ret' : Option FieldType} {As rest : List Value} (hM : MwS y' cc' maxL' ret' n) (hr : ∀ (r : Unit) (J : Mem), f = some (r, J) → Runs Z y' cc' maxL' ret' h' As I (none, J))
    (hcl : y'.cls = Y.1.cls) (hn : As.length = n) (hst : st = As.reverse ++ rest) (hh : h' < Y.2.2.2.2) (hm : maxL' ≤ 16) (hw : (rest.map fun v => v.category).sum ≤ 8)
    (hlink : Cond.methodLink Y.1.cls index y' ∈ lw_good) (d : decode Y.2.1 pc = .ok (.invokestatic index, 3))
    (kk : ∀ (gr' : Nat → Nat) (r : Unit) (J : Mem), WQ Z Y I0 gr' (pc + 3) lv rest J (K r J) κ) : WQ Z Y I0 gr pc lv st I (bnd f K) κ := wq_callS (rv := fun _ => none) hM hr hcl hn hst hh hm hw hlink d kk
theorem wq_cNi {f : Option (Int × Mem)} {K : Int → Mem → Option (α × Mem)} {y' : MethodName} {cc' : ByteArray} {maxL' h' index n : Nat} {host : String} {ret' : Option FieldType} {As rest : List Value} (hM : MwS y' cc' maxL' ret' n) (hr : ∀ (r : Int) (J : Mem), f = some (r, J) → Runs Z y' cc' maxL' ret' h' As I (some (vi r), J))
    (hn : As.length = n) (hst : st = As.reverse ++ rest) (hh : h' < Y.2.2.2.2) (hm : maxL' ≤ 16) (hw : (rest.map fun v => v.category).sum ≤ 8)
    (hlink : Cond.methodLinkNest Y.1.cls index y' host ∈ lw_nw) (d : decode Y.2.1 pc = .ok (.invokestatic index, 3))
    (kk : ∀ (gr' : Nat → Nat) (r : Int) (J : Mem), WQ Z Y I0 gr' (pc + 3) lv (vi r :: rest) J (K r J) κ) : WQ Z Y I0 gr pc lv st I (bnd f K) κ := wq_callSN (rv := fun r => some (vi r)) hM hr hn hst hh hm hw hlink d kk
theorem wq_pS {v : Value} {y' : MethodName} {cc' : ByteArray} {maxL' h' index n : Nat} {ret' : Option FieldType} {As rest : List Value} (hM : MwS y' cc' maxL' ret' n) (hr : Runs Z y' cc' maxL' ret' h' As I (some v, I))
    (hcl : y'.cls = Y.1.cls) (hn : As.length = n) (hst : st = As.reverse ++ rest) (hh : h' < Y.2.2.2.2) (hm : maxL' ≤ 16) (hw : (rest.map fun v => v.category).sum ≤ 8)
    (hlink : Cond.methodLink Y.1.cls index y' ∈ lw_good) (d : decode Y.2.1 pc = .ok (.invokestatic index, 3))
    (kk : ∀ gr' : Nat → Nat, WQ Z Y I0 gr' (pc + 3) lv (v :: rest) I e κ) : WQ Z Y I0 gr pc lv st I e κ := by
  intro o ho
  exact WP.callS hr hn hst hh hm hw hM.1 hlink hM.2.1 (by rw [← hcl]; exact hM.2.2.1) ⟨hcl, hM.2.2.2⟩ d (fun gr' => kk gr' o ho)
end PRIMS
end
