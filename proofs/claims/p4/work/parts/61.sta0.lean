/-! ===== the static things at the entry ===== -/
abbrev nfl : List Cond := flatC (Jvm.Cond.and given_1 narrow_1)
section STA0
variable {args : Array Value} {s : State}
theorem nfk (h : (Jvm.Cond.and given_1 narrow_1).before args s = true) (k : Nat) {c : Cond} (hc : nfl[k]? = some c) : c.before args s = true := flat_of_before _ h c (List.mem_of_getElem? hc)
theorem tbk (h : ∀ w ∈ lw_tbl, w.before args s = true) (k : Nat) {c : Cond} (hc : lw_tbl[k]? = some c) : c.before args s = true := h c (List.mem_of_getElem? hc)
theorem va_eqw {t u : Term} {v : Value} (h : (Cond.eq t u).before args s = true) (ht : t.eval args s none [] s = some v) : u.eval args s none [] s = some v := by
  cases hu : u.eval args s none [] s with
  | none => simp [Cond.before, Cond.holds, Cond.value, hu, ht] at h
  | some w => rw [← ht]; exact (va_eqv h hu).symm
theorem all15 {Q : Nat → Prop} (h0 : Q 0) (h1 : Q 1) (h2 : Q 2) (h3 : Q 3) (h4 : Q 4) (h5 : Q 5) (h6 : Q 6) (h7 : Q 7) (h8 : Q 8) (h9 : Q 9) (h10 : Q 10) (h11 : Q 11) (h12 : Q 12) (h13 : Q 13) (h14 : Q 14) : ∀ i : Nat, i < 15 → Q i := by
  intro i hi
  rcases (show i = 0 ∨ i = 1 ∨ i = 2 ∨ i = 3 ∨ i = 4 ∨ i = 5 ∨ i = 6 ∨ i = 7 ∨ i = 8 ∨ i = 9 ∨ i = 10 ∨ i = 11 ∨ i = 12 ∨ i = 13 ∨ i = 14 by omega) with rfl | rfl | rfl | rfl | rfl | rfl | rfl | rfl | rfl | rfl | rfl | rfl | rfl | rfl | rfl
  · exact h0
  · exact h1
  · exact h2
  · exact h3
  · exact h4
  · exact h5
  · exact h6
  · exact h7
  · exact h8
  · exact h9
  · exact h10
  · exact h11
  · exact h12
  · exact h13
  · exact h14
set_option maxRecDepth 100000 in
theorem en_lays : ∀ i, i < 15 → lw_tbl[([617, 688, 706, 702, 704, 2325, 2326, 2327, 835, 2328, 2329, 2330, 868, 814, 376] : List Nat).getD i 0]? = some (Cond.laysStatic RX11 (wNames.getD i "") "LPairRules$Word;") := by decide +kernel
set_option maxRecDepth 100000 in
theorem en_ex : ∀ i, i < 15 → nfl[([35, 42, 69, 50, 59, 139, 154, 170, 110, 187, 205, 224, 123, 98, 4] : List Nat).getD i 0]? = some (Cond.exactly (.static RX11 (wNames.getD i "") "LPairRules$Word;") RX11) := by decide +kernel
set_option maxRecDepth 100000 in
theorem en_f0 : ∀ i, i < 15 → nfl[([36, 43, 70, 51, 60, 140, 155, 171, 111, 188, 206, 225, 124, 99, 5] : List Nat).getD i 0]? = some (Cond.eq (.field (.static RX11 (wNames.getD i "") "LPairRules$Word;") "java/lang/Enum" "ordinal" "I") (.int (([0, 1, 2, 3, 4, 5, 6, 7, 8, 9, 10, 11, 12, 13, 14] : List Int32).getD i 0))) := by decide +kernel
set_option maxRecDepth 100000 in
theorem en_f1 : ∀ i, i < 15 → nfl[([38, 45, 72, 53, 62, 142, 157, 173, 113, 190, 208, 227, 126, 101, 7] : List Nat).getD i 0]? = some (Cond.eq (.field (.static RX11 (wNames.getD i "") "LPairRules$Word;") RX11 "orders" "Z") (.int (([0, 0, 0, 1, 1, 1, 1, 1, 1, 1, 1, 1, 1, 0, 0] : List Int32).getD i 0))) := by decide +kernel
set_option maxRecDepth 100000 in
theorem en_f2 : ∀ i, i < 15 → nfl[([39, 46, 73, 54, 63, 143, 158, 174, 114, 191, 209, 228, 127, 102, 8] : List Nat).getD i 0]? = some (Cond.eq (.field (.static RX11 (wNames.getD i "") "LPairRules$Word;") RX11 "lowest" "I") (.int (([0, 0, 0, 2, 0, 0, 1, 0, 0, 0, 0, 1, 0, 0, 0] : List Int32).getD i 0))) := by decide +kernel
set_option maxRecDepth 100000 in
theorem en_f3 : ∀ i, i < 15 → nfl[([40, 47, 74, 55, 64, 144, 159, 175, 115, 192, 210, 229, 128, 103, 9] : List Nat).getD i 0]? = some (Cond.eq (.field (.static RX11 (wNames.getD i "") "LPairRules$Word;") RX11 "highest" "I") (.int (([39, 0, 1, 9, 2, 1, 50, 0, 0, 39, 0, 400, 20, 0, 0] : List Int32).getD i 0))) := by decide +kernel
set_option maxRecDepth 100000 in
theorem en_d : ∀ i, i < 15 → ∀ j, j < 15 → i ≠ j → nfl[(([[0, 49, 76, 57, 66, 146, 161, 177, 117, 194, 212, 231, 130, 105, 0], [0, 0, 77, 58, 67, 147, 162, 178, 118, 195, 213, 232, 131, 106, 0], [0, 0, 0, 0, 0, 150, 165, 181, 121, 198, 216, 235, 134, 109, 0], [0, 0, 78, 0, 68, 148, 163, 179, 119, 196, 214, 233, 132, 107, 0], [0, 0, 79, 0, 0, 149, 164, 180, 120, 197, 215, 234, 133, 108, 0], [0, 0, 0, 0, 0, 0, 169, 185, 0, 202, 220, 239, 0, 0, 0], [0, 0, 0, 0, 0, 0, 0, 186, 0, 203, 221, 240, 0, 0, 0], [0, 0, 0, 0, 0, 0, 0, 0, 0, 204, 222, 241, 0, 0, 0], [0, 0, 0, 0, 0, 152, 167, 183, 0, 200, 218, 237, 136, 0, 0], [0, 0, 0, 0, 0, 0, 0, 0, 0, 0, 223, 242, 0, 0, 0], [0, 0, 0, 0, 0, 0, 0, 0, 0, 0, 0, 243, 0, 0, 0], [0, 0, 0, 0, 0, 0, 0, 0, 0, 0, 0, 0, 0, 0, 0], [0, 0, 0, 0, 0, 153, 168, 184, 0, 201, 219, 238, 0, 0, 0], [0, 0, 0, 0, 0, 151, 166, 182, 122, 199, 217, 236, 135, 0, 0], [41, 48, 75, 56, 65, 145, 160, 176, 116, 193, 211, 230, 129, 104, 0]] : List (List Nat)).getD i []).getD j 0]? = some (Cond.not (.eq (.static RX11 (wNames.getD i "") "LPairRules$Word;") (.static RX11 (wNames.getD j "") "LPairRules$Word;"))) ∨ nfl[(([[0, 49, 76, 57, 66, 146, 161, 177, 117, 194, 212, 231, 130, 105, 0], [0, 0, 77, 58, 67, 147, 162, 178, 118, 195, 213, 232, 131, 106, 0], [0, 0, 0, 0, 0, 150, 165, 181, 121, 198, 216, 235, 134, 109, 0], [0, 0, 78, 0, 68, 148, 163, 179, 119, 196, 214, 233, 132, 107, 0], [0, 0, 79, 0, 0, 149, 164, 180, 120, 197, 215, 234, 133, 108, 0], [0, 0, 0, 0, 0, 0, 169, 185, 0, 202, 220, 239, 0, 0, 0], [0, 0, 0, 0, 0, 0, 0, 186, 0, 203, 221, 240, 0, 0, 0], [0, 0, 0, 0, 0, 0, 0, 0, 0, 204, 222, 241, 0, 0, 0], [0, 0, 0, 0, 0, 152, 167, 183, 0, 200, 218, 237, 136, 0, 0], [0, 0, 0, 0, 0, 0, 0, 0, 0, 0, 223, 242, 0, 0, 0], [0, 0, 0, 0, 0, 0, 0, 0, 0, 0, 0, 243, 0, 0, 0], [0, 0, 0, 0, 0, 0, 0, 0, 0, 0, 0, 0, 0, 0, 0], [0, 0, 0, 0, 0, 153, 168, 184, 0, 201, 219, 238, 0, 0, 0], [0, 0, 0, 0, 0, 151, 166, 182, 122, 199, 217, 236, 135, 0, 0], [41, 48, 75, 56, 65, 145, 160, 176, 116, 193, 211, 230, 129, 104, 0]] : List (List Nat)).getD j []).getD i 0]? = some (Cond.not (.eq (.static RX11 (wNames.getD j "") "LPairRules$Word;") (.static RX11 (wNames.getD i "") "LPairRules$Word;"))) := by decide +kernel
def wTm : List (String × Nat) := [("PairRulesModel", 316), ("PairRulesModel", 321), ("PairRulesModel", 296), ("PairRulesModel", 288), ("PairRulesModel", 294), ("PairRulesModel", 357), ("PairRulesModel", 345), ("PairRulesModel", 347), ("PairRulesModel", 349), ("PairRulesModel", 351), ("PairRulesModel", 353), ("PairRulesModel", 355), ("PairRulesModel", 359), ("PairRules$Word", 128), ("PairRules$Word", 131)]
abbrev tmS (i : Nat) : Term := .string (wTm.getD i ("", 0)).1 (wTm.getD i ("", 0)).2
set_option maxRecDepth 100000 in
theorem st_ex : ∀ i, i < 15 → nfl[([340, 348, 373, 357, 366, 437, 383, 391, 402, 410, 420, 430, 445, 506, 454] : List Nat).getD i 0]? = some (Cond.exactly (tmS i) "java/lang/String") := by decide +kernel
set_option maxRecDepth 100000 in
theorem st_co : ∀ i, i < 15 → nfl[([341, 349, 374, 358, 367, 438, 384, 392, 403, 411, 421, 431, 446, 507, 455] : List Nat).getD i 0]? = some (Cond.eq (.field (tmS i) "java/lang/String" "coder" "B") (.int 0)) := by decide +kernel
set_option maxRecDepth 100000 in
theorem st_ar : ∀ i, i < 15 → nfl[([342, 350, 375, 359, 368, 439, 385, 393, 404, 412, 422, 432, 447, 508, 456] : List Nat).getD i 0]? = some (Cond.arrayOf (.field (tmS i) "java/lang/String" "value" "[B") .byte) := by decide +kernel
set_option maxRecDepth 100000 in
theorem st_le : ∀ i, i < 15 → nfl[([343, 351, 376, 360, 369, 440, 386, 394, 405, 413, 423, 433, 448, 509, 457] : List Nat).getD i 0]? = some (Cond.eq (.length (.field (tmS i) "java/lang/String" "value" "[B")) (.int (Int32.ofNat ((wText.map List.length).getD i 0)))) := by decide +kernel
set_option maxRecDepth 100000 in
theorem st_el : ∀ i, i < 15 → ∀ j, j < (wText.map List.length).getD i 0 → nfl[(([[344, 345, 346, 347], [352, 353, 354, 355, 356], [377, 378, 379, 380, 381, 382], [361, 362, 363, 364, 365], [370, 371, 372], [441, 442, 443, 444], [387, 388, 389, 390], [395, 396, 397, 398, 399, 400, 401], [406, 407, 408, 409], [414, 415, 416, 417, 418, 419], [424, 425, 426, 427, 428, 429], [434, 435, 436], [449, 450, 451, 452, 453], [510], []] : List (List Nat)).getD i []).getD j 0]? = some (Cond.eq (.elem (.field (tmS i) "java/lang/String" "value" "[B") (.int (Int32.ofNat j))) (.int (((wText.map (fun l => l.map Int32.ofInt)).getD i []).getD j 0))) := by decide +kernel
def wTw : List Nat := [86, 92, 95, 98, 101, 104, 107, 110, 113, 116, 119, 122, 125, 128, 131]
set_option maxRecDepth 100000 in
theorem st_tx : ∀ i, i < 15 → nfl[([37, 44, 71, 52, 61, 141, 156, 172, 112, 189, 207, 226, 125, 100, 6] : List Nat).getD i 0]? = some (Cond.eq (.field (.static RX11 (wNames.getD i "") "LPairRules$Word;") RX11 "text" "Ljava/lang/String;") (.string RX11 (wTw.getD i 0))) := by decide +kernel
set_option maxRecDepth 100000 in
theorem st_eq : ∀ i, i < 13 → nfl[([466, 476, 505, 486, 494, 538, 547, 559, 519, 570, 581, 589, 529] : List Nat).getD i 0]? = some (Cond.eq (tmS i) (.string RX11 (wTw.getD i 0))) := by decide +kernel
set_option maxRecDepth 100000 in
theorem st_rf : ∀ q ∈ wLdc, q.2.2 < 13 ∧ (wTm.getD q.2.2 ("", 0)) = (RX13, q.1) := by decide +kernel
set_option maxRecDepth 100000 in
theorem st_sr : ∀ i, i < 13 → lw_tbl[([1810, 1858, 1865, 1863, 1864, 1914, 1908, 1909, 1910, 1911, 1912, 1913, 1915] : List Nat).getD i 0]? = some (Cond.stringRef RX13 (wTm.getD i ("", 0)).2 ((["rule", "start", "inline", "least", "tie", "mode", "step", "inlined", "make", "expand", "append", "cut", "again"] : List String).getD i "")) := by decide +kernel
set_option maxRecDepth 100000 in
theorem st_rn : ∀ q ∈ wLdc, q.2.1 = (["rule", "start", "inline", "least", "tie", "mode", "step", "inlined", "make", "expand", "append", "cut", "again"] : List String).getD q.2.2 "" := by decide +kernel
set_option maxRecDepth 100000 in
theorem st_ne : ∀ i, i < 15 → ∀ j, j < 15 → i ≠ j → (wText.map List.length).getD i 0 ≠ (wText.map List.length).getD j 0 ∨ ∃ k, k < (wText.map List.length).getD i 0 ∧ ((wText.map (fun l => l.map Int32.ofInt)).getD i []).getD k 0 ≠ ((wText.map (fun l => l.map Int32.ofInt)).getD j []).getD k 0 := by decide +kernel
set_option maxRecDepth 100000 in
theorem aw_el : ∀ j, j < 15 → nfl[([15, 16, 17, 18, 19, 20, 21, 22, 23, 24, 25, 26, 27, 28, 29] : List Nat).getD j 0]? = some (Cond.eq (.elem (.static RX8 "WORDS" "[LPairRules$Word;") (.int (Int32.ofNat j))) (.static RX11 (wNames.getD j "") "LPairRules$Word;")) := by decide +kernel
set_option maxRecDepth 100000 in
theorem as_el : ∀ j, j < 15 → nfl[([83, 84, 85, 86, 87, 88, 89, 90, 91, 92, 93, 94, 95, 96, 97] : List Nat).getD j 0]? = some (Cond.eq (.elem (.static RX0 "$SwitchMap$PairRules$Word" "[I") (.int (Int32.ofNat j))) (.int (Int32.ofInt (wSm.getD j 0)))) := by decide +kernel
set_option maxRecDepth 100000 in
theorem wn_ix : ∀ q ∈ wNot, ∃ k, k < 600 ∧ nfl[k]? = some (Cond.not (.castable q.1 q.2)) := by
  intro q hq
  simp only [wNot, List.mem_cons, List.mem_nil_iff, or_false] at hq
  rcases hq with rfl | rfl | rfl | rfl | rfl | rfl
  · exact ⟨257, by decide, by decide +kernel⟩
  · exact ⟨258, by decide, by decide +kernel⟩
  · exact ⟨272, by decide, by decide +kernel⟩
  · exact ⟨273, by decide, by decide +kernel⟩
  · exact ⟨287, by decide, by decide +kernel⟩
  · exact ⟨288, by decide, by decide +kernel⟩
/-- the strings: each by itself, then apart by what they hold -/
theorem st_all {A : Nat → Prop} (h : (Jvm.Cond.and given_1 narrow_1).before args s = true) (hA : ∀ a : Nat, a < s.heap.size → ¬ A a) : ∃ adK adV : Nat → Nat, vk_S 15 (wText.map List.length) (wText.map (fun l => l.map Int32.ofInt)) adK adV A s s.heap ∧ ∀ i : Nat, i < 15 → (tmS i).eval args s none [] s = some (.ref (adK i)) := by
  have one : ∀ i : Nat, i < 15 → ∃ q : Nat × Nat, (tmS i).eval args s none [] s = some (.ref q.1) ∧ va_O "java/lang/String" q.1 A s s.heap ∧ va_OF "java/lang/String" "coder" "B" (.int 0) q.1 A s s.heap ∧ va_OF "java/lang/String" "value" "[B" (.ref q.2) q.1 A s s.heap ∧ va_T .byte q.2 ((wText.map List.length).getD i 0) (fun j => .int (((wText.map (fun l => l.map Int32.ofInt)).getD i []).getD j 0)) A s s.heap := by
    intro i hi
    obtain ⟨aK, aV, hS, hev⟩ := vk_Sof (N := 1) (tm := fun _ => tmS i) (len := [(wText.map List.length).getD i 0]) (byt := [(wText.map (fun l => l.map Int32.ofInt)).getD i []]) (A := A)
      (fun k hk => by
        obtain rfl : k = 0 := by omega
        exact (by decide +kernel : ∀ i, i < 15 → (wText.map List.length).getD i 0 < 2 ^ 31) i hi)
      (fun _ _ => nfk h _ (st_ex i hi)) (fun _ _ => nfk h _ (st_co i hi)) (fun _ _ => nfk h _ (st_ar i hi))
      (fun k hk => by
        obtain rfl : k = 0 := by omega
        exact nfk h _ (st_le i hi))
      (fun k hk j hj => by
        obtain rfl : k = 0 := by omega
        exact nfk h _ (st_el i hi j hj))
      (fun a b ha hb hab => absurd (by omega : a = b) hab) hA
    obtain ⟨h1, h2, h3, h4⟩ := hS.1 0 (by decide)
    exact ⟨(aK 0, aV 0), hev 0 (by decide), h1, h2, h3, h4⟩
  have hq : ∀ i : Nat, ∃ q : Nat × Nat, i < 15 → (tmS i).eval args s none [] s = some (.ref q.1) ∧ va_O "java/lang/String" q.1 A s s.heap ∧ va_OF "java/lang/String" "coder" "B" (.int 0) q.1 A s s.heap ∧ va_OF "java/lang/String" "value" "[B" (.ref q.2) q.1 A s s.heap ∧ va_T .byte q.2 ((wText.map List.length).getD i 0) (fun j => .int (((wText.map (fun l => l.map Int32.ofInt)).getD i []).getD j 0)) A s s.heap := by
    intro i
    by_cases hi : i < 15
    · obtain ⟨q, hq⟩ := one i hi
      exact ⟨q, fun _ => hq⟩
    · exact ⟨(0, 0), fun z => absurd z hi⟩
  refine ⟨fun i => (Classical.choose (hq i)).1, fun i => (Classical.choose (hq i)).2, ⟨fun i hi => (Classical.choose_spec (hq i) hi).2, fun i j hi hj he => ?_⟩, fun i hi => (Classical.choose_spec (hq i) hi).1⟩
  refine Classical.byContradiction fun hne => ?_
  obtain ⟨-, -, -, hv1, ht1⟩ := Classical.choose_spec (hq i) hi
  obtain ⟨-, -, -, hv2, ht2⟩ := Classical.choose_spec (hq j) hj
  have he : (Classical.choose (hq i)).1 = (Classical.choose (hq j)).1 := he
  rw [← he] at hv2
  have e2 : (Classical.choose (hq i)).2 = (Classical.choose (hq j)).2 := by
    obtain ⟨cf, k, fi, f, cell, a1, a2, a3, a4, a5, a6⟩ := hv1
    obtain ⟨cf', k', fi', f', cell', b1, b2, b3, b4, b5, b6⟩ := hv2
    have q1 := Option.some.inj (a1.symm.trans b1)
    simp only [Prod.mk.injEq] at q1
    obtain ⟨-, -, -, rfl⟩ := q1
    cases Option.some.inj (a3.symm.trans b3)
    exact Value.ref.inj (Option.some.inj (a5.symm.trans b5))
  rw [← e2] at ht2
  obtain ⟨cell, a1, a2, a3, a4, a5, a6, a7⟩ := ht1
  obtain ⟨cell', b1, b2, b3, b4, b5, b6, b7⟩ := ht2
  cases Option.some.inj (a1.symm.trans b1)
  have hlen : (wText.map List.length).getD i 0 = (wText.map List.length).getD j 0 := by
    have q := a5.symm.trans b5
    have z : ∀ i, i < 15 → ∀ j, j < 15 → Int32.ofNat ((wText.map List.length).getD i 0) = Int32.ofNat ((wText.map List.length).getD j 0) → (wText.map List.length).getD i 0 = (wText.map List.length).getD j 0 := by decide +kernel
    exact z i hi j hj q
  rcases st_ne i hi j hj hne with q | ⟨k, hk, q⟩
  · exact q hlen
  · have z1 := a6 k hk
    have z2 := b6 k (by rw [← hlen]; exact hk)
    have := Option.some.inj (z1.symm.trans z2)
    exact q (Value.int.inj this)
/-- all of it -/
theorem sta_start (hts : ∀ w ∈ lw_tbl, w.before args s = true) (h : (Jvm.Cond.and given_1 narrow_1).before args s = true) {Z0 : ZT} (hZ : zB Z0 = s.heap.size ∧ zH Z0 = s.heap) : ∃ a : Nat → Nat → Nat, ∀ Z : ZT, zB Z = zB Z0 → zH Z = zH Z0 → (∀ k i : Nat, k = 11 ∨ 32 ≤ k → zA Z k i = a k i) → Sta Z s := by
  have hA : ∀ a : Nat, a < s.heap.size → ¬ (fun q : Nat => s.heap.size ≤ q) a := fun a h1 h2 => Nat.not_le.mpr h1 h2
  obtain ⟨ad, hEn, hev⟩ := va_Enof2 (E := RX11) (d := "LPairRules$Word;") (nm := wNames) (F := wFld) (fun i hi => tbk hts _ (en_lays i hi)) (tbk hts 148 (by decide +kernel)) (fun i hi => nfk h _ (en_ex i hi)) (fun q hq i hi => by
    simp only [wFld, List.mem_cons, List.mem_nil_iff, or_false] at hq
    rcases hq with rfl | rfl | rfl | rfl
    · exact nfk h _ (en_f0 i hi)
    · exact nfk h _ (en_f1 i hi)
    · exact nfk h _ (en_f2 i hi)
    · exact nfk h _ (en_f3 i hi)) (fun i j hi hj hij => (en_d i hi j hj hij).imp (nfk h _) (nfk h _)) hA
  obtain ⟨aK, aV, hS, hSev⟩ := st_all h hA
  have hev' : ∀ i : Nat, i < 15 → (Term.string RX11 (wTw.getD i 0)).eval args s none [] s = some (.ref (aK i)) := by
    have z : ∀ i : Nat, i < 13 → (Term.string RX11 (wTw.getD i 0)).eval args s none [] s = some (.ref (aK i)) := fun i hi => by
      have q := nfk h _ (st_eq i hi)
      have e := hSev i (by omega)
      exact va_eqw q e
    intro i hi
    by_cases q : i < 13
    · exact z i q
    · rcases (show i = 13 ∨ i = 14 by omega) with rfl | rfl
      · exact hSev 13 hi
      · exact hSev 14 hi
  obtain ⟨tW, hW1, hW2⟩ := va_Tof (tm := .static RX8 "WORDS" "[LPairRules$Word;") (ty := .object RX11) (N := 15) (f := fun j => .ref (ad j)) (by decide) (nfk h 12 (by decide +kernel)) (va_eqv (u := .int 15) (nfk h 13 (by decide +kernel)) rfl) (fun j hj => va_eqv (nfk h _ (aw_el j hj)) (hev j hj)) hA
  obtain ⟨tM, hM1, hM2⟩ := va_Tof (tm := .static RX0 "$SwitchMap$PairRules$Word" "[I") (ty := .int) (N := 15) (f := fun j => .int (Int32.ofInt (wSm.getD j 0))) (by decide) (nfk h 81 (by decide +kernel)) (va_eqv (u := .int 15) (nfk h 82 (by decide +kernel)) rfl) (fun j hj => va_eqv (nfk h _ (as_el j hj)) rfl) hA
  have hWz := va_Zof (tbk hts 558 (by decide +kernel)) (tbk hts 144 (by decide +kernel)) hW1 hA
  have hMz := va_Zof (tbk hts 712 (by decide +kernel)) (tbk hts 158 (by decide +kernel)) hM1 hA
  have hC := va_Zof (v := .int 1) (tbk hts 572 (by decide +kernel) : (Cond.laysStatic "java/lang/String" "COMPACT_STRINGS" "Z").before args s = true) (tbk hts 154 (by decide +kernel)) (va_eqv (u := .int 1) (nfk h 30 (by decide +kernel)) rfl) hA
  have hP := va_Zqof (tbk hts 592 (by decide +kernel) : (Cond.laysStatic "jdk/internal/util/Preconditions" "SIOOBE_FORMATTER" "Ljava/util/function/BiFunction;").before args s = true) (tbk hts 156 (by decide +kernel)) (nfk h 31 (by decide +kernel)) hA
  have hU := vx_Zqof (tbk hts 1311 (by decide +kernel) : (Cond.laysStatic Bundle.tN "UNASSIGNED_STACK" Bundle.steD).before args s = true) (tbk hts 159 (by decide +kernel)) (nfk h 137 (by decide +kernel)) hA
  have hN := vx_Zqof (tbk hts 1313 (by decide +kernel) : (Cond.laysStatic Bundle.tN "SUPPRESSED_SENTINEL" Bundle.listD).before args s = true) (tbk hts 159 (by decide +kernel)) (nfk h 138 (by decide +kernel)) hA
  refine ⟨fun k i => if k = 11 then ad i else if k = 32 then tW else if k = 33 then tM else if k = 34 then aK i else aV i, fun Z e1 e2 e3 => ?_⟩
  have z11 : zA Z 11 = ad := funext fun i => e3 11 i (Or.inl rfl)
  have z32 : zA Z 32 0 = tW := e3 32 0 (by omega)
  have z33 : zA Z 33 0 = tM := e3 33 0 (by omega)
  have z34 : zA Z 34 = aK := funext fun i => e3 34 i (by omega)
  have z35 : zA Z 35 = aV := funext fun i => e3 35 i (by omega)
  have eN : zN Z = fun q : Nat => s.heap.size ≤ q := by
    show (fun q => zB Z ≤ q) = _
    rw [e1, hZ.1]
  unfold Sta
  rw [z11, z32, z33, z34, z35, eN, e2, hZ.2]
  refine ⟨hEn, ?_, hS, hWz, hW2, hMz, hM2, ⟨hC, ?_, hU, hN, fun q hq => ?_⟩, fun q hq => ?_, fun w hw => ?_⟩
  · exact va_Efof (tm := fun i => .string RX11 (wTw.getD i 0)) hev (fun i hi => nfk h _ (st_tx i hi)) hev' hA
  · rcases hP with q | ⟨t, q⟩
    · exact ⟨_, rfl, q⟩
    · exact ⟨_, rfl, q⟩
  · obtain ⟨k, -, hk⟩ := wn_ix q hq
    exact va_Nc.of (nfk h k hk)
  · obtain ⟨q1, q2⟩ := st_rf q hq
    have e := hSev q.2.2 (by omega)
    have r := tbk hts _ (st_sr q.2.2 q1)
    rw [← st_rn q hq] at r
    have e4 : tmS q.2.2 = Term.string RX13 q.1 := by
      show Term.string (wTm.getD q.2.2 ("", 0)).1 (wTm.getD q.2.2 ("", 0)).2 = _
      rw [q2]
    rw [e4] at e
    rw [q2] at r
    exact vk_R.of r e
  · obtain ⟨h1, h2⟩ := List.mem_filter.mp hw
    have h3 := hts w h1
    cases w <;> first | exact va_Nw.of rfl h3 | cases h2
end STA0
