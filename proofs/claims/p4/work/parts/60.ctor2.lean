/-! ===== the two constructors, whole ===== -/
section E13
variable {Z : ZT} {B : Nat} {E : Nat → va_E}
theorem E13_0 : E_RX13 Z B E 0 = .inr (11, [.ref (B + 1), .ref (B + 2), .ref (B + 3), .ref (B + 4), .ref (B + 5), .ref (B + 6), vi 0, vi 0, .ref (B + 7), .ref (B + 8), vi 0, .ref (B + 9), .ref (B + 10), .ref (B + 11), .ref (B + 12), .ref (B + 13), .ref (B + 14), .ref (B + 15), vi 0, .ref (B + 16), vi 0, vi 0, vi 0, vi 0, vi 0, vi 0, vi 0, vi (-1), vi 0, vi 0, vi 0, vi 0, .ref (B + 17), .ref (B + 18), .ref (B + 19), .ref (B + 20), .ref (B + 21), .ref (B + 22), vi 0, vi 0, vi 0, .ref (B + 23), .ref (B + 24), vi 0]) := by
  unfold E_RX13
  repeat (first | rw [uE_ne (by omega)] | rw [uE_eq (by omega)])
theorem E13_1 : E_RX13 Z B E 1 = arI (zC Z 0) 16860 (fun _ => 0) := by
  unfold E_RX13
  repeat (first | rw [uE_ne (by omega)] | rw [uE_eq (by omega)])
theorem E13_2 : E_RX13 Z B E 2 = arI (zC Z 0) 16860 (fun _ => 0) := by
  unfold E_RX13
  repeat (first | rw [uE_ne (by omega)] | rw [uE_eq (by omega)])
theorem E13_3 : E_RX13 Z B E 3 = arI (zC Z 0) 16860 (fun _ => 0) := by
  unfold E_RX13
  repeat (first | rw [uE_ne (by omega)] | rw [uE_eq (by omega)])
theorem E13_4 : E_RX13 Z B E 4 = arI (zC Z 0) 134880 (fun _ => 0) := by
  unfold E_RX13
  repeat (first | rw [uE_ne (by omega)] | rw [uE_eq (by omega)])
theorem E13_5 : E_RX13 Z B E 5 = arI (zC Z 0) 33720 (fun _ => 0) := by
  unfold E_RX13
  repeat (first | rw [uE_ne (by omega)] | rw [uE_eq (by omega)])
theorem E13_6 : E_RX13 Z B E 6 = arI (zC Z 1) 2 (fun _ => 0) := by
  unfold E_RX13
  repeat (first | rw [uE_ne (by omega)] | rw [uE_eq (by omega)])
theorem E13_7 : E_RX13 Z B E 7 = arI (zC Z 0) 66 (fun _ => 0) := by
  unfold E_RX13
  repeat (first | rw [uE_ne (by omega)] | rw [uE_eq (by omega)])
theorem E13_8 : E_RX13 Z B E 8 = arI (zC Z 0) 66 (fun _ => 0) := by
  unfold E_RX13
  repeat (first | rw [uE_ne (by omega)] | rw [uE_eq (by omega)])
theorem E13_9 : E_RX13 Z B E 9 = arI (zC Z 0) 401 (fun _ => 0) := by
  unfold E_RX13
  repeat (first | rw [uE_ne (by omega)] | rw [uE_eq (by omega)])
theorem E13_10 : E_RX13 Z B E 10 = arI (zC Z 0) 401 (fun _ => 0) := by
  unfold E_RX13
  repeat (first | rw [uE_ne (by omega)] | rw [uE_eq (by omega)])
theorem E13_11 : E_RX13 Z B E 11 = arI (zC Z 0) 42 (fun _ => 0) := by
  unfold E_RX13
  repeat (first | rw [uE_ne (by omega)] | rw [uE_eq (by omega)])
theorem E13_12 : E_RX13 Z B E 12 = arI (zC Z 0) 42 (fun _ => 0) := by
  unfold E_RX13
  repeat (first | rw [uE_ne (by omega)] | rw [uE_eq (by omega)])
theorem E13_13 : E_RX13 Z B E 13 = arI (zC Z 0) 4356 (fun _ => 0) := by
  unfold E_RX13
  repeat (first | rw [uE_ne (by omega)] | rw [uE_eq (by omega)])
theorem E13_14 : E_RX13 Z B E 14 = arI (zC Z 0) 4356 (fun _ => 0) := by
  unfold E_RX13
  repeat (first | rw [uE_ne (by omega)] | rw [uE_eq (by omega)])
theorem E13_15 : E_RX13 Z B E 15 = arI (zC Z 0) 4356 (fun _ => 0) := by
  unfold E_RX13
  repeat (first | rw [uE_ne (by omega)] | rw [uE_eq (by omega)])
theorem E13_16 : E_RX13 Z B E 16 = arI (zC Z 0) 600 (fun _ => 0) := by
  unfold E_RX13
  repeat (first | rw [uE_ne (by omega)] | rw [uE_eq (by omega)])
theorem E13_17 : E_RX13 Z B E 17 = arI (zC Z 0) 64 (fun _ => 0) := by
  unfold E_RX13
  repeat (first | rw [uE_ne (by omega)] | rw [uE_eq (by omega)])
theorem E13_18 : E_RX13 Z B E 18 = arI (zC Z 0) 64 (fun _ => 0) := by
  unfold E_RX13
  repeat (first | rw [uE_ne (by omega)] | rw [uE_eq (by omega)])
theorem E13_19 : E_RX13 Z B E 19 = arI (zC Z 0) 64 (fun _ => 0) := by
  unfold E_RX13
  repeat (first | rw [uE_ne (by omega)] | rw [uE_eq (by omega)])
theorem E13_20 : E_RX13 Z B E 20 = arI (zC Z 0) 64 (fun _ => 0) := by
  unfold E_RX13
  repeat (first | rw [uE_ne (by omega)] | rw [uE_eq (by omega)])
theorem E13_21 : E_RX13 Z B E 21 = arI (zC Z 0) 2 (fun _ => 0) := by
  unfold E_RX13
  repeat (first | rw [uE_ne (by omega)] | rw [uE_eq (by omega)])
theorem E13_22 : E_RX13 Z B E 22 = arI (zC Z 0) 2 (fun _ => 0) := by
  unfold E_RX13
  repeat (first | rw [uE_ne (by omega)] | rw [uE_eq (by omega)])
theorem E13_23 : E_RX13 Z B E 23 = arI (zC Z 0) 66 (fun _ => 0) := by
  unfold E_RX13
  repeat (first | rw [uE_ne (by omega)] | rw [uE_eq (by omega)])
theorem E13_24 : E_RX13 Z B E 24 = arI (zC Z 0) 70000 (fun _ => 0) := by
  unfold E_RX13
  repeat (first | rw [uE_ne (by omega)] | rw [uE_eq (by omega)])
end E13
set_option maxRecDepth 20000 in
set_option maxHeartbeats 4000000 in
theorem C_RX12 (Z : ZT) (hA : AtF Z) {JA : Mem} (hJ : f_G_becomeLetterA 0 FR0 = some ((), JA)) : RunsC Z yX12_init cX12_init 1 4 [.ref (zB Z + 0)] (1111 + dC FR0 JA) (21377 + dS FR0 JA) (fun H => ∃ E : Nat → va_E, E 0 = .inr (0, [.null, .null, .null, .null, .null, .null, .null, .null, .null, vi 0]) ∧ CHp (zD Z) (zB Z) (zH Z) 1 E H) (HH_a Z JA) := by
  refine RunsC.of (by decide +kernel) rfl (Nat.le_of_ble_eq_true rfl) ?_
  intro p l e s m args below meth c ls hfl b hH hr hlk hnm hl
  have hl : lv_has ls 1 [(0, .ref (zB Z + 0))] := hl
  have b : BB p s m args c RX12 cX12_init 1 Z := b
  obtain ⟨E, hE, hH⟩ := hH
  refine W_RX12 Z (zB Z) (zH Z) E hfl (Nat.le_refl _) ⟨rfl, rfl⟩ (by omega) (by omega) b hH hE hnm hl (fun H locs hH hlo => ?_)
  have hF := fresh hA hH
  refine lv_aload_n b.1 b.2.1 dX12_init_120 rfl (lv_at hl 0 rfl) ?_
  refine ch_get (k := 0) (j := 0) b hH (by omega) E12_0 rfl in_0 (by decide) rfl rfl (li_2 100 (by decide +kernel) (by decide +kernel)) dX12_init_121 ?_
  have e1 : (.ref (zB Z + 1) : Value) = vr Z 1 0 := by
    unfold vr
    rw [hA 1 0 (by decide) (by decide) (by decide)]
    rfl
  rw [e1]
  have R := R_G_becomeLetterA_a Z 0 FR0 () JA hJ
  refine lx_callV_a (n := 0) (As := []) (rest := []) b hfl hl.1 ⟨_, hF⟩ R ⟨(li_2 77 (by decide +kernel) (by decide +kernel)), (li_2 75 (by decide +kernel) (by decide +kernel)), (li_2 76 (by decide +kernel) (by decide +kernel)), (li_1 2 (by decide +kernel) (by decide +kernel)), by decide +kernel⟩ (fun gr => ob_1_a (by decide)) rfl rfl ⟨Nat.le_of_ble_eq_true rfl, Nat.le_of_ble_eq_true rfl⟩ (Nat.le_of_ble_eq_true rfl) ⟨Nat.le_refl _, Nat.le_refl _⟩ (li_2 74 (by decide +kernel) (by decide +kernel)) hlo dX12_init_124 (fun H1 locs1 hH1 hlo1 => ?_)
  exact ch_ret b hr hlk hlo1 hH1 (Nat.le_refl _) (Nat.le_refl _) dX12_init_127
def mp (k i : Nat) : Nat := if k = 26 then 0 else if k = 28 then 6 else if i < 5 then 1 + i else 2 + i
def AtM (Z : ZT) (B : Nat) : Prop := ∀ k i : Nat, 26 ≤ k → i < ksz_b k → zA Z k i = B + mp k i
theorem kb_lt {k i : Nat} (h : i < ksz_b k) : k < 29 := by
  rcases Nat.lt_or_ge k 29 with q | q
  · exact q
  · exfalso
    unfold ksz_b at h
    split at h <;> first | omega | (rw [if_neg (by omega)] at h; omega)
theorem ka_b {k i : Nat} (hk : k < 26) (h : i < ksz_b k) : i < ksz_a k := by
  match k, hk, h with
  | 0, _, h | 1, _, h | 2, _, h | 3, _, h | 4, _, h | 5, _, h | 6, _, h | 7, _, h | 8, _, h | 9, _, h | 10, _, h | 11, _, h | 12, _, h | 13, _, h | 14, _, h | 15, _, h | 16, _, h | 17, _, h | 18, _, h | 19, _, h | 20, _, h | 21, _, h | 22, _, h | 23, _, h | 24, _, h | 25, _, h => exact h
  | k + 26, hk, _ => exact absurd hk (by omega)
theorem mp_lt {k i : Nat} (hk : 26 ≤ k) (h : i < ksz_b k) : mp k i < 25 := by
  have h2 := kb_lt h
  rcases (show k = 26 ∨ k = 27 ∨ k = 28 by omega) with rfl | rfl | rfl
  · unfold mp
    rw [if_pos rfl]
    decide
  · have h : i < 23 := h
    unfold mp
    rw [if_neg (by decide), if_neg (by decide)]
    split <;> omega
  · unfold mp
    rw [if_neg (by decide), if_pos rfl]
    decide
theorem mp_inj {k i k' i' : Nat} (hk : 26 ≤ k) (h : i < ksz_b k) (hk' : 26 ≤ k') (h' : i' < ksz_b k') (e : mp k i = mp k' i') : k = k' ∧ i = i' := by
  have h2 := kb_lt h
  have h2' := kb_lt h'
  have z : ∀ {k i : Nat}, 26 ≤ k → k < 29 → i < ksz_b k → (k = 26 ∧ i = 0 ∧ mp k i = 0) ∨ (k = 28 ∧ i = 0 ∧ mp k i = 6) ∨ (k = 27 ∧ ((i < 5 ∧ mp k i = 1 + i) ∨ (5 ≤ i ∧ mp k i = 2 + i))) := by
    intro k i a b h
    rcases (show k = 26 ∨ k = 27 ∨ k = 28 by omega) with rfl | rfl | rfl
    · have h : i < 1 := h
      exact Or.inl ⟨rfl, by omega, rfl⟩
    · right; right
      refine ⟨rfl, ?_⟩
      unfold mp
      rw [if_neg (by decide), if_neg (by decide)]
      by_cases q : i < 5
      · rw [if_pos q]; exact Or.inl ⟨q, rfl⟩
      · rw [if_neg q]; exact Or.inr ⟨by omega, rfl⟩
    · have h : i < 1 := h
      exact Or.inr (Or.inl ⟨rfl, by omega, rfl⟩)
  have z1 := z hk h2 h
  have z2 := z hk' h2' h'
  omega
theorem ad26 {Z : ZT} {gr : Nat → Nat} {k i : Nat} (hk : 26 ≤ k) : adG Z gr k i = zA Z k i := by
  unfold adG
  rw [if_neg (by omega), if_neg (by omega)]
set_option maxRecDepth 100000 in
set_option maxHeartbeats 4000000 in
theorem fresh2 {Z : ZT} {E : Nat → va_E} {JA : Mem} {H1 H : Heap} {gr : Nat → Nat} (h1 : HHA_a Z gr JA H1) (hM : AtM Z H1.size) (hF : ∀ k i s : Nat, 26 ≤ k → k < 29 → JA k i s = FR0 k i s) (hH : CHp (zD Z) H1.size H1 25 (E_RX13 Z H1.size E) H) : HHA_b Z gr JA H := by
  obtain ⟨⟨a1, a2, a3⟩, a4, a5, a6⟩ := h1
  obtain ⟨c1, c2, c3, c4⟩ := hH
  have lt26 : ∀ k i : Nat, k < 26 → i < ksz_b k → adG Z gr k i < H1.size := fun k i hk hi => (a6 k i (ka_b hk hi)).lt
  refine ⟨⟨a1, by omega, fun q hq => (c3 q (by omega)).trans (a3 q hq)⟩, fun k i k' i' hi hi' he => ?_, fun k i hi => ?_, fun k i hi => ?_⟩
  · rcases Nat.lt_or_ge k 26 with q | q
    · rcases Nat.lt_or_ge k' 26 with q' | q'
      · exact a4 k i k' i' (ka_b q hi) (ka_b q' hi') he
      · have := lt26 k i q hi
        rw [he, ad26 q', hM k' i' q' hi'] at this
        omega
    · rcases Nat.lt_or_ge k' 26 with q' | q'
      · have := lt26 k' i' q' hi'
        rw [← he, ad26 q, hM k i q hi] at this
        omega
      · rw [ad26 q, ad26 q', hM k i q hi, hM k' i' q' hi'] at he
        exact mp_inj q hi q' hi' (by omega)
  · rcases Nat.lt_or_ge k 26 with q | q
    · exact a5 k i (ka_b q hi)
    · rw [ad26 q, hM k i q hi]; omega
  · rcases Nat.lt_or_ge k 26 with q | q
    · exact (a6 k i (ka_b q hi)).kept (c3 _ (lt26 k i q hi))
    · have h29 := kb_lt hi
      have hz := c4 (mp k i) (mp_lt q hi)
      rw [ad26 q, hM k i q hi]
      have ha : ∀ i : Nat, i < 23 → zA Z 27 i = H1.size + mp 27 i := fun i hi => hM 27 i (by decide) hi
      rcases (show k = 26 ∨ k = 27 ∨ k = 28 by omega) with rfl | rfl | rfl
      · obtain rfl : i = 0 := by have hi : i < 1 := hi; omega
        have hz : va_at (zD Z) cls (H1.size + 0, E_RX13 Z H1.size E 0) H := hz
        rw [E13_0] at hz
        show va_at (zD Z) cls (H1.size + 0, ent Z gr JA 26 0) H
        unfold ent
        simp only [vr]
        rw [ha 0 (by decide), ha 1 (by decide), ha 2 (by decide), ha 3 (by decide), ha 4 (by decide), ha 5 (by decide), ha 6 (by decide), ha 7 (by decide), ha 8 (by decide), ha 9 (by decide), ha 10 (by decide), ha 11 (by decide), ha 12 (by decide), ha 13 (by decide), ha 14 (by decide), ha 15 (by decide), ha 16 (by decide), ha 17 (by decide), ha 18 (by decide), ha 19 (by decide), ha 20 (by decide), ha 21 (by decide), ha 22 (by decide), hM 28 0 (by decide) (by decide)]
        simp only [hF 26 _ _ (by decide) (by decide)]
        exact hz
      · have hi : i < 23 := hi
        have hz' : va_at (zD Z) cls (H1.size + mp 27 i, arI (zC Z 0) (mLen i) (fun _ => 0)) H := by
          rcases (show i = 0 ∨ i = 1 ∨ i = 2 ∨ i = 3 ∨ i = 4 ∨ i = 5 ∨ i = 6 ∨ i = 7 ∨ i = 8 ∨ i = 9 ∨ i = 10 ∨ i = 11 ∨ i = 12 ∨ i = 13 ∨ i = 14 ∨ i = 15 ∨ i = 16 ∨ i = 17 ∨ i = 18 ∨ i = 19 ∨ i = 20 ∨ i = 21 ∨ i = 22 by omega) with rfl | rfl | rfl | rfl | rfl | rfl | rfl | rfl | rfl | rfl | rfl | rfl | rfl | rfl | rfl | rfl | rfl | rfl | rfl | rfl | rfl | rfl | rfl
          · have hz : va_at (zD Z) cls (H1.size + 1, E_RX13 Z H1.size E 1) H := hz
            rw [E13_1] at hz
            exact hz
          · have hz : va_at (zD Z) cls (H1.size + 2, E_RX13 Z H1.size E 2) H := hz
            rw [E13_2] at hz
            exact hz
          · have hz : va_at (zD Z) cls (H1.size + 3, E_RX13 Z H1.size E 3) H := hz
            rw [E13_3] at hz
            exact hz
          · have hz : va_at (zD Z) cls (H1.size + 4, E_RX13 Z H1.size E 4) H := hz
            rw [E13_4] at hz
            exact hz
          · have hz : va_at (zD Z) cls (H1.size + 5, E_RX13 Z H1.size E 5) H := hz
            rw [E13_5] at hz
            exact hz
          · have hz : va_at (zD Z) cls (H1.size + 7, E_RX13 Z H1.size E 7) H := hz
            rw [E13_7] at hz
            exact hz
          · have hz : va_at (zD Z) cls (H1.size + 8, E_RX13 Z H1.size E 8) H := hz
            rw [E13_8] at hz
            exact hz
          · have hz : va_at (zD Z) cls (H1.size + 9, E_RX13 Z H1.size E 9) H := hz
            rw [E13_9] at hz
            exact hz
          · have hz : va_at (zD Z) cls (H1.size + 10, E_RX13 Z H1.size E 10) H := hz
            rw [E13_10] at hz
            exact hz
          · have hz : va_at (zD Z) cls (H1.size + 11, E_RX13 Z H1.size E 11) H := hz
            rw [E13_11] at hz
            exact hz
          · have hz : va_at (zD Z) cls (H1.size + 12, E_RX13 Z H1.size E 12) H := hz
            rw [E13_12] at hz
            exact hz
          · have hz : va_at (zD Z) cls (H1.size + 13, E_RX13 Z H1.size E 13) H := hz
            rw [E13_13] at hz
            exact hz
          · have hz : va_at (zD Z) cls (H1.size + 14, E_RX13 Z H1.size E 14) H := hz
            rw [E13_14] at hz
            exact hz
          · have hz : va_at (zD Z) cls (H1.size + 15, E_RX13 Z H1.size E 15) H := hz
            rw [E13_15] at hz
            exact hz
          · have hz : va_at (zD Z) cls (H1.size + 16, E_RX13 Z H1.size E 16) H := hz
            rw [E13_16] at hz
            exact hz
          · have hz : va_at (zD Z) cls (H1.size + 17, E_RX13 Z H1.size E 17) H := hz
            rw [E13_17] at hz
            exact hz
          · have hz : va_at (zD Z) cls (H1.size + 18, E_RX13 Z H1.size E 18) H := hz
            rw [E13_18] at hz
            exact hz
          · have hz : va_at (zD Z) cls (H1.size + 19, E_RX13 Z H1.size E 19) H := hz
            rw [E13_19] at hz
            exact hz
          · have hz : va_at (zD Z) cls (H1.size + 20, E_RX13 Z H1.size E 20) H := hz
            rw [E13_20] at hz
            exact hz
          · have hz : va_at (zD Z) cls (H1.size + 21, E_RX13 Z H1.size E 21) H := hz
            rw [E13_21] at hz
            exact hz
          · have hz : va_at (zD Z) cls (H1.size + 22, E_RX13 Z H1.size E 22) H := hz
            rw [E13_22] at hz
            exact hz
          · have hz : va_at (zD Z) cls (H1.size + 23, E_RX13 Z H1.size E 23) H := hz
            rw [E13_23] at hz
            exact hz
          · have hz : va_at (zD Z) cls (H1.size + 24, E_RX13 Z H1.size E 24) H := hz
            rw [E13_24] at hz
            exact hz
        exact va_ints hz' (fun q => (hF 27 i q (by decide) (by decide)).symm)
      · obtain rfl : i = 0 := by have hi : i < 1 := hi; omega
        have hz : va_at (zD Z) cls (H1.size + 6, E_RX13 Z H1.size E 6) H := hz
        rw [E13_6] at hz
        show va_at (zD Z) cls (H1.size + 6, arI (zC Z 1) 2 (JA 28 0)) H
        have e : JA 28 0 = fun _ => 0 := funext fun s => hF 28 0 s (by decide) (by decide)
        rw [e]
        exact hz
theorem va_atE {D : va_G} {a : Nat} {x y : va_E} {H : Heap} (h : va_at D cls (a, x) H) (e : x = y) : va_at D cls (a, y) H := e ▸ h
set_option maxRecDepth 20000 in
set_option maxHeartbeats 4000000 in
theorem C_RX13 (Z : ZT) {B1 : Nat} (hB : zB Z ≤ B1) (hM : AtM Z B1) {JA J1 J2 J3 : Mem} (hF : ∀ k i s : Nat, 26 ≤ k → k < 29 → JA k i s = FR0 k i s) (h1 : f_M_begins JA = some ((), J1)) (h2 : f_M_adds 0 0 J1 = some ((), J2)) (h3 : f_M_tellsText J2 = some ((), J3)) : RunsC Z yX13_init cX13_init 1 6 [.ref (B1 + 0)] (24 + dC JA J3) (304194 + dS JA J3) (fun H => ∃ (E : Nat → va_E) (H1 : Heap), H1.size = B1 ∧ HH_a Z JA H1 ∧ E 0 = .inr (11, [.null, .null, .null, .null, .null, .null, vi 0, vi 0, .null, .null, vi 0, .null, .null, .null, .null, .null, .null, .null, vi 0, .null, vi 0, vi 0, vi 0, vi 0, vi 0, vi 0, vi 0, vi 0, vi 0, vi 0, vi 0, vi 0, .null, .null, .null, .null, .null, .null, vi 0, vi 0, vi 0, .null, .null, vi 0]) ∧ CHp (zD Z) B1 H1 1 E H) (HH_b Z J3) := by
  refine RunsC.of (by decide +kernel) rfl (Nat.le_of_ble_eq_true rfl) ?_
  intro p l e s m args below meth c ls hfl b hH hr hlk hnm hl
  have hl : lv_has ls 1 [(0, .ref (B1 + 0))] := hl
  have b : BB p s m args c RX13 cX13_init 1 Z := b
  obtain ⟨E, H1, rfl, ⟨gr, hA⟩, hE, hH⟩ := hH
  refine W_RX13 Z H1.size H1 E hfl hB (by omega) (by omega) b hH hE hnm hl (fun H locs hH hlo => ?_)
  have hG : HH_b Z JA H := ⟨gr, fresh2 hA hM hF hH⟩
  have e1 : (.ref (H1.size + 0) : Value) = vr Z 26 0 := by
    unfold vr
    rw [hM 26 0 (by decide) (by decide)]
    rfl
  rw [e1] at hl
  have R1 := R_M_begins_b Z JA () J1 h1
  have R2 := R_M_adds_b Z 0 0 J1 () J2 h2
  have R3 := R_M_tellsText_b Z J2 () J3 h3
  have q1 : dC JA J1 + dC J1 J2 = dC JA J2 ∧ dS JA J1 + dS J1 J2 = dS JA J2 := dC_add R1.1 R2.1
  have q2 : dC JA J2 + dC J2 J3 = dC JA J3 ∧ dS JA J2 + dS J2 J3 = dS JA J3 := dC_add (R1.1.trans R2.1) R3.1
  refine lv_aload_n b.1 b.2.1 dX13_init_207 rfl (lv_at hl 0 rfl) ?_
  refine lx_callV_b (n := 0) (As := []) (rest := []) b hfl hl.1 hG R1 ⟨(li_7 18 (by decide +kernel) (by decide +kernel)), (li_7 17 (by decide +kernel) (by decide +kernel)), (lw_in 47 (by decide +kernel) (by decide +kernel)), (li_1 16 (by decide +kernel) (by decide +kernel)), by decide +kernel⟩ (fun gr => ob_26_b) rfl rfl ⟨Nat.le_of_ble_eq_true rfl, Nat.le_of_ble_eq_true rfl⟩ (Nat.le_of_ble_eq_true rfl) ⟨show 24 + dC JA J1 ≤ 24 + dC JA J3 by omega, show 304194 + dS JA J1 ≤ 304194 + dS JA J3 by omega⟩ (li_7 15 (by decide +kernel) (by decide +kernel)) hlo dX13_init_208 (fun H locs hG hlo => ?_)
  refine lv_aload_n b.1 b.2.1 dX13_init_211 rfl (lv_at hl 0 rfl) ?_
  refine lv_iconst (v := Int32.ofInt 0) b.1 b.2.1 dX13_init_212 rfl ?_
  refine lv_iconst (v := Int32.ofInt 0) b.1 b.2.1 dX13_init_213 rfl ?_
  refine lx_callV_b (n := 2) (As := [vi 0, vi 0]) (rest := []) b hfl hl.1 hG R2 ⟨(li_7 22 (by decide +kernel) (by decide +kernel)), (li_7 21 (by decide +kernel) (by decide +kernel)), (lw_in 48 (by decide +kernel) (by decide +kernel)), (li_1 16 (by decide +kernel) (by decide +kernel)), by decide +kernel⟩ (fun gr => ob_26_b) rfl rfl ⟨Nat.le_of_ble_eq_true rfl, Nat.le_of_ble_eq_true rfl⟩ (Nat.le_of_ble_eq_true rfl) ⟨show 24 + dC JA J1 + dC J1 J2 ≤ 24 + dC JA J3 by omega, show 304194 + dS JA J1 + dS J1 J2 ≤ 304194 + dS JA J3 by omega⟩ (li_7 19 (by decide +kernel) (by decide +kernel)) hlo dX13_init_214 (fun H locs hG hlo => ?_)
  refine lv_aload_n b.1 b.2.1 dX13_init_217 rfl (lv_at hl 0 rfl) ?_
  refine lx_callV_b (n := 0) (As := []) (rest := []) b hfl hl.1 hG R3 ⟨(li_7 34 (by decide +kernel) (by decide +kernel)), (li_7 33 (by decide +kernel) (by decide +kernel)), (lw_in 51 (by decide +kernel) (by decide +kernel)), (li_1 16 (by decide +kernel) (by decide +kernel)), by decide +kernel⟩ (fun gr => ob_26_b) rfl rfl ⟨Nat.le_of_ble_eq_true rfl, Nat.le_of_ble_eq_true rfl⟩ (Nat.le_of_ble_eq_true rfl) ⟨show 24 + dC JA J1 + dC J1 J2 + dC J2 J3 ≤ 24 + dC JA J3 by omega, show 304194 + dS JA J1 + dS J1 J2 + dS J2 J3 ≤ 304194 + dS JA J3 by omega⟩ (li_7 31 (by decide +kernel) (by decide +kernel)) hlo dX13_init_218 (fun H locs hG hlo => ?_)
  exact ch_ret b hr hlk hlo hG (show 24 + dC JA J1 + dC J1 J2 + dC J2 J3 ≤ 24 + dC JA J3 by omega) (show 304194 + dS JA J1 + dS J1 J2 + dS J2 J3 ≤ 304194 + dS JA J3 by omega) dX13_init_221
