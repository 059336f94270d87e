/-! ===== the constructors, by program ===== -/
def E_RX5 (Z : ZT) (B n j : Nat) (E : Nat → va_E) : Nat → va_E := uE (uE E (n) (arI (zC Z 0) 0 (fun _ => 0))) (j) (.inr (2, [.ref (B + (n)), vi 0]))
theorem E_RX5_old {Z : ZT} {B n j q : Nat} {E : Nat → va_E} (h1 : q ≠ j) (h2 : q < n) : E_RX5 Z B n j E q = E q := by
  unfold E_RX5
  simp only [uE_ne h1, uE]
  repeat (rw [if_neg (by omega)])
set_option maxRecDepth 20000 in
set_option maxHeartbeats 4000000 in
theorem C_RX5 (Z : ZT) (B : Nat) (H0 : Heap) (n j : Nat) (E : Nat → va_E) (hzB : zB Z ≤ B) (hj : j < n) (h_j : E j = .inr (2, [.null, vi 0])) : RunsC Z yX5_init cX5_init 1 1 [.ref (B + j)] 1 0 (CHp (zD Z) B H0 n E) (CHp (zD Z) B H0 (n + 1) (E_RX5 Z B n j E)) := by
  refine RunsC.of (by decide +kernel) rfl (Nat.le_of_ble_eq_true rfl) ?_
  intro p l e s m args below meth c ls hfl b hH hr hlk hnm hl
  have hl : lv_has ls 1 [(0, .ref (B + j))] := hl
  have b : BB p s m args c RX5 cX5_init 1 Z := b
  obtain ⟨H, eH⟩ : ∃ z, z = s.heap := ⟨_, rfl⟩
  rw [← eH] at hH ⊢
  have hlo : ∀ q ∈ ([] : List Loc), zN Z q.base := fun q hq => by cases hq
  refine lv_aload_n b.1 b.2.1 dX5_init_0 rfl (lv_at hl 0 rfl) ?_
  refine ch_obj b hl.1 (li_1 49 (by decide +kernel) (by decide +kernel)) (Nat.le_of_ble_eq_true rfl) (Nat.le_of_ble_eq_true rfl) dX5_init_1 ?_
  refine lv_aload_n b.1 b.2.1 dX5_init_4 rfl (lv_at hl 0 rfl) ?_
  refine lv_iconst (v := Int32.ofInt 0) b.1 b.2.1 dX5_init_5 rfl ?_
  refine ch_newa (atype := .int) (ty := .int) (cA := zC Z 0) (t0 := 0) (N' := 0) b hH (li_1 57 (by decide +kernel) (by decide +kernel)) rfl rfl (fun _ h => h) rfl (by decide) (Nat.le_of_ble_eq_true rfl) (show _ ≤ (1 : Nat) by omega) (show _ ≤ (0 : Nat) by omega) dX5_init_6 (fun H hH => ?_)
  obtain ⟨E1, e1, hH⟩ : ∃ z, z = uE E (n) (arI (zC Z 0) 0 (fun _ => 0)) ∧ CHp (zD Z) B H0 (n + 1) z H := ⟨_, rfl, hH⟩
  have h_j : E1 (j) = .inr (2, [.null, vi 0]) := by rw [e1]; exact (uE_ne (by omega)).trans h_j
  refine ch_putG (k := 0) (j := j) (ty0 := tyX5) (fin := false) b hH (by omega) h_j rfl in_2 tyX5_ok nmX5 (by decide) rfl (Nat.le_of_ble_eq_true rfl) rfl rfl hnm rfl hlo hzB (li_1 50 (by decide +kernel) (by decide +kernel)) dX5_init_8 (fun H locs hH hlo => ?_)
  obtain ⟨E2, e2, hH⟩ : ∃ z, z = uE E1 (j) (.inr (2, [.ref (B + (n)), vi 0])) ∧ CHp (zD Z) B H0 (n + 1) z H := ⟨_, rfl, hH⟩
  have h_j : E2 (j) = .inr (2, [.ref (B + (n)), vi 0]) := by rw [e2]; exact uE_self _ _ _
  refine ch_ret b hr hlk hlo ?_ (show _ ≤ (1 : Nat) by omega) (show _ ≤ (0 : Nat) by omega) dX5_init_11
  subst e1 e2
  exact hH
theorem E_RX5_self {Z : ZT} {B n j : Nat} {E : Nat → va_E} : E_RX5 Z B n j E j = .inr (2, [.ref (B + (n)), vi 0]) := uE_self _ _ _
def E_RX8 (Z : ZT) (B n j : Nat) (E : Nat → va_E) : Nat → va_E := uE (uE E (n) (arI (zC Z 0) 600 (fun _ => 0))) (j) (.inr (6, [.ref (B + (n)), vi 0, vi 0, vi 0, vi 0, vi 0, vi 0, vi 0]))
theorem E_RX8_old {Z : ZT} {B n j q : Nat} {E : Nat → va_E} (h1 : q ≠ j) (h2 : q < n) : E_RX8 Z B n j E q = E q := by
  unfold E_RX8
  simp only [uE_ne h1, uE]
  repeat (rw [if_neg (by omega)])
set_option maxRecDepth 20000 in
set_option maxHeartbeats 4000000 in
theorem C_RX8 (Z : ZT) (B : Nat) (H0 : Heap) (n j : Nat) (E : Nat → va_E) (hzB : zB Z ≤ B) (hj : j < n) (h_j : E j = .inr (6, [.null, vi 0, vi 0, vi 0, vi 0, vi 0, vi 0, vi 0])) : RunsC Z yX8_init cX8_init 1 1 [.ref (B + j)] 1 600 (CHp (zD Z) B H0 n E) (CHp (zD Z) B H0 (n + 1) (E_RX8 Z B n j E)) := by
  refine RunsC.of (by decide +kernel) rfl (Nat.le_of_ble_eq_true rfl) ?_
  intro p l e s m args below meth c ls hfl b hH hr hlk hnm hl
  have hl : lv_has ls 1 [(0, .ref (B + j))] := hl
  have b : BB p s m args c RX8 cX8_init 1 Z := b
  obtain ⟨H, eH⟩ : ∃ z, z = s.heap := ⟨_, rfl⟩
  rw [← eH] at hH ⊢
  have hlo : ∀ q ∈ ([] : List Loc), zN Z q.base := fun q hq => by cases hq
  refine lv_aload_n b.1 b.2.1 dX8_init_0 rfl (lv_at hl 0 rfl) ?_
  refine ch_obj b hl.1 (li_1 176 (by decide +kernel) (by decide +kernel)) (Nat.le_of_ble_eq_true rfl) (Nat.le_of_ble_eq_true rfl) dX8_init_1 ?_
  refine lv_aload_n b.1 b.2.1 dX8_init_4 rfl (lv_at hl 0 rfl) ?_
  refine lv_sipush (v := Int32.ofInt 600) b.1 b.2.1 dX8_init_5 (by decide) ?_
  refine ch_newa (atype := .int) (ty := .int) (cA := zC Z 0) (t0 := 0) (N' := 600) b hH (li_1 57 (by decide +kernel) (by decide +kernel)) rfl rfl (fun _ h => h) rfl (by decide) (Nat.le_of_ble_eq_true rfl) (show _ ≤ (1 : Nat) by omega) (show _ ≤ (600 : Nat) by omega) dX8_init_8 (fun H hH => ?_)
  obtain ⟨E1, e1, hH⟩ : ∃ z, z = uE E (n) (arI (zC Z 0) 600 (fun _ => 0)) ∧ CHp (zD Z) B H0 (n + 1) z H := ⟨_, rfl, hH⟩
  have h_j : E1 (j) = .inr (6, [.null, vi 0, vi 0, vi 0, vi 0, vi 0, vi 0, vi 0]) := by rw [e1]; exact (uE_ne (by omega)).trans h_j
  refine ch_putG (k := 0) (j := j) (ty0 := tyX8) (fin := true) b hH (by omega) h_j rfl in_6 tyX8_ok nmX8 (by decide) rfl (Nat.le_of_ble_eq_true rfl) rfl rfl hnm rfl hlo hzB (li_1 177 (by decide +kernel) (by decide +kernel)) dX8_init_10 (fun H locs hH hlo => ?_)
  obtain ⟨E2, e2, hH⟩ : ∃ z, z = uE E1 (j) (.inr (6, [.ref (B + (n)), vi 0, vi 0, vi 0, vi 0, vi 0, vi 0, vi 0])) ∧ CHp (zD Z) B H0 (n + 1) z H := ⟨_, rfl, hH⟩
  have h_j : E2 (j) = .inr (6, [.ref (B + (n)), vi 0, vi 0, vi 0, vi 0, vi 0, vi 0, vi 0]) := by rw [e2]; exact uE_self _ _ _
  refine ch_ret b hr hlk hlo ?_ (show _ ≤ (1 : Nat) by omega) (show _ ≤ (600 : Nat) by omega) dX8_init_13
  subst e1 e2
  exact hH
def E_RX4 (Z : ZT) (B n j : Nat) (E : Nat → va_E) : Nat → va_E := uE (uE E (n) (arI (zC Z 2) 64 (fun _ => 0))) (j) (.inr (10, [.ref (B + (n)), vi 0]))
theorem E_RX4_old {Z : ZT} {B n j q : Nat} {E : Nat → va_E} (h1 : q ≠ j) (h2 : q < n) : E_RX4 Z B n j E q = E q := by
  unfold E_RX4
  simp only [uE_ne h1, uE]
  repeat (rw [if_neg (by omega)])
set_option maxRecDepth 20000 in
set_option maxHeartbeats 4000000 in
theorem C_RX4 (Z : ZT) (B : Nat) (H0 : Heap) (n j : Nat) (E : Nat → va_E) (hzB : zB Z ≤ B) (hj : j < n) (h_j : E j = .inr (10, [.null, vi 0])) : RunsC Z yX4_init cX4_init 1 1 [.ref (B + j)] 1 64 (CHp (zD Z) B H0 n E) (CHp (zD Z) B H0 (n + 1) (E_RX4 Z B n j E)) := by
  refine RunsC.of (by decide +kernel) rfl (Nat.le_of_ble_eq_true rfl) ?_
  intro p l e s m args below meth c ls hfl b hH hr hlk hnm hl
  have hl : lv_has ls 1 [(0, .ref (B + j))] := hl
  have b : BB p s m args c RX4 cX4_init 1 Z := b
  obtain ⟨H, eH⟩ : ∃ z, z = s.heap := ⟨_, rfl⟩
  rw [← eH] at hH ⊢
  have hlo : ∀ q ∈ ([] : List Loc), zN Z q.base := fun q hq => by cases hq
  refine lv_aload_n b.1 b.2.1 dX4_init_0 rfl (lv_at hl 0 rfl) ?_
  refine ch_obj b hl.1 (li_2 65 (by decide +kernel) (by decide +kernel)) (Nat.le_of_ble_eq_true rfl) (Nat.le_of_ble_eq_true rfl) dX4_init_1 ?_
  refine lv_aload_n b.1 b.2.1 dX4_init_4 rfl (lv_at hl 0 rfl) ?_
  refine lv_bipush (v := Int32.ofInt 64) b.1 b.2.1 dX4_init_5 (by decide) ?_
  refine ch_newa (atype := .byte) (ty := .byte) (cA := zC Z 2) (t0 := 2) (N' := 64) b hH (li_2 73 (by decide +kernel) (by decide +kernel)) rfl rfl (fun _ h => h) rfl (by decide) (Nat.le_of_ble_eq_true rfl) (show _ ≤ (1 : Nat) by omega) (show _ ≤ (64 : Nat) by omega) dX4_init_7 (fun H hH => ?_)
  obtain ⟨E1, e1, hH⟩ : ∃ z, z = uE E (n) (arI (zC Z 2) 64 (fun _ => 0)) ∧ CHp (zD Z) B H0 (n + 1) z H := ⟨_, rfl, hH⟩
  have h_j : E1 (j) = .inr (10, [.null, vi 0]) := by rw [e1]; exact (uE_ne (by omega)).trans h_j
  refine ch_putG (k := 0) (j := j) (ty0 := tyX4) (fin := false) b hH (by omega) h_j rfl in_10 tyX4_ok nmX4 (by decide) rfl (Nat.le_of_ble_eq_true rfl) rfl rfl hnm rfl hlo hzB (li_2 66 (by decide +kernel) (by decide +kernel)) dX4_init_9 (fun H locs hH hlo => ?_)
  obtain ⟨E2, e2, hH⟩ : ∃ z, z = uE E1 (j) (.inr (10, [.ref (B + (n)), vi 0])) ∧ CHp (zD Z) B H0 (n + 1) z H := ⟨_, rfl, hH⟩
  have h_j : E2 (j) = .inr (10, [.ref (B + (n)), vi 0]) := by rw [e2]; exact uE_self _ _ _
  refine ch_ret b hr hlk hlo ?_ (show _ ≤ (1 : Nat) by omega) (show _ ≤ (64 : Nat) by omega) dX4_init_12
  subst e1 e2
  exact hH
def E_RX10 (Z : ZT) (B n j : Nat) (E : Nat → va_E) : Nat → va_E := uE (uE (uE (uE (uE (uE (uE (uE (uE (uE (uE (uE E (n) (arI (zC Z 0) 40 (fun _ => 0))) (j) (.inr (5, [.ref (B + (n)), .null, .null, .null, .null, .null, vi 0, vi 0]))) (n + 1) (arI (zC Z 0) 40 (fun _ => 0))) (j) (.inr (5, [.ref (B + (n)), .ref (B + (n + 1)), .null, .null, .null, .null, vi 0, vi 0]))) (n + 2) (arI (zC Z 0) 40 (fun _ => 0))) (j) (.inr (5, [.ref (B + (n)), .ref (B + (n + 1)), .ref (B + (n + 2)), .null, .null, .null, vi 0, vi 0]))) (n + 3) (arI (zC Z 0) 400 (fun _ => 0))) (j) (.inr (5, [.ref (B + (n)), .ref (B + (n + 1)), .ref (B + (n + 2)), .ref (B + (n + 3)), .null, .null, vi 0, vi 0]))) (n + 4) (arI (zC Z 0) 41 (fun _ => 0))) (j) (.inr (5, [.ref (B + (n)), .ref (B + (n + 1)), .ref (B + (n + 2)), .ref (B + (n + 3)), .ref (B + (n + 4)), .null, vi 0, vi 0]))) (n + 5) (arI (zC Z 0) 41 (fun _ => 0))) (j) (.inr (5, [.ref (B + (n)), .ref (B + (n + 1)), .ref (B + (n + 2)), .ref (B + (n + 3)), .ref (B + (n + 4)), .ref (B + (n + 5)), vi 0, vi 0]))
theorem E_RX10_old {Z : ZT} {B n j q : Nat} {E : Nat → va_E} (h1 : q ≠ j) (h2 : q < n) : E_RX10 Z B n j E q = E q := by
  unfold E_RX10
  simp only [uE_ne h1, uE]
  repeat (rw [if_neg (by omega)])
set_option maxRecDepth 20000 in
set_option maxHeartbeats 4000000 in
theorem C_RX10 (Z : ZT) (B : Nat) (H0 : Heap) (n j : Nat) (E : Nat → va_E) (hzB : zB Z ≤ B) (hj : j < n) (h_j : E j = .inr (5, [.null, .null, .null, .null, .null, .null, vi 0, vi 0])) : RunsC Z yX10_init cX10_init 1 1 [.ref (B + j)] 6 602 (CHp (zD Z) B H0 n E) (CHp (zD Z) B H0 (n + 6) (E_RX10 Z B n j E)) := by
  refine RunsC.of (by decide +kernel) rfl (Nat.le_of_ble_eq_true rfl) ?_
  intro p l e s m args below meth c ls hfl b hH hr hlk hnm hl
  have hl : lv_has ls 1 [(0, .ref (B + j))] := hl
  have b : BB p s m args c RX10 cX10_init 1 Z := b
  obtain ⟨H, eH⟩ : ∃ z, z = s.heap := ⟨_, rfl⟩
  rw [← eH] at hH ⊢
  have hlo : ∀ q ∈ ([] : List Loc), zN Z q.base := fun q hq => by cases hq
  refine lv_aload_n b.1 b.2.1 dX10_init_0 rfl (lv_at hl 0 rfl) ?_
  refine ch_obj b hl.1 (li_1 145 (by decide +kernel) (by decide +kernel)) (Nat.le_of_ble_eq_true rfl) (Nat.le_of_ble_eq_true rfl) dX10_init_1 ?_
  refine lv_aload_n b.1 b.2.1 dX10_init_4 rfl (lv_at hl 0 rfl) ?_
  refine lv_bipush (v := Int32.ofInt 40) b.1 b.2.1 dX10_init_5 (by decide) ?_
  refine ch_newa (atype := .int) (ty := .int) (cA := zC Z 0) (t0 := 0) (N' := 40) b hH (li_1 57 (by decide +kernel) (by decide +kernel)) rfl rfl (fun _ h => h) rfl (by decide) (Nat.le_of_ble_eq_true rfl) (show _ ≤ (6 : Nat) by omega) (show _ ≤ (602 : Nat) by omega) dX10_init_7 (fun H hH => ?_)
  obtain ⟨E1, e1, hH⟩ : ∃ z, z = uE E (n) (arI (zC Z 0) 40 (fun _ => 0)) ∧ CHp (zD Z) B H0 (n + 1) z H := ⟨_, rfl, hH⟩
  have h_j : E1 (j) = .inr (5, [.null, .null, .null, .null, .null, .null, vi 0, vi 0]) := by rw [e1]; exact (uE_ne (by omega)).trans h_j
  refine ch_putG (k := 0) (j := j) (ty0 := tyX10) (fin := true) b hH (by omega) h_j rfl in_5 tyX10_ok nmX10 (by decide) rfl (Nat.le_of_ble_eq_true rfl) rfl rfl hnm rfl hlo hzB (li_1 146 (by decide +kernel) (by decide +kernel)) dX10_init_9 (fun H locs hH hlo => ?_)
  obtain ⟨E2, e2, hH⟩ : ∃ z, z = uE E1 (j) (.inr (5, [.ref (B + (n)), .null, .null, .null, .null, .null, vi 0, vi 0])) ∧ CHp (zD Z) B H0 (n + 1) z H := ⟨_, rfl, hH⟩
  have h_j : E2 (j) = .inr (5, [.ref (B + (n)), .null, .null, .null, .null, .null, vi 0, vi 0]) := by rw [e2]; exact uE_self _ _ _
  refine lv_aload_n b.1 b.2.1 dX10_init_12 rfl (lv_at hl 0 rfl) ?_
  refine lv_bipush (v := Int32.ofInt 40) b.1 b.2.1 dX10_init_13 (by decide) ?_
  refine ch_newa (atype := .int) (ty := .int) (cA := zC Z 0) (t0 := 0) (N' := 40) b hH (li_1 57 (by decide +kernel) (by decide +kernel)) rfl rfl (fun _ h => h) rfl (by decide) (Nat.le_of_ble_eq_true rfl) (show _ ≤ (6 : Nat) by omega) (show _ ≤ (602 : Nat) by omega) dX10_init_15 (fun H hH => ?_)
  obtain ⟨E3, e3, hH⟩ : ∃ z, z = uE E2 (n + 1) (arI (zC Z 0) 40 (fun _ => 0)) ∧ CHp (zD Z) B H0 (n + 2) z H := ⟨_, rfl, hH⟩
  have h_j : E3 (j) = .inr (5, [.ref (B + (n)), .null, .null, .null, .null, .null, vi 0, vi 0]) := by rw [e3]; exact (uE_ne (by omega)).trans h_j
  refine ch_putG (k := 1) (j := j) (ty0 := tyX10) (fin := true) b hH (by omega) h_j rfl in_5 tyX10_ok nmX10 (by decide) rfl (Nat.le_of_ble_eq_true rfl) rfl rfl hnm rfl hlo hzB (li_1 147 (by decide +kernel) (by decide +kernel)) dX10_init_17 (fun H locs hH hlo => ?_)
  obtain ⟨E4, e4, hH⟩ : ∃ z, z = uE E3 (j) (.inr (5, [.ref (B + (n)), .ref (B + (n + 1)), .null, .null, .null, .null, vi 0, vi 0])) ∧ CHp (zD Z) B H0 (n + 2) z H := ⟨_, rfl, hH⟩
  have h_j : E4 (j) = .inr (5, [.ref (B + (n)), .ref (B + (n + 1)), .null, .null, .null, .null, vi 0, vi 0]) := by rw [e4]; exact uE_self _ _ _
  refine lv_aload_n b.1 b.2.1 dX10_init_20 rfl (lv_at hl 0 rfl) ?_
  refine lv_bipush (v := Int32.ofInt 40) b.1 b.2.1 dX10_init_21 (by decide) ?_
  refine ch_newa (atype := .int) (ty := .int) (cA := zC Z 0) (t0 := 0) (N' := 40) b hH (li_1 57 (by decide +kernel) (by decide +kernel)) rfl rfl (fun _ h => h) rfl (by decide) (Nat.le_of_ble_eq_true rfl) (show _ ≤ (6 : Nat) by omega) (show _ ≤ (602 : Nat) by omega) dX10_init_23 (fun H hH => ?_)
  obtain ⟨E5, e5, hH⟩ : ∃ z, z = uE E4 (n + 2) (arI (zC Z 0) 40 (fun _ => 0)) ∧ CHp (zD Z) B H0 (n + 3) z H := ⟨_, rfl, hH⟩
  have h_j : E5 (j) = .inr (5, [.ref (B + (n)), .ref (B + (n + 1)), .null, .null, .null, .null, vi 0, vi 0]) := by rw [e5]; exact (uE_ne (by omega)).trans h_j
  refine ch_putG (k := 2) (j := j) (ty0 := tyX10) (fin := true) b hH (by omega) h_j rfl in_5 tyX10_ok nmX10 (by decide) rfl (Nat.le_of_ble_eq_true rfl) rfl rfl hnm rfl hlo hzB (li_1 148 (by decide +kernel) (by decide +kernel)) dX10_init_25 (fun H locs hH hlo => ?_)
  obtain ⟨E6, e6, hH⟩ : ∃ z, z = uE E5 (j) (.inr (5, [.ref (B + (n)), .ref (B + (n + 1)), .ref (B + (n + 2)), .null, .null, .null, vi 0, vi 0])) ∧ CHp (zD Z) B H0 (n + 3) z H := ⟨_, rfl, hH⟩
  have h_j : E6 (j) = .inr (5, [.ref (B + (n)), .ref (B + (n + 1)), .ref (B + (n + 2)), .null, .null, .null, vi 0, vi 0]) := by rw [e6]; exact uE_self _ _ _
  refine lv_aload_n b.1 b.2.1 dX10_init_28 rfl (lv_at hl 0 rfl) ?_
  refine lv_sipush (v := Int32.ofInt 400) b.1 b.2.1 dX10_init_29 (by decide) ?_
  refine ch_newa (atype := .int) (ty := .int) (cA := zC Z 0) (t0 := 0) (N' := 400) b hH (li_1 57 (by decide +kernel) (by decide +kernel)) rfl rfl (fun _ h => h) rfl (by decide) (Nat.le_of_ble_eq_true rfl) (show _ ≤ (6 : Nat) by omega) (show _ ≤ (602 : Nat) by omega) dX10_init_32 (fun H hH => ?_)
  obtain ⟨E7, e7, hH⟩ : ∃ z, z = uE E6 (n + 3) (arI (zC Z 0) 400 (fun _ => 0)) ∧ CHp (zD Z) B H0 (n + 4) z H := ⟨_, rfl, hH⟩
  have h_j : E7 (j) = .inr (5, [.ref (B + (n)), .ref (B + (n + 1)), .ref (B + (n + 2)), .null, .null, .null, vi 0, vi 0]) := by rw [e7]; exact (uE_ne (by omega)).trans h_j
  refine ch_putG (k := 3) (j := j) (ty0 := tyX10) (fin := true) b hH (by omega) h_j rfl in_5 tyX10_ok nmX10 (by decide) rfl (Nat.le_of_ble_eq_true rfl) rfl rfl hnm rfl hlo hzB (li_1 149 (by decide +kernel) (by decide +kernel)) dX10_init_34 (fun H locs hH hlo => ?_)
  obtain ⟨E8, e8, hH⟩ : ∃ z, z = uE E7 (j) (.inr (5, [.ref (B + (n)), .ref (B + (n + 1)), .ref (B + (n + 2)), .ref (B + (n + 3)), .null, .null, vi 0, vi 0])) ∧ CHp (zD Z) B H0 (n + 4) z H := ⟨_, rfl, hH⟩
  have h_j : E8 (j) = .inr (5, [.ref (B + (n)), .ref (B + (n + 1)), .ref (B + (n + 2)), .ref (B + (n + 3)), .null, .null, vi 0, vi 0]) := by rw [e8]; exact uE_self _ _ _
  refine lv_aload_n b.1 b.2.1 dX10_init_37 rfl (lv_at hl 0 rfl) ?_
  refine lv_bipush (v := Int32.ofInt 41) b.1 b.2.1 dX10_init_38 (by decide) ?_
  refine ch_newa (atype := .int) (ty := .int) (cA := zC Z 0) (t0 := 0) (N' := 41) b hH (li_1 57 (by decide +kernel) (by decide +kernel)) rfl rfl (fun _ h => h) rfl (by decide) (Nat.le_of_ble_eq_true rfl) (show _ ≤ (6 : Nat) by omega) (show _ ≤ (602 : Nat) by omega) dX10_init_40 (fun H hH => ?_)
  obtain ⟨E9, e9, hH⟩ : ∃ z, z = uE E8 (n + 4) (arI (zC Z 0) 41 (fun _ => 0)) ∧ CHp (zD Z) B H0 (n + 5) z H := ⟨_, rfl, hH⟩
  have h_j : E9 (j) = .inr (5, [.ref (B + (n)), .ref (B + (n + 1)), .ref (B + (n + 2)), .ref (B + (n + 3)), .null, .null, vi 0, vi 0]) := by rw [e9]; exact (uE_ne (by omega)).trans h_j
  refine ch_putG (k := 4) (j := j) (ty0 := tyX10) (fin := true) b hH (by omega) h_j rfl in_5 tyX10_ok nmX10 (by decide) rfl (Nat.le_of_ble_eq_true rfl) rfl rfl hnm rfl hlo hzB (li_1 150 (by decide +kernel) (by decide +kernel)) dX10_init_42 (fun H locs hH hlo => ?_)
  obtain ⟨E10, e10, hH⟩ : ∃ z, z = uE E9 (j) (.inr (5, [.ref (B + (n)), .ref (B + (n + 1)), .ref (B + (n + 2)), .ref (B + (n + 3)), .ref (B + (n + 4)), .null, vi 0, vi 0])) ∧ CHp (zD Z) B H0 (n + 5) z H := ⟨_, rfl, hH⟩
  have h_j : E10 (j) = .inr (5, [.ref (B + (n)), .ref (B + (n + 1)), .ref (B + (n + 2)), .ref (B + (n + 3)), .ref (B + (n + 4)), .null, vi 0, vi 0]) := by rw [e10]; exact uE_self _ _ _
  refine lv_aload_n b.1 b.2.1 dX10_init_45 rfl (lv_at hl 0 rfl) ?_
  refine lv_bipush (v := Int32.ofInt 41) b.1 b.2.1 dX10_init_46 (by decide) ?_
  refine ch_newa (atype := .int) (ty := .int) (cA := zC Z 0) (t0 := 0) (N' := 41) b hH (li_1 57 (by decide +kernel) (by decide +kernel)) rfl rfl (fun _ h => h) rfl (by decide) (Nat.le_of_ble_eq_true rfl) (show _ ≤ (6 : Nat) by omega) (show _ ≤ (602 : Nat) by omega) dX10_init_48 (fun H hH => ?_)
  obtain ⟨E11, e11, hH⟩ : ∃ z, z = uE E10 (n + 5) (arI (zC Z 0) 41 (fun _ => 0)) ∧ CHp (zD Z) B H0 (n + 6) z H := ⟨_, rfl, hH⟩
  have h_j : E11 (j) = .inr (5, [.ref (B + (n)), .ref (B + (n + 1)), .ref (B + (n + 2)), .ref (B + (n + 3)), .ref (B + (n + 4)), .null, vi 0, vi 0]) := by rw [e11]; exact (uE_ne (by omega)).trans h_j
  refine ch_putG (k := 5) (j := j) (ty0 := tyX10) (fin := true) b hH (by omega) h_j rfl in_5 tyX10_ok nmX10 (by decide) rfl (Nat.le_of_ble_eq_true rfl) rfl rfl hnm rfl hlo hzB (li_1 151 (by decide +kernel) (by decide +kernel)) dX10_init_50 (fun H locs hH hlo => ?_)
  obtain ⟨E12, e12, hH⟩ : ∃ z, z = uE E11 (j) (.inr (5, [.ref (B + (n)), .ref (B + (n + 1)), .ref (B + (n + 2)), .ref (B + (n + 3)), .ref (B + (n + 4)), .ref (B + (n + 5)), vi 0, vi 0])) ∧ CHp (zD Z) B H0 (n + 6) z H := ⟨_, rfl, hH⟩
  have h_j : E12 (j) = .inr (5, [.ref (B + (n)), .ref (B + (n + 1)), .ref (B + (n + 2)), .ref (B + (n + 3)), .ref (B + (n + 4)), .ref (B + (n + 5)), vi 0, vi 0]) := by rw [e12]; exact uE_self _ _ _
  refine ch_ret b hr hlk hlo ?_ (show _ ≤ (6 : Nat) by omega) (show _ ≤ (602 : Nat) by omega) dX10_init_53
  subst e1 e2 e3 e4 e5 e6 e7 e8 e9 e10 e11 e12
  exact hH
def E_RX7 (Z : ZT) (B n j : Nat) (E : Nat → va_E) (a1 a2 : Nat) : Nat → va_E := uE (uE E (j) (.inr (7, [.ref a1, .null, vi 0, vi 0, vi 0, vi 0, vi 0]))) (j) (.inr (7, [.ref a1, .ref a2, vi 0, vi 0, vi 0, vi 0, vi 0]))
theorem E_RX7_old {Z : ZT} {B n j q : Nat} {E : Nat → va_E} {a1 a2 : Nat} (h1 : q ≠ j) (h2 : q < n) : E_RX7 Z B n j E a1 a2 q = E q := by
  unfold E_RX7
  simp only [uE_ne h1]
set_option maxRecDepth 20000 in
set_option maxHeartbeats 4000000 in
theorem C_RX7 (Z : ZT) (B : Nat) (H0 : Heap) (n j : Nat) (E : Nat → va_E) (a1 a2 : Nat) (hzB : zB Z ≤ B) (hj : j < n) (h_j : E j = .inr (7, [.null, .null, vi 0, vi 0, vi 0, vi 0, vi 0])) : RunsC Z yX7_init cX7_init 3 1 [.ref (B + j), .ref a1, .ref a2] 0 0 (CHp (zD Z) B H0 n E) (CHp (zD Z) B H0 (n + 0) (E_RX7 Z B n j E a1 a2)) := by
  refine RunsC.of (by decide +kernel) rfl (Nat.le_of_ble_eq_true rfl) ?_
  intro p l e s m args below meth c ls hfl b hH hr hlk hnm hl
  have hl : lv_has ls 3 [(0, .ref (B + j)), (1, .ref a1), (2, .ref a2)] := hl
  have b : BB p s m args c RX7 cX7_init 3 Z := b
  obtain ⟨H, eH⟩ : ∃ z, z = s.heap := ⟨_, rfl⟩
  rw [← eH] at hH ⊢
  have hlo : ∀ q ∈ ([] : List Loc), zN Z q.base := fun q hq => by cases hq
  refine lv_aload_n b.1 b.2.1 dX7_init_0 rfl (lv_at hl 0 rfl) ?_
  refine ch_obj b hl.1 (li_1 207 (by decide +kernel) (by decide +kernel)) (Nat.le_of_ble_eq_true rfl) (Nat.le_of_ble_eq_true rfl) dX7_init_1 ?_
  refine lv_aload_n b.1 b.2.1 dX7_init_4 rfl (lv_at hl 0 rfl) ?_
  refine lv_aload_n b.1 b.2.1 dX7_init_5 rfl (lv_at hl 1 rfl) ?_
  refine ch_putG (k := 0) (j := j) (ty0 := tyX7) (fin := true) b hH (by omega) h_j rfl in_7 tyX7_ok nmX7 (by decide) rfl (Nat.le_of_ble_eq_true rfl) rfl rfl hnm rfl hlo hzB (li_1 208 (by decide +kernel) (by decide +kernel)) dX7_init_6 (fun H locs hH hlo => ?_)
  obtain ⟨E1, e1, hH⟩ : ∃ z, z = uE E (j) (.inr (7, [.ref a1, .null, vi 0, vi 0, vi 0, vi 0, vi 0])) ∧ CHp (zD Z) B H0 (n) z H := ⟨_, rfl, hH⟩
  have h_j : E1 (j) = .inr (7, [.ref a1, .null, vi 0, vi 0, vi 0, vi 0, vi 0]) := by rw [e1]; exact uE_self _ _ _
  refine lv_aload_n b.1 b.2.1 dX7_init_9 rfl (lv_at hl 0 rfl) ?_
  refine lv_aload_n b.1 b.2.1 dX7_init_10 rfl (lv_at hl 2 rfl) ?_
  refine ch_putG (k := 1) (j := j) (ty0 := tyX7) (fin := true) b hH (by omega) h_j rfl in_7 tyX7_ok nmX7 (by decide) rfl (Nat.le_of_ble_eq_true rfl) rfl rfl hnm rfl hlo hzB (li_1 209 (by decide +kernel) (by decide +kernel)) dX7_init_11 (fun H locs hH hlo => ?_)
  obtain ⟨E2, e2, hH⟩ : ∃ z, z = uE E1 (j) (.inr (7, [.ref a1, .ref a2, vi 0, vi 0, vi 0, vi 0, vi 0])) ∧ CHp (zD Z) B H0 (n) z H := ⟨_, rfl, hH⟩
  have h_j : E2 (j) = .inr (7, [.ref a1, .ref a2, vi 0, vi 0, vi 0, vi 0, vi 0]) := by rw [e2]; exact uE_self _ _ _
  refine ch_ret b hr hlk hlo ?_ (show _ ≤ (0 : Nat) by omega) (show _ ≤ (0 : Nat) by omega) dX7_init_14
  subst e1 e2
  exact hH
def T_f : Nat → Nat → Int
  | 0 => fun _ => 0
  | i + 1 => fun q => if q = i then (-1) else T_f i q
def P_RX3 (Z : ZT) (B n j : Nat) (E : Nat → va_E) : Nat → va_E := uE (uE (uE (uE (uE (uE (uE (uE (uE E (n) (arI (zC Z 0) 4356 (fun _ => 0))) (j) (.inr (4, [.ref (B + (n)), .null, .null, .null, vi 0, .null, vi 0, vi 0, vi 0, vi 0]))) (n + 1) (arI (zC Z 0) 4356 (fun _ => 0))) (j) (.inr (4, [.ref (B + (n)), .ref (B + (n + 1)), .null, .null, vi 0, .null, vi 0, vi 0, vi 0, vi 0]))) (n + 2) (arI (zC Z 0) 4356 (fun _ => 0))) (j) (.inr (4, [.ref (B + (n)), .ref (B + (n + 1)), .ref (B + (n + 2)), .null, vi 0, .null, vi 0, vi 0, vi 0, vi 0]))) (n + 3) (arI (zC Z 0) 4356 (fun _ => 0))) (j) (.inr (4, [.ref (B + (n)), .ref (B + (n + 1)), .ref (B + (n + 2)), .ref (B + (n + 3)), vi 0, .null, vi 0, vi 0, vi 0, vi 0]))) (j) (.inr (4, [.ref (B + (n)), .ref (B + (n + 1)), .ref (B + (n + 2)), .ref (B + (n + 3)), vi 0, .null, vi 0, vi (-1), vi 0, vi 0]))
def L0_RX3 (Z : ZT) (B n j : Nat) (E0 : Nat → va_E) : Nat → Nat → va_E
  | 0 => P_RX3 Z B n j E0
  | i + 1 => (fun E => uE E (n + 2) (arI (zC Z 0) 4356 (T_f (i + 1)))) (L0_RX3 Z B n j E0 i)
def E_RX3 (Z : ZT) (B n j : Nat) (E : Nat → va_E) : Nat → va_E := L0_RX3 Z B n j E 4356
theorem L0_RX3_old {Z : ZT} {B n j q : Nat} {E : Nat → va_E} (h : q ≠ n + 2) : ∀ i : Nat, L0_RX3 Z B n j E i q = P_RX3 Z B n j E q
  | 0 => rfl
  | i + 1 => (uE_ne h).trans (L0_RX3_old h i)
theorem E_RX3_old {Z : ZT} {B n j q : Nat} {E : Nat → va_E} (h1 : q ≠ j) (h2 : q < n) : E_RX3 Z B n j E q = E q := by
  refine (L0_RX3_old (by omega) 4356).trans ?_
  simp only [P_RX3, uE_ne h1, uE]
  repeat (rw [if_neg (by omega)])
set_option maxRecDepth 20000 in
set_option maxHeartbeats 4000000 in
theorem C_RX3 (Z : ZT) (B : Nat) (H0 : Heap) (n j : Nat) (E0 : Nat → va_E) (hzB : zB Z ≤ B) (hj : j < n) (h_j : E0 j = .inr (4, [.null, .null, .null, .null, vi 0, .null, vi 0, vi 0, vi 0, vi 0])) : RunsC Z yX3_init cX3_init 2 1 [.ref (B + j)] 4 17424 (CHp (zD Z) B H0 n E0) (CHp (zD Z) B H0 (n + 4) (E_RX3 Z B n j E0)) := by
  refine RunsC.of (by decide +kernel) rfl (Nat.le_of_ble_eq_true rfl) ?_
  intro p l e s m args below meth c ls hfl b hH hr hlk hnm hl
  have hl : lv_has ls 2 [(0, .ref (B + j))] := hl
  have b : BB p s m args c RX3 cX3_init 2 Z := b
  obtain ⟨H, eH⟩ : ∃ z, z = s.heap := ⟨_, rfl⟩
  rw [← eH] at hH ⊢
  have hlo : ∀ q ∈ ([] : List Loc), zN Z q.base := fun q hq => by cases hq
  have lp0 : ∀ (d i : Nat) (E : Nat → va_E) (H : Heap) (locs : List Loc) (ls : Array Slot), i + d = 4356 → E = (L0_RX3 Z B n j E0) i → CHp (zD Z) B H0 (n + 4) E H → E (j) = .inr (4, [.ref (B + (n)), .ref (B + (n + 1)), .ref (B + (n + 2)), .ref (B + (n + 3)), vi 0, .null, vi 0, vi (-1), vi 0, vi 0]) → E (n + 2) = arI (zC Z 0) 4356 (T_f i) → (∀ q ∈ locs, zN Z q.base) → lv_has ls 2 [(0, .ref (B + j)), (1, vi ((i : Nat) : Int))] → W p l e (rmH 1 4 17424) s m args below meth c H locs (4 + 0 * i) (17424 + 0 * i) (MQ below (QcC (CHp (zD Z) B H0 (n + 4) (E_RX3 Z B n j E0))) args s 4 17424 (zN Z)) (F0 m 47 ls []) := by
    intro d
    induction d with
    | zero =>
      intro i E H locs ls hi hE hH h_j hA hlo hl
      refine lv_iload_n b.1 b.2.1 dX3_init_47 rfl (lv_at hl 1 rfl) ?_
      refine lv_sipush (v := Int32.ofInt 4356) b.1 b.2.1 dX3_init_48 (by decide) ?_
      refine lv_icmp_ge (tgt := 67) b.1 b.2.1 dX3_init_51 (by decide) (fun c1 => ?_) (fun c1 => ?_)
      · obtain rfl : i = 4356 := by omega
        refine ch_ret b hr hlk hlo ?_ (show _ ≤ (4 : Nat) by omega) (show _ ≤ (17424 : Nat) by omega) dX3_init_67
        rw [hE] at hH
        exact hH
      · exact absurd ((w_le _ _).mpr (by rw [w32_of (by omega) (by omega), w32_of (by omega) (by omega)]; omega)) c1
    | succ d ih =>
      intro i E H locs ls hi hE hH h_j hA hlo hl
      refine lv_iload_n b.1 b.2.1 dX3_init_47 rfl (lv_at hl 1 rfl) ?_
      refine lv_sipush (v := Int32.ofInt 4356) b.1 b.2.1 dX3_init_48 (by decide) ?_
      refine lv_icmp_ge (tgt := 67) b.1 b.2.1 dX3_init_51 (by decide) (fun c1 => ?_) (fun c1 => ?_)
      · exact absurd (show w32 ((i : Nat) : Int) < w32 4356 by rw [w32_of (by omega) (by omega), w32_of (by omega) (by omega)]; omega) ((w_le _ _).mp c1)
      · skip
        refine lv_aload_n b.1 b.2.1 dX3_init_54 rfl (lv_at hl 0 rfl) ?_
        refine ch_get (k := 2) (j := j) b hH (by omega) h_j rfl in_4 (by decide) rfl rfl (li_1 104 (by decide +kernel) (by decide +kernel)) dX3_init_55 ?_
        refine lv_iload_n b.1 b.2.1 dX3_init_58 rfl (lv_at hl 1 rfl) ?_
        refine lv_iconst (v := Int32.ofInt (-1)) b.1 b.2.1 dX3_init_59 rfl ?_
        refine ch_iast (N' := 4356) (x' := ((i : Nat) : Int)) (j := n + 2) b hH (by omega) hA (w32_of (by omega) (by omega)) (by omega) hlo hzB dX3_init_60 (fun H locs hH hlo => ?_)
        obtain ⟨E101, e101, hH⟩ : ∃ z, z = uE E (n + 2) (arI (zC Z 0) 4356 (T_f (i + 1))) ∧ CHp (zD Z) B H0 (n + 4) z H := ⟨_, rfl, hH⟩
        have h_j : E101 (j) = .inr (4, [.ref (B + (n)), .ref (B + (n + 1)), .ref (B + (n + 2)), .ref (B + (n + 3)), vi 0, .null, vi 0, vi (-1), vi 0, vi 0]) := by rw [e101]; exact (uE_ne (by omega)).trans h_j
        have hA : E101 (n + 2) = arI (zC Z 0) 4356 (T_f (i + 1)) := by rw [e101]; exact uE_self _ _ _
        refine lv_iinc (v := Int32.ofInt (((i : Nat) : Int) + 1)) (lv' := [(1, vi (((i : Nat) : Int) + 1)), (0, .ref (B + j))]) b.1 b.2.1 dX3_init_61 hl (k := 1) rfl (i_add _ _) (by decide) rfl (fun ls hl => ?_)
        refine lv_goto (tgt := 47) b.1 b.2.1 dX3_init_64 (by decide) ?_
        refine W.widen (k := 4 + 0 * (i + 1)) (n := 17424 + 0 * (i + 1)) (by omega) (by omega) ?_
        exact ih (i + 1) E101 H locs ls (by omega) (by subst e101; rw [hE]; rfl) (by rw [show n + 4 = n + 4 by omega]; exact hH) h_j hA hlo (lv_sub hl [1, 0] rfl)
  obtain ⟨E, eE⟩ : ∃ z, z = E0 := ⟨_, rfl⟩
  rw [← eE] at h_j hH
  refine lv_aload_n b.1 b.2.1 dX3_init_0 rfl (lv_at hl 0 rfl) ?_
  refine ch_obj b hl.1 (li_1 101 (by decide +kernel) (by decide +kernel)) (Nat.le_of_ble_eq_true rfl) (Nat.le_of_ble_eq_true rfl) dX3_init_1 ?_
  refine lv_aload_n b.1 b.2.1 dX3_init_4 rfl (lv_at hl 0 rfl) ?_
  refine lv_sipush (v := Int32.ofInt 4356) b.1 b.2.1 dX3_init_5 (by decide) ?_
  refine ch_newa (atype := .int) (ty := .int) (cA := zC Z 0) (t0 := 0) (N' := 4356) b hH (li_1 57 (by decide +kernel) (by decide +kernel)) rfl rfl (fun _ h => h) rfl (by decide) (Nat.le_of_ble_eq_true rfl) (show _ ≤ (4 : Nat) by omega) (show _ ≤ (17424 : Nat) by omega) dX3_init_8 (fun H hH => ?_)
  obtain ⟨E1, e1, hH⟩ : ∃ z, z = uE E (n) (arI (zC Z 0) 4356 (fun _ => 0)) ∧ CHp (zD Z) B H0 (n + 1) z H := ⟨_, rfl, hH⟩
  have h_j : E1 (j) = .inr (4, [.null, .null, .null, .null, vi 0, .null, vi 0, vi 0, vi 0, vi 0]) := by rw [e1]; exact (uE_ne (by omega)).trans h_j
  refine ch_putG (k := 0) (j := j) (ty0 := tyX3) (fin := true) b hH (by omega) h_j rfl in_4 tyX3_ok nmX3 (by decide) rfl (Nat.le_of_ble_eq_true rfl) rfl rfl hnm rfl hlo hzB (li_1 102 (by decide +kernel) (by decide +kernel)) dX3_init_10 (fun H locs hH hlo => ?_)
  obtain ⟨E2, e2, hH⟩ : ∃ z, z = uE E1 (j) (.inr (4, [.ref (B + (n)), .null, .null, .null, vi 0, .null, vi 0, vi 0, vi 0, vi 0])) ∧ CHp (zD Z) B H0 (n + 1) z H := ⟨_, rfl, hH⟩
  have h_j : E2 (j) = .inr (4, [.ref (B + (n)), .null, .null, .null, vi 0, .null, vi 0, vi 0, vi 0, vi 0]) := by rw [e2]; exact uE_self _ _ _
  refine lv_aload_n b.1 b.2.1 dX3_init_13 rfl (lv_at hl 0 rfl) ?_
  refine lv_sipush (v := Int32.ofInt 4356) b.1 b.2.1 dX3_init_14 (by decide) ?_
  refine ch_newa (atype := .int) (ty := .int) (cA := zC Z 0) (t0 := 0) (N' := 4356) b hH (li_1 57 (by decide +kernel) (by decide +kernel)) rfl rfl (fun _ h => h) rfl (by decide) (Nat.le_of_ble_eq_true rfl) (show _ ≤ (4 : Nat) by omega) (show _ ≤ (17424 : Nat) by omega) dX3_init_17 (fun H hH => ?_)
  obtain ⟨E3, e3, hH⟩ : ∃ z, z = uE E2 (n + 1) (arI (zC Z 0) 4356 (fun _ => 0)) ∧ CHp (zD Z) B H0 (n + 2) z H := ⟨_, rfl, hH⟩
  have h_j : E3 (j) = .inr (4, [.ref (B + (n)), .null, .null, .null, vi 0, .null, vi 0, vi 0, vi 0, vi 0]) := by rw [e3]; exact (uE_ne (by omega)).trans h_j
  refine ch_putG (k := 1) (j := j) (ty0 := tyX3) (fin := true) b hH (by omega) h_j rfl in_4 tyX3_ok nmX3 (by decide) rfl (Nat.le_of_ble_eq_true rfl) rfl rfl hnm rfl hlo hzB (li_1 103 (by decide +kernel) (by decide +kernel)) dX3_init_19 (fun H locs hH hlo => ?_)
  obtain ⟨E4, e4, hH⟩ : ∃ z, z = uE E3 (j) (.inr (4, [.ref (B + (n)), .ref (B + (n + 1)), .null, .null, vi 0, .null, vi 0, vi 0, vi 0, vi 0])) ∧ CHp (zD Z) B H0 (n + 2) z H := ⟨_, rfl, hH⟩
  have h_j : E4 (j) = .inr (4, [.ref (B + (n)), .ref (B + (n + 1)), .null, .null, vi 0, .null, vi 0, vi 0, vi 0, vi 0]) := by rw [e4]; exact uE_self _ _ _
  refine lv_aload_n b.1 b.2.1 dX3_init_22 rfl (lv_at hl 0 rfl) ?_
  refine lv_sipush (v := Int32.ofInt 4356) b.1 b.2.1 dX3_init_23 (by decide) ?_
  refine ch_newa (atype := .int) (ty := .int) (cA := zC Z 0) (t0 := 0) (N' := 4356) b hH (li_1 57 (by decide +kernel) (by decide +kernel)) rfl rfl (fun _ h => h) rfl (by decide) (Nat.le_of_ble_eq_true rfl) (show _ ≤ (4 : Nat) by omega) (show _ ≤ (17424 : Nat) by omega) dX3_init_26 (fun H hH => ?_)
  obtain ⟨E5, e5, hH⟩ : ∃ z, z = uE E4 (n + 2) (arI (zC Z 0) 4356 (fun _ => 0)) ∧ CHp (zD Z) B H0 (n + 3) z H := ⟨_, rfl, hH⟩
  have h_j : E5 (j) = .inr (4, [.ref (B + (n)), .ref (B + (n + 1)), .null, .null, vi 0, .null, vi 0, vi 0, vi 0, vi 0]) := by rw [e5]; exact (uE_ne (by omega)).trans h_j
  have hA : E5 (n + 2) = arI (zC Z 0) 4356 (fun _ => 0) := by rw [e5]; exact uE_self _ _ _
  refine ch_putG (k := 2) (j := j) (ty0 := tyX3) (fin := true) b hH (by omega) h_j rfl in_4 tyX3_ok nmX3 (by decide) rfl (Nat.le_of_ble_eq_true rfl) rfl rfl hnm rfl hlo hzB (li_1 104 (by decide +kernel) (by decide +kernel)) dX3_init_28 (fun H locs hH hlo => ?_)
  obtain ⟨E6, e6, hH⟩ : ∃ z, z = uE E5 (j) (.inr (4, [.ref (B + (n)), .ref (B + (n + 1)), .ref (B + (n + 2)), .null, vi 0, .null, vi 0, vi 0, vi 0, vi 0])) ∧ CHp (zD Z) B H0 (n + 3) z H := ⟨_, rfl, hH⟩
  have hA : E6 (n + 2) = arI (zC Z 0) 4356 (fun _ => 0) := by rw [e6]; exact (uE_ne (by omega)).trans hA
  have h_j : E6 (j) = .inr (4, [.ref (B + (n)), .ref (B + (n + 1)), .ref (B + (n + 2)), .null, vi 0, .null, vi 0, vi 0, vi 0, vi 0]) := by rw [e6]; exact uE_self _ _ _
  refine lv_aload_n b.1 b.2.1 dX3_init_31 rfl (lv_at hl 0 rfl) ?_
  refine lv_sipush (v := Int32.ofInt 4356) b.1 b.2.1 dX3_init_32 (by decide) ?_
  refine ch_newa (atype := .int) (ty := .int) (cA := zC Z 0) (t0 := 0) (N' := 4356) b hH (li_1 57 (by decide +kernel) (by decide +kernel)) rfl rfl (fun _ h => h) rfl (by decide) (Nat.le_of_ble_eq_true rfl) (show _ ≤ (4 : Nat) by omega) (show _ ≤ (17424 : Nat) by omega) dX3_init_35 (fun H hH => ?_)
  obtain ⟨E7, e7, hH⟩ : ∃ z, z = uE E6 (n + 3) (arI (zC Z 0) 4356 (fun _ => 0)) ∧ CHp (zD Z) B H0 (n + 4) z H := ⟨_, rfl, hH⟩
  have h_j : E7 (j) = .inr (4, [.ref (B + (n)), .ref (B + (n + 1)), .ref (B + (n + 2)), .null, vi 0, .null, vi 0, vi 0, vi 0, vi 0]) := by rw [e7]; exact (uE_ne (by omega)).trans h_j
  have hA : E7 (n + 2) = arI (zC Z 0) 4356 (fun _ => 0) := by rw [e7]; exact (uE_ne (by omega)).trans hA
  refine ch_putG (k := 3) (j := j) (ty0 := tyX3) (fin := true) b hH (by omega) h_j rfl in_4 tyX3_ok nmX3 (by decide) rfl (Nat.le_of_ble_eq_true rfl) rfl rfl hnm rfl hlo hzB (li_1 105 (by decide +kernel) (by decide +kernel)) dX3_init_37 (fun H locs hH hlo => ?_)
  obtain ⟨E8, e8, hH⟩ : ∃ z, z = uE E7 (j) (.inr (4, [.ref (B + (n)), .ref (B + (n + 1)), .ref (B + (n + 2)), .ref (B + (n + 3)), vi 0, .null, vi 0, vi 0, vi 0, vi 0])) ∧ CHp (zD Z) B H0 (n + 4) z H := ⟨_, rfl, hH⟩
  have hA : E8 (n + 2) = arI (zC Z 0) 4356 (fun _ => 0) := by rw [e8]; exact (uE_ne (by omega)).trans hA
  have h_j : E8 (j) = .inr (4, [.ref (B + (n)), .ref (B + (n + 1)), .ref (B + (n + 2)), .ref (B + (n + 3)), vi 0, .null, vi 0, vi 0, vi 0, vi 0]) := by rw [e8]; exact uE_self _ _ _
  refine lv_aload_n b.1 b.2.1 dX3_init_40 rfl (lv_at hl 0 rfl) ?_
  refine lv_iconst (v := Int32.ofInt (-1)) b.1 b.2.1 dX3_init_41 rfl ?_
  refine ch_putG (k := 7) (j := j) (ty0 := tyX3) (fin := false) b hH (by omega) h_j rfl in_4 tyX3_ok nmX3 (by decide) rfl (Nat.le_of_ble_eq_true rfl) rfl rfl hnm rfl hlo hzB (li_1 109 (by decide +kernel) (by decide +kernel)) dX3_init_42 (fun H locs hH hlo => ?_)
  obtain ⟨E9, e9, hH⟩ : ∃ z, z = uE E8 (j) (.inr (4, [.ref (B + (n)), .ref (B + (n + 1)), .ref (B + (n + 2)), .ref (B + (n + 3)), vi 0, .null, vi 0, vi (-1), vi 0, vi 0])) ∧ CHp (zD Z) B H0 (n + 4) z H := ⟨_, rfl, hH⟩
  have hA : E9 (n + 2) = arI (zC Z 0) 4356 (fun _ => 0) := by rw [e9]; exact (uE_ne (by omega)).trans hA
  have h_j : E9 (j) = .inr (4, [.ref (B + (n)), .ref (B + (n + 1)), .ref (B + (n + 2)), .ref (B + (n + 3)), vi 0, .null, vi 0, vi (-1), vi 0, vi 0]) := by rw [e9]; exact uE_self _ _ _
  refine lv_iconst (v := Int32.ofInt 0) b.1 b.2.1 dX3_init_45 rfl ?_
  refine lv_istore_n (lv' := [(1, vi 0), (0, .ref (B + j))]) b.1 b.2.1 dX3_init_46 rfl hl (by decide) rfl (fun ls hl => ?_)
  refine W.widen (k := 4 + 0 * 0) (n := 17424 + 0 * 0) (by omega) (by omega) ?_
  exact lp0 4356 0 E9 H locs ls (by omega) (by subst e1 e2 e3 e4 e5 e6 e7 e8 e9 eE; rfl) hH h_j hA hlo (lv_sub hl [1, 0] rfl)
def E_RX9 (Z : ZT) (B n j : Nat) (E : Nat → va_E) : Nat → va_E := uE (uE (uE (E_RX3 Z B (n + 1) (n) (uE E (n) (.inr (4, [.null, .null, .null, .null, vi 0, .null, vi 0, vi 0, vi 0, vi 0]))) ) (j) (.inr (3, [.ref (B + (n)), .null]))) (n + 5) (arI (zC Z 0) 40 (fun _ => 0))) (j) (.inr (3, [.ref (B + (n)), .ref (B + (n + 5))]))
theorem E_RX9_old {Z : ZT} {B n j q : Nat} {E : Nat → va_E} (h1 : q ≠ j) (h2 : q < n) : E_RX9 Z B n j E q = E q := by
  unfold E_RX9
  rw [uE_ne h1, uE_ne (by omega), uE_ne h1, E_RX3_old (by omega) (by omega), uE_ne (by omega)]
set_option maxRecDepth 20000 in
set_option maxHeartbeats 4000000 in
theorem C_RX9 (Z : ZT) (B : Nat) (H0 : Heap) (n j : Nat) (E : Nat → va_E) (hzB : zB Z ≤ B) (hj : j < n) (h_j : E j = .inr (3, [.null, .null])) : RunsC Z yX9_init cX9_init 1 2 [.ref (B + j)] 6 17474 (CHp (zD Z) B H0 n E) (CHp (zD Z) B H0 (n + 6) (E_RX9 Z B n j E)) := by
  refine RunsC.of (by decide +kernel) rfl (Nat.le_of_ble_eq_true rfl) ?_
  intro p l e s m args below meth c ls hfl b hH hr hlk hnm hl
  have hl : lv_has ls 1 [(0, .ref (B + j))] := hl
  have b : BB p s m args c RX9 cX9_init 1 Z := b
  obtain ⟨H, eH⟩ : ∃ z, z = s.heap := ⟨_, rfl⟩
  rw [← eH] at hH ⊢
  have hlo : ∀ q ∈ ([] : List Loc), zN Z q.base := fun q hq => by cases hq
  refine lv_aload_n b.1 b.2.1 dX9_init_0 rfl (lv_at hl 0 rfl) ?_
  refine ch_obj b hl.1 (li_1 95 (by decide +kernel) (by decide +kernel)) (Nat.le_of_ble_eq_true rfl) (Nat.le_of_ble_eq_true rfl) dX9_init_1 ?_
  refine lv_aload_n b.1 b.2.1 dX9_init_4 rfl (lv_at hl 0 rfl) ?_
  refine ch_new (ci := 4) tyX3 [.null, .null, .null, .null, vi 0, .null, vi 0, vi 0, vi 0, vi 0] b hH in_4 tyX3_ok (li_1 96 (by decide +kernel) (by decide +kernel)) (li_1 97 (by decide +kernel) (by decide +kernel)) (li_1 5 (by decide +kernel) (by decide +kernel)) rfl (fun j hj => by rcases (show j = 0 ∨ j = 1 ∨ j = 2 ∨ j = 3 ∨ j = 4 ∨ j = 5 ∨ j = 6 ∨ j = 7 ∨ j = 8 ∨ j = 9 by omega) with rfl | rfl | rfl | rfl | rfl | rfl | rfl | rfl | rfl | rfl <;> rfl) (show _ ≤ (6 : Nat) by omega) (show _ ≤ (17474 : Nat) by omega) dX9_init_5 (fun H hH => ?_)
  obtain ⟨E1, e1, hH⟩ : ∃ z, z = uE E (n) (.inr (4, [.null, .null, .null, .null, vi 0, .null, vi 0, vi 0, vi 0, vi 0])) ∧ CHp (zD Z) B H0 (n + 1) z H := ⟨_, rfl, hH⟩
  have h_j : E1 (j) = .inr (3, [.null, .null]) := by rw [e1]; exact (uE_ne (by omega)).trans h_j
  have hn1 : E1 (n) = .inr (4, [.null, .null, .null, .null, vi 0, .null, vi 0, vi 0, vi 0, vi 0]) := by rw [e1]; exact uE_self _ _ _
  refine lv_dup b.1 b.2.1 dX9_init_8 rfl ?_
  refine ch_call (y' := yX3_init) (cc' := cX3_init) (maxL' := 2) (h' := 1) (nA := 0) (a := B + (n)) (As := []) (rest := [.ref (B + (n)), .ref (B + j)]) b hl.1 (C_RX3 Z B H0 (n + 1) (n) E1 hzB (by omega) hn1) hH hfl (li_1 100 (by decide +kernel) (by decide +kernel)) (li_1 98 (by decide +kernel) (by decide +kernel)) (li_1 99 (by decide +kernel) (by decide +kernel)) (li_1 5 (by decide +kernel) (by decide +kernel)) rfl (by decide +kernel) rfl rfl ⟨Nat.le_of_ble_eq_true rfl, Nat.le_of_ble_eq_true rfl⟩ (Nat.le_of_ble_eq_true rfl) ⟨show _ ≤ (6 : Nat) by omega, show _ ≤ (17474 : Nat) by omega⟩ hlo dX9_init_9 (fun H locs hH hlo => ?_)
  obtain ⟨E2, e2, hH⟩ : ∃ z, z = E_RX3 Z B (n + 1) (n) E1  ∧ CHp (zD Z) B H0 (n + 5) z H := ⟨_, rfl, hH⟩
  have h_j : E2 (j) = .inr (3, [.null, .null]) := by rw [e2]; exact (E_RX3_old (by omega) (by omega)).trans h_j
  refine ch_putG (k := 0) (j := j) (ty0 := tyX9) (fin := true) b hH (by omega) h_j rfl in_3 tyX9_ok nmX9 (by decide) rfl (Nat.le_of_ble_eq_true rfl) rfl rfl hnm rfl hlo hzB (li_1 133 (by decide +kernel) (by decide +kernel)) dX9_init_12 (fun H locs hH hlo => ?_)
  obtain ⟨E3, e3, hH⟩ : ∃ z, z = uE E2 (j) (.inr (3, [.ref (B + (n)), .null])) ∧ CHp (zD Z) B H0 (n + 5) z H := ⟨_, rfl, hH⟩
  have h_j : E3 (j) = .inr (3, [.ref (B + (n)), .null]) := by rw [e3]; exact uE_self _ _ _
  refine lv_aload_n b.1 b.2.1 dX9_init_15 rfl (lv_at hl 0 rfl) ?_
  refine lv_bipush (v := Int32.ofInt 40) b.1 b.2.1 dX9_init_16 (by decide) ?_
  refine ch_newa (atype := .int) (ty := .int) (cA := zC Z 0) (t0 := 0) (N' := 40) b hH (li_1 57 (by decide +kernel) (by decide +kernel)) rfl rfl (fun _ h => h) rfl (by decide) (Nat.le_of_ble_eq_true rfl) (show _ ≤ (6 : Nat) by omega) (show _ ≤ (17474 : Nat) by omega) dX9_init_18 (fun H hH => ?_)
  obtain ⟨E4, e4, hH⟩ : ∃ z, z = uE E3 (n + 5) (arI (zC Z 0) 40 (fun _ => 0)) ∧ CHp (zD Z) B H0 (n + 6) z H := ⟨_, rfl, hH⟩
  have h_j : E4 (j) = .inr (3, [.ref (B + (n)), .null]) := by rw [e4]; exact (uE_ne (by omega)).trans h_j
  refine ch_putG (k := 1) (j := j) (ty0 := tyX9) (fin := true) b hH (by omega) h_j rfl in_3 tyX9_ok nmX9 (by decide) rfl (Nat.le_of_ble_eq_true rfl) rfl rfl hnm rfl hlo hzB (li_1 134 (by decide +kernel) (by decide +kernel)) dX9_init_20 (fun H locs hH hlo => ?_)
  obtain ⟨E5, e5, hH⟩ : ∃ z, z = uE E4 (j) (.inr (3, [.ref (B + (n)), .ref (B + (n + 5))])) ∧ CHp (zD Z) B H0 (n + 6) z H := ⟨_, rfl, hH⟩
  have h_j : E5 (j) = .inr (3, [.ref (B + (n)), .ref (B + (n + 5))]) := by rw [e5]; exact uE_self _ _ _
  refine ch_ret b hr hlk hlo ?_ (show _ ≤ (6 : Nat) by omega) (show _ ≤ (17474 : Nat) by omega) dX9_init_23
  subst e1 e2 e3 e4 e5
  exact hH
def S_f (Z : ZT) : Nat → Nat → Option Nat
  | 0 => fun _ => none
  | i + 1 => va_up (S_f Z i) i (some (zA Z 11 14))
def P_RX6 (Z : ZT) (B n j : Nat) (E : Nat → va_E) (a1 : Nat) : Nat → va_E := uE (uE (uE (uE (uE (uE (uE (uE (uE (uE (uE (uE (uE (uE (uE E (n) (.inl (zC Z 6, 60, .inr (.inr (.inr (.inr fun _ => none)))))) (j) (.inr (8, [.null, .ref (B + (n)), .null, .null, .null, .null, .null, .null, vi 0, vi 0, vi 0]))) (n + 1) (arI (zC Z 0) 60 (fun _ => 0))) (j) (.inr (8, [.null, .ref (B + (n)), .ref (B + (n + 1)), .null, .null, .null, .null, .null, vi 0, vi 0, vi 0]))) (n + 2) (arI (zC Z 0) 60 (fun _ => 0))) (j) (.inr (8, [.null, .ref (B + (n)), .ref (B + (n + 1)), .ref (B + (n + 2)), .null, .null, .null, .null, vi 0, vi 0, vi 0]))) (n + 3) (arI (zC Z 0) 60 (fun _ => 0))) (j) (.inr (8, [.null, .ref (B + (n)), .ref (B + (n + 1)), .ref (B + (n + 2)), .ref (B + (n + 3)), .null, .null, .null, vi 0, vi 0, vi 0]))) (n + 4) (arI (zC Z 0) 60 (fun _ => 0))) (j) (.inr (8, [.null, .ref (B + (n)), .ref (B + (n + 1)), .ref (B + (n + 2)), .ref (B + (n + 3)), .ref (B + (n + 4)), .null, .null, vi 0, vi 0, vi 0]))) (n + 5) (arI (zC Z 0) 60 (fun _ => 0))) (j) (.inr (8, [.null, .ref (B + (n)), .ref (B + (n + 1)), .ref (B + (n + 2)), .ref (B + (n + 3)), .ref (B + (n + 4)), .ref (B + (n + 5)), .null, vi 0, vi 0, vi 0]))) (n + 6) (arI (zC Z 0) 2 (fun _ => 0))) (j) (.inr (8, [.null, .ref (B + (n)), .ref (B + (n + 1)), .ref (B + (n + 2)), .ref (B + (n + 3)), .ref (B + (n + 4)), .ref (B + (n + 5)), .ref (B + (n + 6)), vi 0, vi 0, vi 0]))) (j) (.inr (8, [.ref a1, .ref (B + (n)), .ref (B + (n + 1)), .ref (B + (n + 2)), .ref (B + (n + 3)), .ref (B + (n + 4)), .ref (B + (n + 5)), .ref (B + (n + 6)), vi 0, vi 0, vi 0]))
def L0_RX6 (Z : ZT) (B n j : Nat) (E0 : Nat → va_E) (a1 : Nat) : Nat → Nat → va_E
  | 0 => P_RX6 Z B n j E0 a1
  | i + 1 => (fun E => uE E (n) (.inl (zC Z 6, 60, .inr (.inr (.inr (.inr (va_up (S_f Z i) i (some (zA Z 11 14))))))))) (L0_RX6 Z B n j E0 a1 i)
def E_RX6 (Z : ZT) (B n j : Nat) (E : Nat → va_E) (a1 : Nat) : Nat → va_E := L0_RX6 Z B n j E a1 60
theorem L0_RX6_old {Z : ZT} {B n j q a1 : Nat} {E : Nat → va_E} (h : q ≠ n) : ∀ i : Nat, L0_RX6 Z B n j E a1 i q = P_RX6 Z B n j E a1 q
  | 0 => rfl
  | i + 1 => (uE_ne h).trans (L0_RX6_old h i)
theorem E_RX6_old {Z : ZT} {B n j q a1 : Nat} {E : Nat → va_E} (h1 : q ≠ j) (h2 : q < n) : E_RX6 Z B n j E a1 q = E q := by
  refine (L0_RX6_old (by omega) 60).trans ?_
  simp only [P_RX6, uE_ne h1, uE]
  repeat (rw [if_neg (by omega)])
set_option maxRecDepth 20000 in
set_option maxHeartbeats 4000000 in
theorem C_RX6 (Z : ZT) (B : Nat) (H0 : Heap) (n j : Nat) (E0 : Nat → va_E) (a1 : Nat) (hzB : zB Z ≤ B) (hZ : zB Z = B ∧ zH Z = H0) (hj : j < n) (h_j : E0 j = .inr (8, [.null, .null, .null, .null, .null, .null, .null, .null, vi 0, vi 0, vi 0])) : RunsC Z yX6_init cX6_init 3 1 [.ref (B + j), .ref a1] 7 362 (CHp (zD Z) B H0 n E0) (CHp (zD Z) B H0 (n + 7) (E_RX6 Z B n j E0 a1)) := by
  refine RunsC.of (by decide +kernel) rfl (Nat.le_of_ble_eq_true rfl) ?_
  intro p l e s m args below meth c ls hfl b hH hr hlk hnm hl
  have hl : lv_has ls 3 [(0, .ref (B + j)), (1, .ref a1)] := hl
  have b : BB p s m args c RX6 cX6_init 3 Z := b
  obtain ⟨H, eH⟩ : ∃ z, z = s.heap := ⟨_, rfl⟩
  rw [← eH] at hH ⊢
  have hlo : ∀ q ∈ ([] : List Loc), zN Z q.base := fun q hq => by cases hq
  have lp0 : ∀ (d i : Nat) (E : Nat → va_E) (H : Heap) (locs : List Loc) (ls : Array Slot), i + d = 60 → E = (L0_RX6 Z B n j E0 a1) i → CHp (zD Z) B H0 (n + 7) E H → E (j) = .inr (8, [.ref a1, .ref (B + (n)), .ref (B + (n + 1)), .ref (B + (n + 2)), .ref (B + (n + 3)), .ref (B + (n + 4)), .ref (B + (n + 5)), .ref (B + (n + 6)), vi 0, vi 0, vi 0]) → E (n) = .inl (zC Z 6, 60, .inr (.inr (.inr (.inr (S_f Z i))))) → (∀ q ∈ locs, zN Z q.base) → lv_has ls 3 [(0, .ref (B + j)), (1, .ref a1), (2, vi ((i : Nat) : Int))] → W p l e (rmH 1 7 362) s m args below meth c H locs (7 + 0 * i) (362 + 0 * i) (MQ below (QcC (CHp (zD Z) B H0 (n + 7) (E_RX6 Z B n j E0 a1))) args s 7 362 (zN Z)) (F0 m 67 ls []) := by
    intro d
    induction d with
    | zero =>
      intro i E H locs ls hi hE hH h_j hA hlo hl
      refine lv_iload_n b.1 b.2.1 dX6_init_67 rfl (lv_at hl 2 rfl) ?_
      refine lv_bipush (v := Int32.ofInt 60) b.1 b.2.1 dX6_init_68 (by decide) ?_
      refine lv_icmp_ge (tgt := 88) b.1 b.2.1 dX6_init_70 (by decide) (fun c1 => ?_) (fun c1 => ?_)
      · obtain rfl : i = 60 := by omega
        refine ch_ret b hr hlk hlo ?_ (show _ ≤ (7 : Nat) by omega) (show _ ≤ (362 : Nat) by omega) dX6_init_88
        rw [hE] at hH
        exact hH
      · exact absurd ((w_le _ _).mpr (by rw [w32_of (by omega) (by omega), w32_of (by omega) (by omega)]; omega)) c1
    | succ d ih =>
      intro i E H locs ls hi hE hH h_j hA hlo hl
      refine lv_iload_n b.1 b.2.1 dX6_init_67 rfl (lv_at hl 2 rfl) ?_
      refine lv_bipush (v := Int32.ofInt 60) b.1 b.2.1 dX6_init_68 (by decide) ?_
      refine lv_icmp_ge (tgt := 88) b.1 b.2.1 dX6_init_70 (by decide) (fun c1 => ?_) (fun c1 => ?_)
      · exact absurd (show w32 ((i : Nat) : Int) < w32 60 by rw [w32_of (by omega) (by omega), w32_of (by omega) (by omega)]; omega) ((w_le _ _).mp c1)
      · skip
        refine lv_aload_n b.1 b.2.1 dX6_init_73 rfl (lv_at hl 0 rfl) ?_
        refine ch_get (k := 1) (j := j) b hH (by omega) h_j rfl in_8 (by decide) rfl rfl (li_2 1 (by decide +kernel) (by decide +kernel)) dX6_init_74 ?_
        refine lv_iload_n b.1 b.2.1 dX6_init_77 rfl (lv_at hl 2 rfl) ?_
        refine ch_gets b hZ hH (fun U h => sta_word 14 (by decide) U h) (li_1 238 (by decide +kernel) (by decide +kernel)) dX6_init_78 ?_
        refine ch_wast (w := 14) (N' := 60) (x' := ((i : Nat) : Int)) (j := n) b hZ hH (by omega) hA (by decide) (w32_of (by omega) (by omega)) (by omega) hlo dX6_init_81 (fun H locs hH hlo => ?_)
        obtain ⟨E101, e101, hH⟩ : ∃ z, z = uE E (n) (.inl (zC Z 6, 60, .inr (.inr (.inr (.inr (va_up (S_f Z i) i (some (zA Z 11 14)))))))) ∧ CHp (zD Z) B H0 (n + 7) z H := ⟨_, rfl, hH⟩
        have h_j : E101 (j) = .inr (8, [.ref a1, .ref (B + (n)), .ref (B + (n + 1)), .ref (B + (n + 2)), .ref (B + (n + 3)), .ref (B + (n + 4)), .ref (B + (n + 5)), .ref (B + (n + 6)), vi 0, vi 0, vi 0]) := by rw [e101]; exact (uE_ne (by omega)).trans h_j
        have hA : E101 (n) = .inl (zC Z 6, 60, .inr (.inr (.inr (.inr (va_up (S_f Z i) i (some (zA Z 11 14))))))) := by rw [e101]; exact uE_self _ _ _
        refine lv_iinc (v := Int32.ofInt (((i : Nat) : Int) + 1)) (lv' := [(2, vi (((i : Nat) : Int) + 1)), (0, .ref (B + j)), (1, .ref a1)]) b.1 b.2.1 dX6_init_82 hl (k := 2) rfl (i_add _ _) (by decide) rfl (fun ls hl => ?_)
        refine lv_goto (tgt := 67) b.1 b.2.1 dX6_init_85 (by decide) ?_
        refine W.widen (k := 7 + 0 * (i + 1)) (n := 362 + 0 * (i + 1)) (by omega) (by omega) ?_
        exact ih (i + 1) E101 H locs ls (by omega) (by subst e101; rw [hE]; rfl) (by rw [show n + 7 = n + 7 by omega]; exact hH) h_j hA hlo (lv_sub hl [1, 2, 0] rfl)
  obtain ⟨E, eE⟩ : ∃ z, z = E0 := ⟨_, rfl⟩
  rw [← eE] at h_j hH
  refine lv_aload_n b.1 b.2.1 dX6_init_0 rfl (lv_at hl 0 rfl) ?_
  refine ch_obj b hl.1 (li_1 235 (by decide +kernel) (by decide +kernel)) (Nat.le_of_ble_eq_true rfl) (Nat.le_of_ble_eq_true rfl) dX6_init_1 ?_
  refine lv_aload_n b.1 b.2.1 dX6_init_4 rfl (lv_at hl 0 rfl) ?_
  refine lv_bipush (v := Int32.ofInt 60) b.1 b.2.1 dX6_init_5 (by decide) ?_
  refine ch_newq (t0 := 6) (N' := 60) b hH (li_1 236 (by decide +kernel) (by decide +kernel)) (by decide) rfl (by decide) (Nat.le_of_ble_eq_true rfl) (show _ ≤ (7 : Nat) by omega) (show _ ≤ (362 : Nat) by omega) dX6_init_7 (fun H hH => ?_)
  obtain ⟨E1, e1, hH⟩ : ∃ z, z = uE E (n) (.inl (zC Z 6, 60, .inr (.inr (.inr (.inr fun _ => none))))) ∧ CHp (zD Z) B H0 (n + 1) z H := ⟨_, rfl, hH⟩
  have h_j : E1 (j) = .inr (8, [.null, .null, .null, .null, .null, .null, .null, .null, vi 0, vi 0, vi 0]) := by rw [e1]; exact (uE_ne (by omega)).trans h_j
  have hA : E1 (n) = .inl (zC Z 6, 60, .inr (.inr (.inr (.inr fun _ => none)))) := by rw [e1]; exact uE_self _ _ _
  refine ch_putG (k := 1) (j := j) (ty0 := tyX6) (fin := true) b hH (by omega) h_j rfl in_8 tyX6_ok nmX6 (by decide) rfl (Nat.le_of_ble_eq_true rfl) rfl rfl hnm rfl hlo hzB (li_2 1 (by decide +kernel) (by decide +kernel)) dX6_init_10 (fun H locs hH hlo => ?_)
  obtain ⟨E2, e2, hH⟩ : ∃ z, z = uE E1 (j) (.inr (8, [.null, .ref (B + (n)), .null, .null, .null, .null, .null, .null, vi 0, vi 0, vi 0])) ∧ CHp (zD Z) B H0 (n + 1) z H := ⟨_, rfl, hH⟩
  have hA : E2 (n) = .inl (zC Z 6, 60, .inr (.inr (.inr (.inr fun _ => none)))) := by rw [e2]; exact (uE_ne (by omega)).trans hA
  have h_j : E2 (j) = .inr (8, [.null, .ref (B + (n)), .null, .null, .null, .null, .null, .null, vi 0, vi 0, vi 0]) := by rw [e2]; exact uE_self _ _ _
  refine lv_aload_n b.1 b.2.1 dX6_init_13 rfl (lv_at hl 0 rfl) ?_
  refine lv_bipush (v := Int32.ofInt 60) b.1 b.2.1 dX6_init_14 (by decide) ?_
  refine ch_newa (atype := .int) (ty := .int) (cA := zC Z 0) (t0 := 0) (N' := 60) b hH (li_1 57 (by decide +kernel) (by decide +kernel)) rfl rfl (fun _ h => h) rfl (by decide) (Nat.le_of_ble_eq_true rfl) (show _ ≤ (7 : Nat) by omega) (show _ ≤ (362 : Nat) by omega) dX6_init_16 (fun H hH => ?_)
  obtain ⟨E3, e3, hH⟩ : ∃ z, z = uE E2 (n + 1) (arI (zC Z 0) 60 (fun _ => 0)) ∧ CHp (zD Z) B H0 (n + 2) z H := ⟨_, rfl, hH⟩
  have h_j : E3 (j) = .inr (8, [.null, .ref (B + (n)), .null, .null, .null, .null, .null, .null, vi 0, vi 0, vi 0]) := by rw [e3]; exact (uE_ne (by omega)).trans h_j
  have hA : E3 (n) = .inl (zC Z 6, 60, .inr (.inr (.inr (.inr fun _ => none)))) := by rw [e3]; exact (uE_ne (by omega)).trans hA
  refine ch_putG (k := 2) (j := j) (ty0 := tyX6) (fin := true) b hH (by omega) h_j rfl in_8 tyX6_ok nmX6 (by decide) rfl (Nat.le_of_ble_eq_true rfl) rfl rfl hnm rfl hlo hzB (li_2 2 (by decide +kernel) (by decide +kernel)) dX6_init_18 (fun H locs hH hlo => ?_)
  obtain ⟨E4, e4, hH⟩ : ∃ z, z = uE E3 (j) (.inr (8, [.null, .ref (B + (n)), .ref (B + (n + 1)), .null, .null, .null, .null, .null, vi 0, vi 0, vi 0])) ∧ CHp (zD Z) B H0 (n + 2) z H := ⟨_, rfl, hH⟩
  have hA : E4 (n) = .inl (zC Z 6, 60, .inr (.inr (.inr (.inr fun _ => none)))) := by rw [e4]; exact (uE_ne (by omega)).trans hA
  have h_j : E4 (j) = .inr (8, [.null, .ref (B + (n)), .ref (B + (n + 1)), .null, .null, .null, .null, .null, vi 0, vi 0, vi 0]) := by rw [e4]; exact uE_self _ _ _
  refine lv_aload_n b.1 b.2.1 dX6_init_21 rfl (lv_at hl 0 rfl) ?_
  refine lv_bipush (v := Int32.ofInt 60) b.1 b.2.1 dX6_init_22 (by decide) ?_
  refine ch_newa (atype := .int) (ty := .int) (cA := zC Z 0) (t0 := 0) (N' := 60) b hH (li_1 57 (by decide +kernel) (by decide +kernel)) rfl rfl (fun _ h => h) rfl (by decide) (Nat.le_of_ble_eq_true rfl) (show _ ≤ (7 : Nat) by omega) (show _ ≤ (362 : Nat) by omega) dX6_init_24 (fun H hH => ?_)
  obtain ⟨E5, e5, hH⟩ : ∃ z, z = uE E4 (n + 2) (arI (zC Z 0) 60 (fun _ => 0)) ∧ CHp (zD Z) B H0 (n + 3) z H := ⟨_, rfl, hH⟩
  have h_j : E5 (j) = .inr (8, [.null, .ref (B + (n)), .ref (B + (n + 1)), .null, .null, .null, .null, .null, vi 0, vi 0, vi 0]) := by rw [e5]; exact (uE_ne (by omega)).trans h_j
  have hA : E5 (n) = .inl (zC Z 6, 60, .inr (.inr (.inr (.inr fun _ => none)))) := by rw [e5]; exact (uE_ne (by omega)).trans hA
  refine ch_putG (k := 3) (j := j) (ty0 := tyX6) (fin := true) b hH (by omega) h_j rfl in_8 tyX6_ok nmX6 (by decide) rfl (Nat.le_of_ble_eq_true rfl) rfl rfl hnm rfl hlo hzB (li_2 3 (by decide +kernel) (by decide +kernel)) dX6_init_26 (fun H locs hH hlo => ?_)
  obtain ⟨E6, e6, hH⟩ : ∃ z, z = uE E5 (j) (.inr (8, [.null, .ref (B + (n)), .ref (B + (n + 1)), .ref (B + (n + 2)), .null, .null, .null, .null, vi 0, vi 0, vi 0])) ∧ CHp (zD Z) B H0 (n + 3) z H := ⟨_, rfl, hH⟩
  have hA : E6 (n) = .inl (zC Z 6, 60, .inr (.inr (.inr (.inr fun _ => none)))) := by rw [e6]; exact (uE_ne (by omega)).trans hA
  have h_j : E6 (j) = .inr (8, [.null, .ref (B + (n)), .ref (B + (n + 1)), .ref (B + (n + 2)), .null, .null, .null, .null, vi 0, vi 0, vi 0]) := by rw [e6]; exact uE_self _ _ _
  refine lv_aload_n b.1 b.2.1 dX6_init_29 rfl (lv_at hl 0 rfl) ?_
  refine lv_bipush (v := Int32.ofInt 60) b.1 b.2.1 dX6_init_30 (by decide) ?_
  refine ch_newa (atype := .int) (ty := .int) (cA := zC Z 0) (t0 := 0) (N' := 60) b hH (li_1 57 (by decide +kernel) (by decide +kernel)) rfl rfl (fun _ h => h) rfl (by decide) (Nat.le_of_ble_eq_true rfl) (show _ ≤ (7 : Nat) by omega) (show _ ≤ (362 : Nat) by omega) dX6_init_32 (fun H hH => ?_)
  obtain ⟨E7, e7, hH⟩ : ∃ z, z = uE E6 (n + 3) (arI (zC Z 0) 60 (fun _ => 0)) ∧ CHp (zD Z) B H0 (n + 4) z H := ⟨_, rfl, hH⟩
  have h_j : E7 (j) = .inr (8, [.null, .ref (B + (n)), .ref (B + (n + 1)), .ref (B + (n + 2)), .null, .null, .null, .null, vi 0, vi 0, vi 0]) := by rw [e7]; exact (uE_ne (by omega)).trans h_j
  have hA : E7 (n) = .inl (zC Z 6, 60, .inr (.inr (.inr (.inr fun _ => none)))) := by rw [e7]; exact (uE_ne (by omega)).trans hA
  refine ch_putG (k := 4) (j := j) (ty0 := tyX6) (fin := true) b hH (by omega) h_j rfl in_8 tyX6_ok nmX6 (by decide) rfl (Nat.le_of_ble_eq_true rfl) rfl rfl hnm rfl hlo hzB (li_2 4 (by decide +kernel) (by decide +kernel)) dX6_init_34 (fun H locs hH hlo => ?_)
  obtain ⟨E8, e8, hH⟩ : ∃ z, z = uE E7 (j) (.inr (8, [.null, .ref (B + (n)), .ref (B + (n + 1)), .ref (B + (n + 2)), .ref (B + (n + 3)), .null, .null, .null, vi 0, vi 0, vi 0])) ∧ CHp (zD Z) B H0 (n + 4) z H := ⟨_, rfl, hH⟩
  have hA : E8 (n) = .inl (zC Z 6, 60, .inr (.inr (.inr (.inr fun _ => none)))) := by rw [e8]; exact (uE_ne (by omega)).trans hA
  have h_j : E8 (j) = .inr (8, [.null, .ref (B + (n)), .ref (B + (n + 1)), .ref (B + (n + 2)), .ref (B + (n + 3)), .null, .null, .null, vi 0, vi 0, vi 0]) := by rw [e8]; exact uE_self _ _ _
  refine lv_aload_n b.1 b.2.1 dX6_init_37 rfl (lv_at hl 0 rfl) ?_
  refine lv_bipush (v := Int32.ofInt 60) b.1 b.2.1 dX6_init_38 (by decide) ?_
  refine ch_newa (atype := .int) (ty := .int) (cA := zC Z 0) (t0 := 0) (N' := 60) b hH (li_1 57 (by decide +kernel) (by decide +kernel)) rfl rfl (fun _ h => h) rfl (by decide) (Nat.le_of_ble_eq_true rfl) (show _ ≤ (7 : Nat) by omega) (show _ ≤ (362 : Nat) by omega) dX6_init_40 (fun H hH => ?_)
  obtain ⟨E9, e9, hH⟩ : ∃ z, z = uE E8 (n + 4) (arI (zC Z 0) 60 (fun _ => 0)) ∧ CHp (zD Z) B H0 (n + 5) z H := ⟨_, rfl, hH⟩
  have h_j : E9 (j) = .inr (8, [.null, .ref (B + (n)), .ref (B + (n + 1)), .ref (B + (n + 2)), .ref (B + (n + 3)), .null, .null, .null, vi 0, vi 0, vi 0]) := by rw [e9]; exact (uE_ne (by omega)).trans h_j
  have hA : E9 (n) = .inl (zC Z 6, 60, .inr (.inr (.inr (.inr fun _ => none)))) := by rw [e9]; exact (uE_ne (by omega)).trans hA
  refine ch_putG (k := 5) (j := j) (ty0 := tyX6) (fin := true) b hH (by omega) h_j rfl in_8 tyX6_ok nmX6 (by decide) rfl (Nat.le_of_ble_eq_true rfl) rfl rfl hnm rfl hlo hzB (li_2 5 (by decide +kernel) (by decide +kernel)) dX6_init_42 (fun H locs hH hlo => ?_)
  obtain ⟨E10, e10, hH⟩ : ∃ z, z = uE E9 (j) (.inr (8, [.null, .ref (B + (n)), .ref (B + (n + 1)), .ref (B + (n + 2)), .ref (B + (n + 3)), .ref (B + (n + 4)), .null, .null, vi 0, vi 0, vi 0])) ∧ CHp (zD Z) B H0 (n + 5) z H := ⟨_, rfl, hH⟩
  have hA : E10 (n) = .inl (zC Z 6, 60, .inr (.inr (.inr (.inr fun _ => none)))) := by rw [e10]; exact (uE_ne (by omega)).trans hA
  have h_j : E10 (j) = .inr (8, [.null, .ref (B + (n)), .ref (B + (n + 1)), .ref (B + (n + 2)), .ref (B + (n + 3)), .ref (B + (n + 4)), .null, .null, vi 0, vi 0, vi 0]) := by rw [e10]; exact uE_self _ _ _
  refine lv_aload_n b.1 b.2.1 dX6_init_45 rfl (lv_at hl 0 rfl) ?_
  refine lv_bipush (v := Int32.ofInt 60) b.1 b.2.1 dX6_init_46 (by decide) ?_
  refine ch_newa (atype := .int) (ty := .int) (cA := zC Z 0) (t0 := 0) (N' := 60) b hH (li_1 57 (by decide +kernel) (by decide +kernel)) rfl rfl (fun _ h => h) rfl (by decide) (Nat.le_of_ble_eq_true rfl) (show _ ≤ (7 : Nat) by omega) (show _ ≤ (362 : Nat) by omega) dX6_init_48 (fun H hH => ?_)
  obtain ⟨E11, e11, hH⟩ : ∃ z, z = uE E10 (n + 5) (arI (zC Z 0) 60 (fun _ => 0)) ∧ CHp (zD Z) B H0 (n + 6) z H := ⟨_, rfl, hH⟩
  have h_j : E11 (j) = .inr (8, [.null, .ref (B + (n)), .ref (B + (n + 1)), .ref (B + (n + 2)), .ref (B + (n + 3)), .ref (B + (n + 4)), .null, .null, vi 0, vi 0, vi 0]) := by rw [e11]; exact (uE_ne (by omega)).trans h_j
  have hA : E11 (n) = .inl (zC Z 6, 60, .inr (.inr (.inr (.inr fun _ => none)))) := by rw [e11]; exact (uE_ne (by omega)).trans hA
  refine ch_putG (k := 6) (j := j) (ty0 := tyX6) (fin := true) b hH (by omega) h_j rfl in_8 tyX6_ok nmX6 (by decide) rfl (Nat.le_of_ble_eq_true rfl) rfl rfl hnm rfl hlo hzB (li_2 6 (by decide +kernel) (by decide +kernel)) dX6_init_50 (fun H locs hH hlo => ?_)
  obtain ⟨E12, e12, hH⟩ : ∃ z, z = uE E11 (j) (.inr (8, [.null, .ref (B + (n)), .ref (B + (n + 1)), .ref (B + (n + 2)), .ref (B + (n + 3)), .ref (B + (n + 4)), .ref (B + (n + 5)), .null, vi 0, vi 0, vi 0])) ∧ CHp (zD Z) B H0 (n + 6) z H := ⟨_, rfl, hH⟩
  have hA : E12 (n) = .inl (zC Z 6, 60, .inr (.inr (.inr (.inr fun _ => none)))) := by rw [e12]; exact (uE_ne (by omega)).trans hA
  have h_j : E12 (j) = .inr (8, [.null, .ref (B + (n)), .ref (B + (n + 1)), .ref (B + (n + 2)), .ref (B + (n + 3)), .ref (B + (n + 4)), .ref (B + (n + 5)), .null, vi 0, vi 0, vi 0]) := by rw [e12]; exact uE_self _ _ _
  refine lv_aload_n b.1 b.2.1 dX6_init_53 rfl (lv_at hl 0 rfl) ?_
  refine lv_iconst (v := Int32.ofInt 2) b.1 b.2.1 dX6_init_54 rfl ?_
  refine ch_newa (atype := .int) (ty := .int) (cA := zC Z 0) (t0 := 0) (N' := 2) b hH (li_1 57 (by decide +kernel) (by decide +kernel)) rfl rfl (fun _ h => h) rfl (by decide) (Nat.le_of_ble_eq_true rfl) (show _ ≤ (7 : Nat) by omega) (show _ ≤ (362 : Nat) by omega) dX6_init_55 (fun H hH => ?_)
  obtain ⟨E13, e13, hH⟩ : ∃ z, z = uE E12 (n + 6) (arI (zC Z 0) 2 (fun _ => 0)) ∧ CHp (zD Z) B H0 (n + 7) z H := ⟨_, rfl, hH⟩
  have h_j : E13 (j) = .inr (8, [.null, .ref (B + (n)), .ref (B + (n + 1)), .ref (B + (n + 2)), .ref (B + (n + 3)), .ref (B + (n + 4)), .ref (B + (n + 5)), .null, vi 0, vi 0, vi 0]) := by rw [e13]; exact (uE_ne (by omega)).trans h_j
  have hA : E13 (n) = .inl (zC Z 6, 60, .inr (.inr (.inr (.inr fun _ => none)))) := by rw [e13]; exact (uE_ne (by omega)).trans hA
  refine ch_putG (k := 7) (j := j) (ty0 := tyX6) (fin := true) b hH (by omega) h_j rfl in_8 tyX6_ok nmX6 (by decide) rfl (Nat.le_of_ble_eq_true rfl) rfl rfl hnm rfl hlo hzB (li_2 7 (by decide +kernel) (by decide +kernel)) dX6_init_57 (fun H locs hH hlo => ?_)
  obtain ⟨E14, e14, hH⟩ : ∃ z, z = uE E13 (j) (.inr (8, [.null, .ref (B + (n)), .ref (B + (n + 1)), .ref (B + (n + 2)), .ref (B + (n + 3)), .ref (B + (n + 4)), .ref (B + (n + 5)), .ref (B + (n + 6)), vi 0, vi 0, vi 0])) ∧ CHp (zD Z) B H0 (n + 7) z H := ⟨_, rfl, hH⟩
  have hA : E14 (n) = .inl (zC Z 6, 60, .inr (.inr (.inr (.inr fun _ => none)))) := by rw [e14]; exact (uE_ne (by omega)).trans hA
  have h_j : E14 (j) = .inr (8, [.null, .ref (B + (n)), .ref (B + (n + 1)), .ref (B + (n + 2)), .ref (B + (n + 3)), .ref (B + (n + 4)), .ref (B + (n + 5)), .ref (B + (n + 6)), vi 0, vi 0, vi 0]) := by rw [e14]; exact uE_self _ _ _
  refine lv_aload_n b.1 b.2.1 dX6_init_60 rfl (lv_at hl 0 rfl) ?_
  refine lv_aload_n b.1 b.2.1 dX6_init_61 rfl (lv_at hl 1 rfl) ?_
  refine ch_putG (k := 0) (j := j) (ty0 := tyX6) (fin := true) b hH (by omega) h_j rfl in_8 tyX6_ok nmX6 (by decide) rfl (Nat.le_of_ble_eq_true rfl) rfl rfl hnm rfl hlo hzB (li_2 0 (by decide +kernel) (by decide +kernel)) dX6_init_62 (fun H locs hH hlo => ?_)
  obtain ⟨E15, e15, hH⟩ : ∃ z, z = uE E14 (j) (.inr (8, [.ref a1, .ref (B + (n)), .ref (B + (n + 1)), .ref (B + (n + 2)), .ref (B + (n + 3)), .ref (B + (n + 4)), .ref (B + (n + 5)), .ref (B + (n + 6)), vi 0, vi 0, vi 0])) ∧ CHp (zD Z) B H0 (n + 7) z H := ⟨_, rfl, hH⟩
  have hA : E15 (n) = .inl (zC Z 6, 60, .inr (.inr (.inr (.inr fun _ => none)))) := by rw [e15]; exact (uE_ne (by omega)).trans hA
  have h_j : E15 (j) = .inr (8, [.ref a1, .ref (B + (n)), .ref (B + (n + 1)), .ref (B + (n + 2)), .ref (B + (n + 3)), .ref (B + (n + 4)), .ref (B + (n + 5)), .ref (B + (n + 6)), vi 0, vi 0, vi 0]) := by rw [e15]; exact uE_self _ _ _
  refine lv_iconst (v := Int32.ofInt 0) b.1 b.2.1 dX6_init_65 rfl ?_
  refine lv_istore_n (lv' := [(2, vi 0), (0, .ref (B + j)), (1, .ref a1)]) b.1 b.2.1 dX6_init_66 rfl hl (by decide) rfl (fun ls hl => ?_)
  refine W.widen (k := 7 + 0 * 0) (n := 362 + 0 * 0) (by omega) (by omega) ?_
  exact lp0 60 0 E15 H locs ls (by omega) (by subst e1 e2 e3 e4 e5 e6 e7 e8 e9 e10 e11 e12 e13 e14 e15 eE; rfl) hH h_j hA hlo (lv_sub hl [1, 2, 0] rfl)
def G_f (B n : Nat) : Nat → Nat → Option Nat
  | 0 => fun _ => none
  | i + 1 => va_up (G_f B n i) i (some (B + (n + 9 + 2 * i)))
def P_RX1 (Z : ZT) (B n j : Nat) (E : Nat → va_E) : Nat → va_E := uE (uE (uE (uE (uE (uE (uE (E_RX5 Z B (n + 6) (n + 5) (uE (uE (uE (uE (E_RX5 Z B (n + 3) (n + 2) (uE (uE (E_RX5 Z B (n + 1) (n) (uE E (n) (.inr (2, [.null, vi 0]))) ) (j) (.inr (1, [.ref (B + (n)), .null, .null, .null, .null, .null, vi 0, vi 0, vi 0, vi 0]))) (n + 2) (.inr (2, [.null, vi 0]))) ) (j) (.inr (1, [.ref (B + (n)), .ref (B + (n + 2)), .null, .null, .null, .null, vi 0, vi 0, vi 0, vi 0]))) (n + 4) (.inl (zC Z 4, 40, .inr (.inr (.inr (.inr fun _ => none)))))) (j) (.inr (1, [.ref (B + (n)), .ref (B + (n + 2)), .ref (B + (n + 4)), .null, .null, .null, vi 0, vi 0, vi 0, vi 0]))) (n + 5) (.inr (2, [.null, vi 0]))) ) (j) (.inr (1, [.ref (B + (n)), .ref (B + (n + 2)), .ref (B + (n + 4)), .ref (B + (n + 5)), .null, .null, vi 0, vi 0, vi 0, vi 0]))) (n + 7) (arI (zC Z 0) 40 (fun _ => 0))) (j) (.inr (1, [.ref (B + (n)), .ref (B + (n + 2)), .ref (B + (n + 4)), .ref (B + (n + 5)), .ref (B + (n + 7)), .null, vi 0, vi 0, vi 0, vi 0]))) (n + 8) (arI (zC Z 0) 9 (fun _ => 0))) (j) (.inr (1, [.ref (B + (n)), .ref (B + (n + 2)), .ref (B + (n + 4)), .ref (B + (n + 5)), .ref (B + (n + 7)), .ref (B + (n + 8)), vi 0, vi 0, vi 0, vi 0]))) (j) (.inr (1, [.ref (B + (n)), .ref (B + (n + 2)), .ref (B + (n + 4)), .ref (B + (n + 5)), .ref (B + (n + 7)), .ref (B + (n + 8)), vi 2, vi 0, vi 0, vi 0]))) (j) (.inr (1, [.ref (B + (n)), .ref (B + (n + 2)), .ref (B + (n + 4)), .ref (B + (n + 5)), .ref (B + (n + 7)), .ref (B + (n + 8)), vi 2, vi 0, vi 1, vi 0]))
def L0_RX1 (Z : ZT) (B n j : Nat) (E0 : Nat → va_E) : Nat → Nat → va_E
  | 0 => P_RX1 Z B n j E0
  | i + 1 => (fun E => uE (E_RX5 Z B (n + 9 + 2 * i + 1) (n + 9 + 2 * i) (uE E (n + 9 + 2 * i) (.inr (2, [.null, vi 0]))) ) (n + 4) (.inl (zC Z 4, 40, .inr (.inr (.inr (.inr (va_up (G_f B n i) i (some (B + (n + 9 + 2 * i)))))))))) (L0_RX1 Z B n j E0 i)
def E_RX1 (Z : ZT) (B n j : Nat) (E : Nat → va_E) : Nat → va_E := L0_RX1 Z B n j E 40
theorem L0_RX1_old {Z : ZT} {B n j q : Nat} {E : Nat → va_E} (h1 : q ≠ n + 4) : ∀ i : Nat, q < n + 9 → L0_RX1 Z B n j E i q = P_RX1 Z B n j E q
  | 0, _ => rfl
  | i + 1, h2 => by
    refine (uE_ne h1).trans ((E_RX5_old (by omega) (by omega)).trans ((uE_ne (by omega)).trans (L0_RX1_old h1 i h2)))
theorem E_RX1_old {Z : ZT} {B n j q : Nat} {E : Nat → va_E} (h1 : q ≠ j) (h2 : q < n) : E_RX1 Z B n j E q = E q := by
  refine (L0_RX1_old (by omega) 40 (by omega)).trans ?_
  simp only [P_RX1, E_RX5, uE_ne h1, uE]
  repeat (rw [if_neg (by omega)])
def gObj (Z : ZT) (B n : Nat) : va_E := .inr (1, [.ref (B + (n)), .ref (B + (n + 2)), .ref (B + (n + 4)), .ref (B + (n + 5)), .ref (B + (n + 7)), .ref (B + (n + 8)), vi 2, vi 0, vi 1, vi 0])
theorem E_RX1_self {Z : ZT} {B n j : Nat} {E : Nat → va_E} (hj : j < n) : E_RX1 Z B n j E j = gObj Z B n := by
  refine (L0_RX1_old (by omega) 40 (by omega)).trans ?_
  exact uE_self _ _ _
set_option maxRecDepth 20000 in
set_option maxHeartbeats 4000000 in
theorem C_RX1 (Z : ZT) (B : Nat) (H0 : Heap) (n j : Nat) (E0 : Nat → va_E) (hzB : zB Z ≤ B) (hj : j < n) (h_j : E0 j = .inr (1, [.null, .null, .null, .null, .null, .null, vi 0, vi 0, vi 0, vi 0])) : RunsC Z yX1_init cX1_init 2 2 [.ref (B + j)] 89 175 (CHp (zD Z) B H0 n E0) (CHp (zD Z) B H0 (n + 89) (E_RX1 Z B n j E0)) := by
  refine RunsC.of (by decide +kernel) rfl (Nat.le_of_ble_eq_true rfl) ?_
  intro p l e s m args below meth c ls hfl b hH hr hlk hnm hl
  have hl : lv_has ls 2 [(0, .ref (B + j))] := hl
  have b : BB p s m args c RX1 cX1_init 2 Z := b
  obtain ⟨H, eH⟩ : ∃ z, z = s.heap := ⟨_, rfl⟩
  rw [← eH] at hH ⊢
  have hlo : ∀ q ∈ ([] : List Loc), zN Z q.base := fun q hq => by cases hq
  have lp0 : ∀ (d i : Nat) (E : Nat → va_E) (H : Heap) (locs : List Loc) (ls : Array Slot), i + d = 40 → E = (L0_RX1 Z B n j E0) i → CHp (zD Z) B H0 (n + 9 + 2 * i) E H → E (j) = .inr (1, [.ref (B + (n)), .ref (B + (n + 2)), .ref (B + (n + 4)), .ref (B + (n + 5)), .ref (B + (n + 7)), .ref (B + (n + 8)), vi 2, vi 0, vi 1, vi 0]) → E (n + 4) = .inl (zC Z 4, 40, .inr (.inr (.inr (.inr (G_f B n i))))) → (∀ q ∈ locs, zN Z q.base) → lv_has ls 2 [(0, .ref (B + j)), (1, vi ((i : Nat) : Int))] → W p l e (rmH 2 89 175) s m args below meth c H locs (9 + 2 * i) (95 + 2 * i) (MQ below (QcC (CHp (zD Z) B H0 (n + 89) (E_RX1 Z B n j E0))) args s 89 175 (zN Z)) (F0 m 74 ls []) := by
    intro d
    induction d with
    | zero =>
      intro i E H locs ls hi hE hH h_j hA hlo hl
      refine lv_iload_n b.1 b.2.1 dX1_init_74 rfl (lv_at hl 1 rfl) ?_
      refine lv_bipush (v := Int32.ofInt 40) b.1 b.2.1 dX1_init_75 (by decide) ?_
      refine lv_icmp_ge (tgt := 99) b.1 b.2.1 dX1_init_77 (by decide) (fun c1 => ?_) (fun c1 => ?_)
      · obtain rfl : i = 40 := by omega
        refine ch_ret b hr hlk hlo ?_ (show _ ≤ (89 : Nat) by omega) (show _ ≤ (175 : Nat) by omega) dX1_init_99
        rw [hE] at hH
        exact hH
      · exact absurd ((w_le _ _).mpr (by rw [w32_of (by omega) (by omega), w32_of (by omega) (by omega)]; omega)) c1
    | succ d ih =>
      intro i E H locs ls hi hE hH h_j hA hlo hl
      refine lv_iload_n b.1 b.2.1 dX1_init_74 rfl (lv_at hl 1 rfl) ?_
      refine lv_bipush (v := Int32.ofInt 40) b.1 b.2.1 dX1_init_75 (by decide) ?_
      refine lv_icmp_ge (tgt := 99) b.1 b.2.1 dX1_init_77 (by decide) (fun c1 => ?_) (fun c1 => ?_)
      · exact absurd (show w32 ((i : Nat) : Int) < w32 40 by rw [w32_of (by omega) (by omega), w32_of (by omega) (by omega)]; omega) ((w_le _ _).mp c1)
      · skip
        refine lv_aload_n b.1 b.2.1 dX1_init_80 rfl (lv_at hl 0 rfl) ?_
        refine ch_get (k := 2) (j := j) b hH (by omega) h_j rfl in_1 (by decide) rfl rfl (li_1 61 (by decide +kernel) (by decide +kernel)) dX1_init_81 ?_
        refine lv_iload_n b.1 b.2.1 dX1_init_84 rfl (lv_at hl 1 rfl) ?_
        refine ch_new (ci := 2) tyX5 [.null, vi 0] b hH in_2 tyX5_ok (li_1 44 (by decide +kernel) (by decide +kernel)) (li_1 45 (by decide +kernel) (by decide +kernel)) (li_1 3 (by decide +kernel) (by decide +kernel)) rfl (fun j hj => by rcases (show j = 0 ∨ j = 1 by omega) with rfl | rfl <;> rfl) (show _ ≤ (89 : Nat) by omega) (show _ ≤ (175 : Nat) by omega) dX1_init_85 (fun H hH => ?_)
        obtain ⟨E101, e101, hH⟩ : ∃ z, z = uE E (n + 9 + 2 * i) (.inr (2, [.null, vi 0])) ∧ CHp (zD Z) B H0 (n + 9 + 2 * i + 1) z H := ⟨_, rfl, hH⟩
        have h_j : E101 (j) = .inr (1, [.ref (B + (n)), .ref (B + (n + 2)), .ref (B + (n + 4)), .ref (B + (n + 5)), .ref (B + (n + 7)), .ref (B + (n + 8)), vi 2, vi 0, vi 1, vi 0]) := by rw [e101]; exact (uE_ne (by omega)).trans h_j
        have hA : E101 (n + 4) = .inl (zC Z 4, 40, .inr (.inr (.inr (.inr (G_f B n i))))) := by rw [e101]; exact (uE_ne (by omega)).trans hA
        have hn4 : E101 (n + 9 + 2 * i) = .inr (2, [.null, vi 0]) := by rw [e101]; exact uE_self _ _ _
        refine lv_dup b.1 b.2.1 dX1_init_88 rfl ?_
        refine ch_callN (y' := yX5_init) (cc' := cX5_init) (maxL' := 1) (h' := 1) (nA := 0) (a := B + (n + 9 + 2 * i)) (As := []) (rest := [.ref (B + (n + 9 + 2 * i)), vi ((i : Nat) : Int), .ref (B + (n + 4))]) (host := "PairRules") b hl.1 (C_RX5 Z B H0 (n + 9 + 2 * i + 1) (n + 9 + 2 * i) E101 hzB (by omega) hn4) hH hfl (li_1 48 (by decide +kernel) (by decide +kernel)) (nw_in 183 (by decide +kernel) (by decide +kernel)) (li_1 47 (by decide +kernel) (by decide +kernel)) (li_1 3 (by decide +kernel) (by decide +kernel)) rfl (by decide +kernel) rfl rfl ⟨Nat.le_of_ble_eq_true rfl, Nat.le_of_ble_eq_true rfl⟩ (Nat.le_of_ble_eq_true rfl) ⟨show _ ≤ (89 : Nat) by omega, show _ ≤ (175 : Nat) by omega⟩ hlo dX1_init_89 (fun H locs hH hlo => ?_)
        obtain ⟨E102, e102, hH⟩ : ∃ z, z = E_RX5 Z B (n + 9 + 2 * i + 1) (n + 9 + 2 * i) E101  ∧ CHp (zD Z) B H0 (n + 9 + 2 * i + 2) z H := ⟨_, rfl, hH⟩
        have h_j : E102 (j) = .inr (1, [.ref (B + (n)), .ref (B + (n + 2)), .ref (B + (n + 4)), .ref (B + (n + 5)), .ref (B + (n + 7)), .ref (B + (n + 8)), vi 2, vi 0, vi 1, vi 0]) := by rw [e102]; exact (E_RX5_old (by omega) (by omega)).trans h_j
        have hA : E102 (n + 4) = .inl (zC Z 4, 40, .inr (.inr (.inr (.inr (G_f B n i))))) := by rw [e102]; exact (E_RX5_old (by omega) (by omega)).trans hA
        have hx1 : E102 (n + 9 + 2 * i) = .inr (2, [.ref (B + (n + 9 + 2 * i + 1)), vi 0]) := by rw [e102]; exact E_RX5_self
        refine ch_aast (t0 := 4) (ci := 2) (N' := 40) (x' := ((i : Nat) : Int)) (j := n + 4) (j2 := n + 9 + 2 * i) b hH (by omega) hA (by omega) hx1 rfl rfl (w32_of (by omega) (by omega)) (by omega) hlo hzB dX1_init_92 (fun H locs hH hlo => ?_)
        obtain ⟨E103, e103, hH⟩ : ∃ z, z = uE E102 (n + 4) (.inl (zC Z 4, 40, .inr (.inr (.inr (.inr (va_up (G_f B n i) i (some (B + (n + 9 + 2 * i))))))))) ∧ CHp (zD Z) B H0 (n + 9 + 2 * i + 2) z H := ⟨_, rfl, hH⟩
        have h_j : E103 (j) = .inr (1, [.ref (B + (n)), .ref (B + (n + 2)), .ref (B + (n + 4)), .ref (B + (n + 5)), .ref (B + (n + 7)), .ref (B + (n + 8)), vi 2, vi 0, vi 1, vi 0]) := by rw [e103]; exact (uE_ne (by omega)).trans h_j
        have hA : E103 (n + 4) = .inl (zC Z 4, 40, .inr (.inr (.inr (.inr (va_up (G_f B n i) i (some (B + (n + 9 + 2 * i)))))))) := by rw [e103]; exact uE_self _ _ _
        refine lv_iinc (v := Int32.ofInt (((i : Nat) : Int) + 1)) (lv' := [(1, vi (((i : Nat) : Int) + 1)), (0, .ref (B + j))]) b.1 b.2.1 dX1_init_93 hl (k := 1) rfl (i_add _ _) (by decide) rfl (fun ls hl => ?_)
        refine lv_goto (tgt := 74) b.1 b.2.1 dX1_init_96 (by decide) ?_
        refine W.widen (k := 9 + 2 * (i + 1)) (n := 95 + 2 * (i + 1)) (by omega) (by omega) ?_
        exact ih (i + 1) E103 H locs ls (by omega) (by subst e101 e102 e103; rw [hE]; rfl) (by rw [show n + 9 + 2 * (i + 1) = n + 9 + 2 * i + 2 by omega]; exact hH) h_j hA hlo (lv_sub hl [1, 0] rfl)
  obtain ⟨E, eE⟩ : ∃ z, z = E0 := ⟨_, rfl⟩
  rw [← eE] at h_j hH
  refine lv_aload_n b.1 b.2.1 dX1_init_0 rfl (lv_at hl 0 rfl) ?_
  refine ch_obj b hl.1 (li_1 43 (by decide +kernel) (by decide +kernel)) (Nat.le_of_ble_eq_true rfl) (Nat.le_of_ble_eq_true rfl) dX1_init_1 ?_
  refine lv_aload_n b.1 b.2.1 dX1_init_4 rfl (lv_at hl 0 rfl) ?_
  refine ch_new (ci := 2) tyX5 [.null, vi 0] b hH in_2 tyX5_ok (li_1 44 (by decide +kernel) (by decide +kernel)) (li_1 45 (by decide +kernel) (by decide +kernel)) (li_1 3 (by decide +kernel) (by decide +kernel)) rfl (fun j hj => by rcases (show j = 0 ∨ j = 1 by omega) with rfl | rfl <;> rfl) (show _ ≤ (89 : Nat) by omega) (show _ ≤ (175 : Nat) by omega) dX1_init_5 (fun H hH => ?_)
  obtain ⟨E1, e1, hH⟩ : ∃ z, z = uE E (n) (.inr (2, [.null, vi 0])) ∧ CHp (zD Z) B H0 (n + 1) z H := ⟨_, rfl, hH⟩
  have h_j : E1 (j) = .inr (1, [.null, .null, .null, .null, .null, .null, vi 0, vi 0, vi 0, vi 0]) := by rw [e1]; exact (uE_ne (by omega)).trans h_j
  have hn1 : E1 (n) = .inr (2, [.null, vi 0]) := by rw [e1]; exact uE_self _ _ _
  refine lv_dup b.1 b.2.1 dX1_init_8 rfl ?_
  refine ch_callN (y' := yX5_init) (cc' := cX5_init) (maxL' := 1) (h' := 1) (nA := 0) (a := B + (n)) (As := []) (rest := [.ref (B + (n)), .ref (B + j)]) (host := "PairRules") b hl.1 (C_RX5 Z B H0 (n + 1) (n) E1 hzB (by omega) hn1) hH hfl (li_1 48 (by decide +kernel) (by decide +kernel)) (nw_in 183 (by decide +kernel) (by decide +kernel)) (li_1 47 (by decide +kernel) (by decide +kernel)) (li_1 3 (by decide +kernel) (by decide +kernel)) rfl (by decide +kernel) rfl rfl ⟨Nat.le_of_ble_eq_true rfl, Nat.le_of_ble_eq_true rfl⟩ (Nat.le_of_ble_eq_true rfl) ⟨show _ ≤ (89 : Nat) by omega, show _ ≤ (175 : Nat) by omega⟩ hlo dX1_init_9 (fun H locs hH hlo => ?_)
  obtain ⟨E2, e2, hH⟩ : ∃ z, z = E_RX5 Z B (n + 1) (n) E1  ∧ CHp (zD Z) B H0 (n + 2) z H := ⟨_, rfl, hH⟩
  have h_j : E2 (j) = .inr (1, [.null, .null, .null, .null, .null, .null, vi 0, vi 0, vi 0, vi 0]) := by rw [e2]; exact (E_RX5_old (by omega) (by omega)).trans h_j
  refine ch_putG (k := 0) (j := j) (ty0 := tyX1) (fin := true) b hH (by omega) h_j rfl in_1 tyX1_ok nmX1 (by decide) rfl (Nat.le_of_ble_eq_true rfl) rfl rfl hnm rfl hlo hzB (li_1 59 (by decide +kernel) (by decide +kernel)) dX1_init_12 (fun H locs hH hlo => ?_)
  obtain ⟨E3, e3, hH⟩ : ∃ z, z = uE E2 (j) (.inr (1, [.ref (B + (n)), .null, .null, .null, .null, .null, vi 0, vi 0, vi 0, vi 0])) ∧ CHp (zD Z) B H0 (n + 2) z H := ⟨_, rfl, hH⟩
  have h_j : E3 (j) = .inr (1, [.ref (B + (n)), .null, .null, .null, .null, .null, vi 0, vi 0, vi 0, vi 0]) := by rw [e3]; exact uE_self _ _ _
  refine lv_aload_n b.1 b.2.1 dX1_init_15 rfl (lv_at hl 0 rfl) ?_
  refine ch_new (ci := 2) tyX5 [.null, vi 0] b hH in_2 tyX5_ok (li_1 44 (by decide +kernel) (by decide +kernel)) (li_1 45 (by decide +kernel) (by decide +kernel)) (li_1 3 (by decide +kernel) (by decide +kernel)) rfl (fun j hj => by rcases (show j = 0 ∨ j = 1 by omega) with rfl | rfl <;> rfl) (show _ ≤ (89 : Nat) by omega) (show _ ≤ (175 : Nat) by omega) dX1_init_16 (fun H hH => ?_)
  obtain ⟨E4, e4, hH⟩ : ∃ z, z = uE E3 (n + 2) (.inr (2, [.null, vi 0])) ∧ CHp (zD Z) B H0 (n + 3) z H := ⟨_, rfl, hH⟩
  have h_j : E4 (j) = .inr (1, [.ref (B + (n)), .null, .null, .null, .null, .null, vi 0, vi 0, vi 0, vi 0]) := by rw [e4]; exact (uE_ne (by omega)).trans h_j
  have hn2 : E4 (n + 2) = .inr (2, [.null, vi 0]) := by rw [e4]; exact uE_self _ _ _
  refine lv_dup b.1 b.2.1 dX1_init_19 rfl ?_
  refine ch_callN (y' := yX5_init) (cc' := cX5_init) (maxL' := 1) (h' := 1) (nA := 0) (a := B + (n + 2)) (As := []) (rest := [.ref (B + (n + 2)), .ref (B + j)]) (host := "PairRules") b hl.1 (C_RX5 Z B H0 (n + 3) (n + 2) E4 hzB (by omega) hn2) hH hfl (li_1 48 (by decide +kernel) (by decide +kernel)) (nw_in 183 (by decide +kernel) (by decide +kernel)) (li_1 47 (by decide +kernel) (by decide +kernel)) (li_1 3 (by decide +kernel) (by decide +kernel)) rfl (by decide +kernel) rfl rfl ⟨Nat.le_of_ble_eq_true rfl, Nat.le_of_ble_eq_true rfl⟩ (Nat.le_of_ble_eq_true rfl) ⟨show _ ≤ (89 : Nat) by omega, show _ ≤ (175 : Nat) by omega⟩ hlo dX1_init_20 (fun H locs hH hlo => ?_)
  obtain ⟨E5, e5, hH⟩ : ∃ z, z = E_RX5 Z B (n + 3) (n + 2) E4  ∧ CHp (zD Z) B H0 (n + 4) z H := ⟨_, rfl, hH⟩
  have h_j : E5 (j) = .inr (1, [.ref (B + (n)), .null, .null, .null, .null, .null, vi 0, vi 0, vi 0, vi 0]) := by rw [e5]; exact (E_RX5_old (by omega) (by omega)).trans h_j
  refine ch_putG (k := 1) (j := j) (ty0 := tyX1) (fin := true) b hH (by omega) h_j rfl in_1 tyX1_ok nmX1 (by decide) rfl (Nat.le_of_ble_eq_true rfl) rfl rfl hnm rfl hlo hzB (li_1 60 (by decide +kernel) (by decide +kernel)) dX1_init_23 (fun H locs hH hlo => ?_)
  obtain ⟨E6, e6, hH⟩ : ∃ z, z = uE E5 (j) (.inr (1, [.ref (B + (n)), .ref (B + (n + 2)), .null, .null, .null, .null, vi 0, vi 0, vi 0, vi 0])) ∧ CHp (zD Z) B H0 (n + 4) z H := ⟨_, rfl, hH⟩
  have h_j : E6 (j) = .inr (1, [.ref (B + (n)), .ref (B + (n + 2)), .null, .null, .null, .null, vi 0, vi 0, vi 0, vi 0]) := by rw [e6]; exact uE_self _ _ _
  refine lv_aload_n b.1 b.2.1 dX1_init_26 rfl (lv_at hl 0 rfl) ?_
  refine lv_bipush (v := Int32.ofInt 40) b.1 b.2.1 dX1_init_27 (by decide) ?_
  refine ch_newq (t0 := 4) (N' := 40) b hH (li_1 44 (by decide +kernel) (by decide +kernel)) (by decide) rfl (by decide) (Nat.le_of_ble_eq_true rfl) (show _ ≤ (89 : Nat) by omega) (show _ ≤ (175 : Nat) by omega) dX1_init_29 (fun H hH => ?_)
  obtain ⟨E7, e7, hH⟩ : ∃ z, z = uE E6 (n + 4) (.inl (zC Z 4, 40, .inr (.inr (.inr (.inr fun _ => none))))) ∧ CHp (zD Z) B H0 (n + 5) z H := ⟨_, rfl, hH⟩
  have h_j : E7 (j) = .inr (1, [.ref (B + (n)), .ref (B + (n + 2)), .null, .null, .null, .null, vi 0, vi 0, vi 0, vi 0]) := by rw [e7]; exact (uE_ne (by omega)).trans h_j
  have hA : E7 (n + 4) = .inl (zC Z 4, 40, .inr (.inr (.inr (.inr fun _ => none)))) := by rw [e7]; exact uE_self _ _ _
  refine ch_putG (k := 2) (j := j) (ty0 := tyX1) (fin := true) b hH (by omega) h_j rfl in_1 tyX1_ok nmX1 (by decide) rfl (Nat.le_of_ble_eq_true rfl) rfl rfl hnm rfl hlo hzB (li_1 61 (by decide +kernel) (by decide +kernel)) dX1_init_32 (fun H locs hH hlo => ?_)
  obtain ⟨E8, e8, hH⟩ : ∃ z, z = uE E7 (j) (.inr (1, [.ref (B + (n)), .ref (B + (n + 2)), .ref (B + (n + 4)), .null, .null, .null, vi 0, vi 0, vi 0, vi 0])) ∧ CHp (zD Z) B H0 (n + 5) z H := ⟨_, rfl, hH⟩
  have hA : E8 (n + 4) = .inl (zC Z 4, 40, .inr (.inr (.inr (.inr fun _ => none)))) := by rw [e8]; exact (uE_ne (by omega)).trans hA
  have h_j : E8 (j) = .inr (1, [.ref (B + (n)), .ref (B + (n + 2)), .ref (B + (n + 4)), .null, .null, .null, vi 0, vi 0, vi 0, vi 0]) := by rw [e8]; exact uE_self _ _ _
  refine lv_aload_n b.1 b.2.1 dX1_init_35 rfl (lv_at hl 0 rfl) ?_
  refine ch_new (ci := 2) tyX5 [.null, vi 0] b hH in_2 tyX5_ok (li_1 44 (by decide +kernel) (by decide +kernel)) (li_1 45 (by decide +kernel) (by decide +kernel)) (li_1 3 (by decide +kernel) (by decide +kernel)) rfl (fun j hj => by rcases (show j = 0 ∨ j = 1 by omega) with rfl | rfl <;> rfl) (show _ ≤ (89 : Nat) by omega) (show _ ≤ (175 : Nat) by omega) dX1_init_36 (fun H hH => ?_)
  obtain ⟨E9, e9, hH⟩ : ∃ z, z = uE E8 (n + 5) (.inr (2, [.null, vi 0])) ∧ CHp (zD Z) B H0 (n + 6) z H := ⟨_, rfl, hH⟩
  have h_j : E9 (j) = .inr (1, [.ref (B + (n)), .ref (B + (n + 2)), .ref (B + (n + 4)), .null, .null, .null, vi 0, vi 0, vi 0, vi 0]) := by rw [e9]; exact (uE_ne (by omega)).trans h_j
  have hA : E9 (n + 4) = .inl (zC Z 4, 40, .inr (.inr (.inr (.inr fun _ => none)))) := by rw [e9]; exact (uE_ne (by omega)).trans hA
  have hn3 : E9 (n + 5) = .inr (2, [.null, vi 0]) := by rw [e9]; exact uE_self _ _ _
  refine lv_dup b.1 b.2.1 dX1_init_39 rfl ?_
  refine ch_callN (y' := yX5_init) (cc' := cX5_init) (maxL' := 1) (h' := 1) (nA := 0) (a := B + (n + 5)) (As := []) (rest := [.ref (B + (n + 5)), .ref (B + j)]) (host := "PairRules") b hl.1 (C_RX5 Z B H0 (n + 6) (n + 5) E9 hzB (by omega) hn3) hH hfl (li_1 48 (by decide +kernel) (by decide +kernel)) (nw_in 183 (by decide +kernel) (by decide +kernel)) (li_1 47 (by decide +kernel) (by decide +kernel)) (li_1 3 (by decide +kernel) (by decide +kernel)) rfl (by decide +kernel) rfl rfl ⟨Nat.le_of_ble_eq_true rfl, Nat.le_of_ble_eq_true rfl⟩ (Nat.le_of_ble_eq_true rfl) ⟨show _ ≤ (89 : Nat) by omega, show _ ≤ (175 : Nat) by omega⟩ hlo dX1_init_40 (fun H locs hH hlo => ?_)
  obtain ⟨E10, e10, hH⟩ : ∃ z, z = E_RX5 Z B (n + 6) (n + 5) E9  ∧ CHp (zD Z) B H0 (n + 7) z H := ⟨_, rfl, hH⟩
  have h_j : E10 (j) = .inr (1, [.ref (B + (n)), .ref (B + (n + 2)), .ref (B + (n + 4)), .null, .null, .null, vi 0, vi 0, vi 0, vi 0]) := by rw [e10]; exact (E_RX5_old (by omega) (by omega)).trans h_j
  have hA : E10 (n + 4) = .inl (zC Z 4, 40, .inr (.inr (.inr (.inr fun _ => none)))) := by rw [e10]; exact (E_RX5_old (by omega) (by omega)).trans hA
  refine ch_putG (k := 3) (j := j) (ty0 := tyX1) (fin := true) b hH (by omega) h_j rfl in_1 tyX1_ok nmX1 (by decide) rfl (Nat.le_of_ble_eq_true rfl) rfl rfl hnm rfl hlo hzB (li_1 62 (by decide +kernel) (by decide +kernel)) dX1_init_43 (fun H locs hH hlo => ?_)
  obtain ⟨E11, e11, hH⟩ : ∃ z, z = uE E10 (j) (.inr (1, [.ref (B + (n)), .ref (B + (n + 2)), .ref (B + (n + 4)), .ref (B + (n + 5)), .null, .null, vi 0, vi 0, vi 0, vi 0])) ∧ CHp (zD Z) B H0 (n + 7) z H := ⟨_, rfl, hH⟩
  have hA : E11 (n + 4) = .inl (zC Z 4, 40, .inr (.inr (.inr (.inr fun _ => none)))) := by rw [e11]; exact (uE_ne (by omega)).trans hA
  have h_j : E11 (j) = .inr (1, [.ref (B + (n)), .ref (B + (n + 2)), .ref (B + (n + 4)), .ref (B + (n + 5)), .null, .null, vi 0, vi 0, vi 0, vi 0]) := by rw [e11]; exact uE_self _ _ _
  refine lv_aload_n b.1 b.2.1 dX1_init_46 rfl (lv_at hl 0 rfl) ?_
  refine lv_bipush (v := Int32.ofInt 40) b.1 b.2.1 dX1_init_47 (by decide) ?_
  refine ch_newa (atype := .int) (ty := .int) (cA := zC Z 0) (t0 := 0) (N' := 40) b hH (li_1 57 (by decide +kernel) (by decide +kernel)) rfl rfl (fun _ h => h) rfl (by decide) (Nat.le_of_ble_eq_true rfl) (show _ ≤ (89 : Nat) by omega) (show _ ≤ (175 : Nat) by omega) dX1_init_49 (fun H hH => ?_)
  obtain ⟨E12, e12, hH⟩ : ∃ z, z = uE E11 (n + 7) (arI (zC Z 0) 40 (fun _ => 0)) ∧ CHp (zD Z) B H0 (n + 8) z H := ⟨_, rfl, hH⟩
  have h_j : E12 (j) = .inr (1, [.ref (B + (n)), .ref (B + (n + 2)), .ref (B + (n + 4)), .ref (B + (n + 5)), .null, .null, vi 0, vi 0, vi 0, vi 0]) := by rw [e12]; exact (uE_ne (by omega)).trans h_j
  have hA : E12 (n + 4) = .inl (zC Z 4, 40, .inr (.inr (.inr (.inr fun _ => none)))) := by rw [e12]; exact (uE_ne (by omega)).trans hA
  refine ch_putG (k := 4) (j := j) (ty0 := tyX1) (fin := true) b hH (by omega) h_j rfl in_1 tyX1_ok nmX1 (by decide) rfl (Nat.le_of_ble_eq_true rfl) rfl rfl hnm rfl hlo hzB (li_1 63 (by decide +kernel) (by decide +kernel)) dX1_init_51 (fun H locs hH hlo => ?_)
  obtain ⟨E13, e13, hH⟩ : ∃ z, z = uE E12 (j) (.inr (1, [.ref (B + (n)), .ref (B + (n + 2)), .ref (B + (n + 4)), .ref (B + (n + 5)), .ref (B + (n + 7)), .null, vi 0, vi 0, vi 0, vi 0])) ∧ CHp (zD Z) B H0 (n + 8) z H := ⟨_, rfl, hH⟩
  have hA : E13 (n + 4) = .inl (zC Z 4, 40, .inr (.inr (.inr (.inr fun _ => none)))) := by rw [e13]; exact (uE_ne (by omega)).trans hA
  have h_j : E13 (j) = .inr (1, [.ref (B + (n)), .ref (B + (n + 2)), .ref (B + (n + 4)), .ref (B + (n + 5)), .ref (B + (n + 7)), .null, vi 0, vi 0, vi 0, vi 0]) := by rw [e13]; exact uE_self _ _ _
  refine lv_aload_n b.1 b.2.1 dX1_init_54 rfl (lv_at hl 0 rfl) ?_
  refine lv_bipush (v := Int32.ofInt 9) b.1 b.2.1 dX1_init_55 (by decide) ?_
  refine ch_newa (atype := .int) (ty := .int) (cA := zC Z 0) (t0 := 0) (N' := 9) b hH (li_1 57 (by decide +kernel) (by decide +kernel)) rfl rfl (fun _ h => h) rfl (by decide) (Nat.le_of_ble_eq_true rfl) (show _ ≤ (89 : Nat) by omega) (show _ ≤ (175 : Nat) by omega) dX1_init_57 (fun H hH => ?_)
  obtain ⟨E14, e14, hH⟩ : ∃ z, z = uE E13 (n + 8) (arI (zC Z 0) 9 (fun _ => 0)) ∧ CHp (zD Z) B H0 (n + 9) z H := ⟨_, rfl, hH⟩
  have h_j : E14 (j) = .inr (1, [.ref (B + (n)), .ref (B + (n + 2)), .ref (B + (n + 4)), .ref (B + (n + 5)), .ref (B + (n + 7)), .null, vi 0, vi 0, vi 0, vi 0]) := by rw [e14]; exact (uE_ne (by omega)).trans h_j
  have hA : E14 (n + 4) = .inl (zC Z 4, 40, .inr (.inr (.inr (.inr fun _ => none)))) := by rw [e14]; exact (uE_ne (by omega)).trans hA
  refine ch_putG (k := 5) (j := j) (ty0 := tyX1) (fin := true) b hH (by omega) h_j rfl in_1 tyX1_ok nmX1 (by decide) rfl (Nat.le_of_ble_eq_true rfl) rfl rfl hnm rfl hlo hzB (li_1 64 (by decide +kernel) (by decide +kernel)) dX1_init_59 (fun H locs hH hlo => ?_)
  obtain ⟨E15, e15, hH⟩ : ∃ z, z = uE E14 (j) (.inr (1, [.ref (B + (n)), .ref (B + (n + 2)), .ref (B + (n + 4)), .ref (B + (n + 5)), .ref (B + (n + 7)), .ref (B + (n + 8)), vi 0, vi 0, vi 0, vi 0])) ∧ CHp (zD Z) B H0 (n + 9) z H := ⟨_, rfl, hH⟩
  have hA : E15 (n + 4) = .inl (zC Z 4, 40, .inr (.inr (.inr (.inr fun _ => none)))) := by rw [e15]; exact (uE_ne (by omega)).trans hA
  have h_j : E15 (j) = .inr (1, [.ref (B + (n)), .ref (B + (n + 2)), .ref (B + (n + 4)), .ref (B + (n + 5)), .ref (B + (n + 7)), .ref (B + (n + 8)), vi 0, vi 0, vi 0, vi 0]) := by rw [e15]; exact uE_self _ _ _
  refine lv_aload_n b.1 b.2.1 dX1_init_62 rfl (lv_at hl 0 rfl) ?_
  refine lv_iconst (v := Int32.ofInt 2) b.1 b.2.1 dX1_init_63 rfl ?_
  refine ch_putG (k := 6) (j := j) (ty0 := tyX1) (fin := false) b hH (by omega) h_j rfl in_1 tyX1_ok nmX1 (by decide) rfl (Nat.le_of_ble_eq_true rfl) rfl rfl hnm rfl hlo hzB (li_1 65 (by decide +kernel) (by decide +kernel)) dX1_init_64 (fun H locs hH hlo => ?_)
  obtain ⟨E16, e16, hH⟩ : ∃ z, z = uE E15 (j) (.inr (1, [.ref (B + (n)), .ref (B + (n + 2)), .ref (B + (n + 4)), .ref (B + (n + 5)), .ref (B + (n + 7)), .ref (B + (n + 8)), vi 2, vi 0, vi 0, vi 0])) ∧ CHp (zD Z) B H0 (n + 9) z H := ⟨_, rfl, hH⟩
  have hA : E16 (n + 4) = .inl (zC Z 4, 40, .inr (.inr (.inr (.inr fun _ => none)))) := by rw [e16]; exact (uE_ne (by omega)).trans hA
  have h_j : E16 (j) = .inr (1, [.ref (B + (n)), .ref (B + (n + 2)), .ref (B + (n + 4)), .ref (B + (n + 5)), .ref (B + (n + 7)), .ref (B + (n + 8)), vi 2, vi 0, vi 0, vi 0]) := by rw [e16]; exact uE_self _ _ _
  refine lv_aload_n b.1 b.2.1 dX1_init_67 rfl (lv_at hl 0 rfl) ?_
  refine lv_iconst (v := Int32.ofInt 1) b.1 b.2.1 dX1_init_68 rfl ?_
  refine ch_putG (k := 8) (j := j) (ty0 := tyX1) (fin := false) b hH (by omega) h_j rfl in_1 tyX1_ok nmX1 (by decide) rfl (Nat.le_of_ble_eq_true rfl) rfl rfl hnm rfl hlo hzB (li_1 67 (by decide +kernel) (by decide +kernel)) dX1_init_69 (fun H locs hH hlo => ?_)
  obtain ⟨E17, e17, hH⟩ : ∃ z, z = uE E16 (j) (.inr (1, [.ref (B + (n)), .ref (B + (n + 2)), .ref (B + (n + 4)), .ref (B + (n + 5)), .ref (B + (n + 7)), .ref (B + (n + 8)), vi 2, vi 0, vi 1, vi 0])) ∧ CHp (zD Z) B H0 (n + 9) z H := ⟨_, rfl, hH⟩
  have hA : E17 (n + 4) = .inl (zC Z 4, 40, .inr (.inr (.inr (.inr fun _ => none)))) := by rw [e17]; exact (uE_ne (by omega)).trans hA
  have h_j : E17 (j) = .inr (1, [.ref (B + (n)), .ref (B + (n + 2)), .ref (B + (n + 4)), .ref (B + (n + 5)), .ref (B + (n + 7)), .ref (B + (n + 8)), vi 2, vi 0, vi 1, vi 0]) := by rw [e17]; exact uE_self _ _ _
  refine lv_iconst (v := Int32.ofInt 0) b.1 b.2.1 dX1_init_72 rfl ?_
  refine lv_istore_n (lv' := [(1, vi 0), (0, .ref (B + j))]) b.1 b.2.1 dX1_init_73 rfl hl (by decide) rfl (fun ls hl => ?_)
  refine W.widen (k := 9 + 2 * 0) (n := 95 + 2 * 0) (by omega) (by omega) ?_
  exact lp0 40 0 E17 H locs ls (by omega) (by subst e1 e2 e3 e4 e5 e6 e7 e8 e9 e10 e11 e12 e13 e14 e15 e16 e17 eE; rfl) hH h_j hA hlo (lv_sub hl [1, 0] rfl)
def H_f (B n : Nat) : Nat → Nat → Option Nat
  | 0 => fun _ => none
  | i + 1 => va_up (H_f B n i) i (some (B + (n + 90 * i)))
def P_RX2 (Z : ZT) (B n j : Nat) (E : Nat → va_E) : Nat → va_E := uE (uE (uE (uE (uE (uE E (n) (.inl (zC Z 5, 8, .inr (.inr (.inr (.inr fun _ => none)))))) (j) (.inr (9, [.ref (B + (n)), .null, .null, vi 0, vi 0]))) (n + 1) (.inl (zC Z 5, 2, .inr (.inr (.inr (.inr fun _ => none)))))) (j) (.inr (9, [.ref (B + (n)), .ref (B + (n + 1)), .null, vi 0, vi 0]))) (n + 2) (arI (zC Z 1) 2 (fun _ => 0))) (j) (.inr (9, [.ref (B + (n)), .ref (B + (n + 1)), .ref (B + (n + 2)), vi 0, vi 0]))
def L0_RX2 (Z : ZT) (B n j : Nat) (E0 : Nat → va_E) : Nat → Nat → va_E
  | 0 => P_RX2 Z B n j E0
  | i + 1 => (fun E => uE (E_RX1 Z B (n + 3 + 90 * i + 1) (n + 3 + 90 * i) (uE E (n + 3 + 90 * i) (.inr (1, [.null, .null, .null, .null, .null, .null, vi 0, vi 0, vi 0, vi 0]))) ) (n) (.inl (zC Z 5, 8, .inr (.inr (.inr (.inr (va_up (H_f B (n + 3) i) i (some (B + (n + 3 + 90 * i)))))))))) (L0_RX2 Z B n j E0 i)
def L1_RX2 (Z : ZT) (B n j : Nat) (E0 : Nat → va_E) : Nat → Nat → va_E
  | 0 => L0_RX2 Z B n j E0 8
  | i + 1 => (fun E => uE (E_RX1 Z B (n + 723 + 90 * i + 1) (n + 723 + 90 * i) (uE E (n + 723 + 90 * i) (.inr (1, [.null, .null, .null, .null, .null, .null, vi 0, vi 0, vi 0, vi 0]))) ) (n + 1) (.inl (zC Z 5, 2, .inr (.inr (.inr (.inr (va_up (H_f B (n + 723) i) i (some (B + (n + 723 + 90 * i)))))))))) (L1_RX2 Z B n j E0 i)
def E_RX2 (Z : ZT) (B n j : Nat) (E : Nat → va_E) : Nat → va_E := L1_RX2 Z B n j E 2
theorem L0_RX2_old {Z : ZT} {B n j q : Nat} {E : Nat → va_E} (h1 : q ≠ n) (h3 : q < n + 3) : ∀ i : Nat, i ≤ 8 → L0_RX2 Z B n j E i q = P_RX2 Z B n j E q
  | 0, _ => rfl
  | i + 1, h2 => by
    refine (uE_ne h1).trans ((E_RX1_old (by omega) (by omega)).trans ((uE_ne (by omega)).trans (L0_RX2_old h1 h3 i (by omega))))
theorem L1_RX2_old {Z : ZT} {B n j q : Nat} {E : Nat → va_E} (h1 : q ≠ n + 1) (h3 : q < n + 723) : ∀ i : Nat, i ≤ 2 → L1_RX2 Z B n j E i q = L0_RX2 Z B n j E 8 q
  | 0, _ => rfl
  | i + 1, h2 => by
    refine (uE_ne h1).trans ((E_RX1_old (by omega) (by omega)).trans ((uE_ne (by omega)).trans (L1_RX2_old h1 h3 i (by omega))))
theorem E_RX2_old {Z : ZT} {B n j q : Nat} {E : Nat → va_E} (h1 : q ≠ j) (h2 : q < n) : E_RX2 Z B n j E q = E q := by
  refine (L1_RX2_old (by omega) (by omega) 2 (by omega)).trans ((L0_RX2_old (by omega) (by omega) 8 (by omega)).trans ?_)
  simp only [P_RX2, uE_ne h1, uE]
  repeat (rw [if_neg (by omega)])
set_option maxRecDepth 20000 in
set_option maxHeartbeats 4000000 in
theorem C_RX2 (Z : ZT) (B : Nat) (H0 : Heap) (n j : Nat) (E0 : Nat → va_E) (hzB : zB Z ≤ B) (hj : j < n) (h_j : E0 j = .inr (9, [.null, .null, .null, vi 0, vi 0])) : RunsC Z yX2_init cX2_init 2 3 [.ref (B + j)] 903 1862 (CHp (zD Z) B H0 n E0) (CHp (zD Z) B H0 (n + 903) (E_RX2 Z B n j E0)) := by
  refine RunsC.of (by decide +kernel) rfl (Nat.le_of_ble_eq_true rfl) ?_
  intro p l e s m args below meth c ls hfl b hH hr hlk hnm hl
  have hl : lv_has ls 2 [(0, .ref (B + j))] := hl
  have b : BB p s m args c RX2 cX2_init 2 Z := b
  obtain ⟨H, eH⟩ : ∃ z, z = s.heap := ⟨_, rfl⟩
  rw [← eH] at hH ⊢
  have hlo : ∀ q ∈ ([] : List Loc), zN Z q.base := fun q hq => by cases hq
  have lp1 : ∀ (d i : Nat) (E : Nat → va_E) (H : Heap) (locs : List Loc) (ls : Array Slot), i + d = 2 → E = (L1_RX2 Z B n j E0) i → CHp (zD Z) B H0 (n + 723 + 90 * i) E H → E (j) = .inr (9, [.ref (B + (n)), .ref (B + (n + 1)), .ref (B + (n + 2)), vi 0, vi 0]) → E (n + 1) = .inl (zC Z 5, 2, .inr (.inr (.inr (.inr (H_f B (n + 723) i))))) → (∀ q ∈ locs, zN Z q.base) → lv_has ls 2 [(0, .ref (B + j)), (1, vi ((i : Nat) : Int))] → W p l e (rmH 3 903 1862) s m args below meth c H locs (723 + 90 * i) (1492 + 185 * i) (MQ below (QcC (CHp (zD Z) B H0 (n + 903) (E_RX2 Z B n j E0))) args s 903 1862 (zN Z)) (F0 m 57 ls []) := by
    intro d
    induction d with
    | zero =>
      intro i E H locs ls hi hE hH h_j hB hlo hl
      refine lv_iload_n b.1 b.2.1 dX2_init_57 rfl (lv_at hl 1 rfl) ?_
      refine lv_iconst (v := Int32.ofInt 2) b.1 b.2.1 dX2_init_58 rfl ?_
      refine lv_icmp_ge (tgt := 81) b.1 b.2.1 dX2_init_59 (by decide) (fun c1 => ?_) (fun c1 => ?_)
      · obtain rfl : i = 2 := by omega
        refine ch_ret b hr hlk hlo ?_ (show _ ≤ (903 : Nat) by omega) (show _ ≤ (1862 : Nat) by omega) dX2_init_81
        rw [hE] at hH
        exact hH
      · exact absurd ((w_le _ _).mpr (by rw [w32_of (by omega) (by omega), w32_of (by omega) (by omega)]; omega)) c1
    | succ d ih =>
      intro i E H locs ls hi hE hH h_j hB hlo hl
      refine lv_iload_n b.1 b.2.1 dX2_init_57 rfl (lv_at hl 1 rfl) ?_
      refine lv_iconst (v := Int32.ofInt 2) b.1 b.2.1 dX2_init_58 rfl ?_
      refine lv_icmp_ge (tgt := 81) b.1 b.2.1 dX2_init_59 (by decide) (fun c1 => ?_) (fun c1 => ?_)
      · exact absurd (show w32 ((i : Nat) : Int) < w32 2 by rw [w32_of (by omega) (by omega), w32_of (by omega) (by omega)]; omega) ((w_le _ _).mp c1)
      · skip
        refine lv_aload_n b.1 b.2.1 dX2_init_62 rfl (lv_at hl 0 rfl) ?_
        refine ch_get (k := 1) (j := j) b hH (by omega) h_j rfl in_9 (by decide) rfl rfl (li_2 44 (by decide +kernel) (by decide +kernel)) dX2_init_63 ?_
        refine lv_iload_n b.1 b.2.1 dX2_init_66 rfl (lv_at hl 1 rfl) ?_
        refine ch_new (ci := 1) tyX1 [.null, .null, .null, .null, .null, .null, vi 0, vi 0, vi 0, vi 0] b hH in_1 tyX1_ok (li_2 40 (by decide +kernel) (by decide +kernel)) (li_1 39 (by decide +kernel) (by decide +kernel)) (li_1 2 (by decide +kernel) (by decide +kernel)) rfl (fun j hj => by rcases (show j = 0 ∨ j = 1 ∨ j = 2 ∨ j = 3 ∨ j = 4 ∨ j = 5 ∨ j = 6 ∨ j = 7 ∨ j = 8 ∨ j = 9 by omega) with rfl | rfl | rfl | rfl | rfl | rfl | rfl | rfl | rfl | rfl <;> rfl) (show _ ≤ (903 : Nat) by omega) (show _ ≤ (1862 : Nat) by omega) dX2_init_67 (fun H hH => ?_)
        obtain ⟨E201, e201, hH⟩ : ∃ z, z = uE E (n + 723 + 90 * i) (.inr (1, [.null, .null, .null, .null, .null, .null, vi 0, vi 0, vi 0, vi 0])) ∧ CHp (zD Z) B H0 (n + 723 + 90 * i + 1) z H := ⟨_, rfl, hH⟩
        have h_j : E201 (j) = .inr (9, [.ref (B + (n)), .ref (B + (n + 1)), .ref (B + (n + 2)), vi 0, vi 0]) := by rw [e201]; exact (uE_ne (by omega)).trans h_j
        have hB : E201 (n + 1) = .inl (zC Z 5, 2, .inr (.inr (.inr (.inr (H_f B (n + 723) i))))) := by rw [e201]; exact (uE_ne (by omega)).trans hB
        have hn1 : E201 (n + 723 + 90 * i) = .inr (1, [.null, .null, .null, .null, .null, .null, vi 0, vi 0, vi 0, vi 0]) := by rw [e201]; exact uE_self _ _ _
        refine lv_dup b.1 b.2.1 dX2_init_70 rfl ?_
        refine ch_call (y' := yX1_init) (cc' := cX1_init) (maxL' := 2) (h' := 2) (nA := 0) (a := B + (n + 723 + 90 * i)) (As := []) (rest := [.ref (B + (n + 723 + 90 * i)), vi ((i : Nat) : Int), .ref (B + (n + 1))]) b hl.1 (C_RX1 Z B H0 (n + 723 + 90 * i + 1) (n + 723 + 90 * i) E201 hzB (by omega) hn1) hH hfl (li_1 42 (by decide +kernel) (by decide +kernel)) (li_2 42 (by decide +kernel) (by decide +kernel)) (li_1 41 (by decide +kernel) (by decide +kernel)) (li_1 2 (by decide +kernel) (by decide +kernel)) rfl (by decide +kernel) rfl rfl ⟨Nat.le_of_ble_eq_true rfl, Nat.le_of_ble_eq_true rfl⟩ (Nat.le_of_ble_eq_true rfl) ⟨show _ ≤ (903 : Nat) by omega, show _ ≤ (1862 : Nat) by omega⟩ hlo dX2_init_71 (fun H locs hH hlo => ?_)
        obtain ⟨E202, e202, hH⟩ : ∃ z, z = E_RX1 Z B (n + 723 + 90 * i + 1) (n + 723 + 90 * i) E201  ∧ CHp (zD Z) B H0 (n + 723 + 90 * i + 90) z H := ⟨_, rfl, hH⟩
        have h_j : E202 (j) = .inr (9, [.ref (B + (n)), .ref (B + (n + 1)), .ref (B + (n + 2)), vi 0, vi 0]) := by rw [e202]; exact (E_RX1_old (by omega) (by omega)).trans h_j
        have hB : E202 (n + 1) = .inl (zC Z 5, 2, .inr (.inr (.inr (.inr (H_f B (n + 723) i))))) := by rw [e202]; exact (E_RX1_old (by omega) (by omega)).trans hB
        have hx1 : E202 (n + 723 + 90 * i) = gObj Z B (n + 723 + 90 * i + 1) := by rw [e202]; exact E_RX1_self (by omega)
        refine ch_aast (t0 := 5) (ci := 1) (N' := 2) (x' := ((i : Nat) : Int)) (j := n + 1) (j2 := n + 723 + 90 * i) b hH (by omega) hB (by omega) hx1 rfl rfl (w32_of (by omega) (by omega)) (by omega) hlo hzB dX2_init_74 (fun H locs hH hlo => ?_)
        obtain ⟨E203, e203, hH⟩ : ∃ z, z = uE E202 (n + 1) (.inl (zC Z 5, 2, .inr (.inr (.inr (.inr (va_up (H_f B (n + 723) i) i (some (B + (n + 723 + 90 * i))))))))) ∧ CHp (zD Z) B H0 (n + 723 + 90 * i + 90) z H := ⟨_, rfl, hH⟩
        have h_j : E203 (j) = .inr (9, [.ref (B + (n)), .ref (B + (n + 1)), .ref (B + (n + 2)), vi 0, vi 0]) := by rw [e203]; exact (uE_ne (by omega)).trans h_j
        have hB : E203 (n + 1) = .inl (zC Z 5, 2, .inr (.inr (.inr (.inr (va_up (H_f B (n + 723) i) i (some (B + (n + 723 + 90 * i)))))))) := by rw [e203]; exact uE_self _ _ _
        refine lv_iinc (v := Int32.ofInt (((i : Nat) : Int) + 1)) (lv' := [(1, vi (((i : Nat) : Int) + 1)), (0, .ref (B + j))]) b.1 b.2.1 dX2_init_75 hl (k := 1) rfl (i_add _ _) (by decide) rfl (fun ls hl => ?_)
        refine lv_goto (tgt := 57) b.1 b.2.1 dX2_init_78 (by decide) ?_
        refine W.widen (k := 723 + 90 * (i + 1)) (n := 1492 + 185 * (i + 1)) (by omega) (by omega) ?_
        exact ih (i + 1) E203 H locs ls (by omega) (by subst e201 e202 e203; rw [hE]; rfl) (by rw [show n + 723 + 90 * (i + 1) = n + 723 + 90 * i + 90 by omega]; exact hH) h_j hB hlo (lv_sub hl [1, 0] rfl)
  have lp0 : ∀ (d i : Nat) (E : Nat → va_E) (H : Heap) (locs : List Loc) (ls : Array Slot), i + d = 8 → E = (L0_RX2 Z B n j E0) i → CHp (zD Z) B H0 (n + 3 + 90 * i) E H → E (j) = .inr (9, [.ref (B + (n)), .ref (B + (n + 1)), .ref (B + (n + 2)), vi 0, vi 0]) → E (n) = .inl (zC Z 5, 8, .inr (.inr (.inr (.inr (H_f B (n + 3) i))))) → (∀ q ∈ locs, zN Z q.base) → lv_has ls 2 [(0, .ref (B + j)), (1, vi ((i : Nat) : Int))] → W p l e (rmH 3 903 1862) s m args below meth c H locs (3 + 90 * i) (12 + 185 * i) (MQ below (QcC (CHp (zD Z) B H0 (n + 903) (E_RX2 Z B n j E0))) args s 903 1862 (zN Z)) (F0 m 30 ls []) := by
    intro d
    induction d with
    | zero =>
      intro i E H locs ls hi hE hH h_j hA hlo hl
      refine lv_iload_n b.1 b.2.1 dX2_init_30 rfl (lv_at hl 1 rfl) ?_
      refine lv_bipush (v := Int32.ofInt 8) b.1 b.2.1 dX2_init_31 (by decide) ?_
      refine lv_icmp_ge (tgt := 55) b.1 b.2.1 dX2_init_33 (by decide) (fun c1 => ?_) (fun c1 => ?_)
      · obtain rfl : i = 8 := by omega
        refine lv_iconst (v := Int32.ofInt 0) b.1 b.2.1 dX2_init_55 rfl ?_
        refine lv_istore_n (lv' := [(1, vi 0), (0, .ref (B + j))]) b.1 b.2.1 dX2_init_56 rfl hl (by decide) rfl (fun ls hl => ?_)
        refine W.widen (k := 723 + 90 * 0) (n := 1492 + 185 * 0) (by omega) (by omega) ?_
        exact lp1 2 0 E H locs ls (by omega) hE hH h_j (by rw [hE]; exact (L0_RX2_old (by omega) (by omega) 8 (by omega)).trans (by unfold P_RX2; rw [uE_ne (by omega), uE_ne (by omega), uE_ne (by omega), uE_self]; rfl)) hlo (lv_sub hl [1, 0] rfl)
      · exact absurd ((w_le _ _).mpr (by rw [w32_of (by omega) (by omega), w32_of (by omega) (by omega)]; omega)) c1
    | succ d ih =>
      intro i E H locs ls hi hE hH h_j hA hlo hl
      refine lv_iload_n b.1 b.2.1 dX2_init_30 rfl (lv_at hl 1 rfl) ?_
      refine lv_bipush (v := Int32.ofInt 8) b.1 b.2.1 dX2_init_31 (by decide) ?_
      refine lv_icmp_ge (tgt := 55) b.1 b.2.1 dX2_init_33 (by decide) (fun c1 => ?_) (fun c1 => ?_)
      · exact absurd (show w32 ((i : Nat) : Int) < w32 8 by rw [w32_of (by omega) (by omega), w32_of (by omega) (by omega)]; omega) ((w_le _ _).mp c1)
      · skip
        refine lv_aload_n b.1 b.2.1 dX2_init_36 rfl (lv_at hl 0 rfl) ?_
        refine ch_get (k := 0) (j := j) b hH (by omega) h_j rfl in_9 (by decide) rfl rfl (li_2 43 (by decide +kernel) (by decide +kernel)) dX2_init_37 ?_
        refine lv_iload_n b.1 b.2.1 dX2_init_40 rfl (lv_at hl 1 rfl) ?_
        refine ch_new (ci := 1) tyX1 [.null, .null, .null, .null, .null, .null, vi 0, vi 0, vi 0, vi 0] b hH in_1 tyX1_ok (li_2 40 (by decide +kernel) (by decide +kernel)) (li_1 39 (by decide +kernel) (by decide +kernel)) (li_1 2 (by decide +kernel) (by decide +kernel)) rfl (fun j hj => by rcases (show j = 0 ∨ j = 1 ∨ j = 2 ∨ j = 3 ∨ j = 4 ∨ j = 5 ∨ j = 6 ∨ j = 7 ∨ j = 8 ∨ j = 9 by omega) with rfl | rfl | rfl | rfl | rfl | rfl | rfl | rfl | rfl | rfl <;> rfl) (show _ ≤ (903 : Nat) by omega) (show _ ≤ (1862 : Nat) by omega) dX2_init_41 (fun H hH => ?_)
        obtain ⟨E101, e101, hH⟩ : ∃ z, z = uE E (n + 3 + 90 * i) (.inr (1, [.null, .null, .null, .null, .null, .null, vi 0, vi 0, vi 0, vi 0])) ∧ CHp (zD Z) B H0 (n + 3 + 90 * i + 1) z H := ⟨_, rfl, hH⟩
        have h_j : E101 (j) = .inr (9, [.ref (B + (n)), .ref (B + (n + 1)), .ref (B + (n + 2)), vi 0, vi 0]) := by rw [e101]; exact (uE_ne (by omega)).trans h_j
        have hA : E101 (n) = .inl (zC Z 5, 8, .inr (.inr (.inr (.inr (H_f B (n + 3) i))))) := by rw [e101]; exact (uE_ne (by omega)).trans hA
        have hn2 : E101 (n + 3 + 90 * i) = .inr (1, [.null, .null, .null, .null, .null, .null, vi 0, vi 0, vi 0, vi 0]) := by rw [e101]; exact uE_self _ _ _
        refine lv_dup b.1 b.2.1 dX2_init_44 rfl ?_
        refine ch_call (y' := yX1_init) (cc' := cX1_init) (maxL' := 2) (h' := 2) (nA := 0) (a := B + (n + 3 + 90 * i)) (As := []) (rest := [.ref (B + (n + 3 + 90 * i)), vi ((i : Nat) : Int), .ref (B + (n))]) b hl.1 (C_RX1 Z B H0 (n + 3 + 90 * i + 1) (n + 3 + 90 * i) E101 hzB (by omega) hn2) hH hfl (li_1 42 (by decide +kernel) (by decide +kernel)) (li_2 42 (by decide +kernel) (by decide +kernel)) (li_1 41 (by decide +kernel) (by decide +kernel)) (li_1 2 (by decide +kernel) (by decide +kernel)) rfl (by decide +kernel) rfl rfl ⟨Nat.le_of_ble_eq_true rfl, Nat.le_of_ble_eq_true rfl⟩ (Nat.le_of_ble_eq_true rfl) ⟨show _ ≤ (903 : Nat) by omega, show _ ≤ (1862 : Nat) by omega⟩ hlo dX2_init_45 (fun H locs hH hlo => ?_)
        obtain ⟨E102, e102, hH⟩ : ∃ z, z = E_RX1 Z B (n + 3 + 90 * i + 1) (n + 3 + 90 * i) E101  ∧ CHp (zD Z) B H0 (n + 3 + 90 * i + 90) z H := ⟨_, rfl, hH⟩
        have h_j : E102 (j) = .inr (9, [.ref (B + (n)), .ref (B + (n + 1)), .ref (B + (n + 2)), vi 0, vi 0]) := by rw [e102]; exact (E_RX1_old (by omega) (by omega)).trans h_j
        have hA : E102 (n) = .inl (zC Z 5, 8, .inr (.inr (.inr (.inr (H_f B (n + 3) i))))) := by rw [e102]; exact (E_RX1_old (by omega) (by omega)).trans hA
        have hx1 : E102 (n + 3 + 90 * i) = gObj Z B (n + 3 + 90 * i + 1) := by rw [e102]; exact E_RX1_self (by omega)
        refine ch_aast (t0 := 5) (ci := 1) (N' := 8) (x' := ((i : Nat) : Int)) (j := n) (j2 := n + 3 + 90 * i) b hH (by omega) hA (by omega) hx1 rfl rfl (w32_of (by omega) (by omega)) (by omega) hlo hzB dX2_init_48 (fun H locs hH hlo => ?_)
        obtain ⟨E103, e103, hH⟩ : ∃ z, z = uE E102 (n) (.inl (zC Z 5, 8, .inr (.inr (.inr (.inr (va_up (H_f B (n + 3) i) i (some (B + (n + 3 + 90 * i))))))))) ∧ CHp (zD Z) B H0 (n + 3 + 90 * i + 90) z H := ⟨_, rfl, hH⟩
        have h_j : E103 (j) = .inr (9, [.ref (B + (n)), .ref (B + (n + 1)), .ref (B + (n + 2)), vi 0, vi 0]) := by rw [e103]; exact (uE_ne (by omega)).trans h_j
        have hA : E103 (n) = .inl (zC Z 5, 8, .inr (.inr (.inr (.inr (va_up (H_f B (n + 3) i) i (some (B + (n + 3 + 90 * i)))))))) := by rw [e103]; exact uE_self _ _ _
        refine lv_iinc (v := Int32.ofInt (((i : Nat) : Int) + 1)) (lv' := [(1, vi (((i : Nat) : Int) + 1)), (0, .ref (B + j))]) b.1 b.2.1 dX2_init_49 hl (k := 1) rfl (i_add _ _) (by decide) rfl (fun ls hl => ?_)
        refine lv_goto (tgt := 30) b.1 b.2.1 dX2_init_52 (by decide) ?_
        refine W.widen (k := 3 + 90 * (i + 1)) (n := 12 + 185 * (i + 1)) (by omega) (by omega) ?_
        exact ih (i + 1) E103 H locs ls (by omega) (by subst e101 e102 e103; rw [hE]; rfl) (by rw [show n + 3 + 90 * (i + 1) = n + 3 + 90 * i + 90 by omega]; exact hH) h_j hA hlo (lv_sub hl [1, 0] rfl)
  obtain ⟨E, eE⟩ : ∃ z, z = E0 := ⟨_, rfl⟩
  rw [← eE] at h_j hH
  refine lv_aload_n b.1 b.2.1 dX2_init_0 rfl (lv_at hl 0 rfl) ?_
  refine ch_obj b hl.1 (li_2 39 (by decide +kernel) (by decide +kernel)) (Nat.le_of_ble_eq_true rfl) (Nat.le_of_ble_eq_true rfl) dX2_init_1 ?_
  refine lv_aload_n b.1 b.2.1 dX2_init_4 rfl (lv_at hl 0 rfl) ?_
  refine lv_bipush (v := Int32.ofInt 8) b.1 b.2.1 dX2_init_5 (by decide) ?_
  refine ch_newq (t0 := 5) (N' := 8) b hH (li_2 40 (by decide +kernel) (by decide +kernel)) (by decide) rfl (by decide) (Nat.le_of_ble_eq_true rfl) (show _ ≤ (903 : Nat) by omega) (show _ ≤ (1862 : Nat) by omega) dX2_init_7 (fun H hH => ?_)
  obtain ⟨E1, e1, hH⟩ : ∃ z, z = uE E (n) (.inl (zC Z 5, 8, .inr (.inr (.inr (.inr fun _ => none))))) ∧ CHp (zD Z) B H0 (n + 1) z H := ⟨_, rfl, hH⟩
  have h_j : E1 (j) = .inr (9, [.null, .null, .null, vi 0, vi 0]) := by rw [e1]; exact (uE_ne (by omega)).trans h_j
  have hA : E1 (n) = .inl (zC Z 5, 8, .inr (.inr (.inr (.inr fun _ => none)))) := by rw [e1]; exact uE_self _ _ _
  refine ch_putG (k := 0) (j := j) (ty0 := tyX2) (fin := true) b hH (by omega) h_j rfl in_9 tyX2_ok nmX2 (by decide) rfl (Nat.le_of_ble_eq_true rfl) rfl rfl hnm rfl hlo hzB (li_2 43 (by decide +kernel) (by decide +kernel)) dX2_init_10 (fun H locs hH hlo => ?_)
  obtain ⟨E2, e2, hH⟩ : ∃ z, z = uE E1 (j) (.inr (9, [.ref (B + (n)), .null, .null, vi 0, vi 0])) ∧ CHp (zD Z) B H0 (n + 1) z H := ⟨_, rfl, hH⟩
  have hA : E2 (n) = .inl (zC Z 5, 8, .inr (.inr (.inr (.inr fun _ => none)))) := by rw [e2]; exact (uE_ne (by omega)).trans hA
  have h_j : E2 (j) = .inr (9, [.ref (B + (n)), .null, .null, vi 0, vi 0]) := by rw [e2]; exact uE_self _ _ _
  refine lv_aload_n b.1 b.2.1 dX2_init_13 rfl (lv_at hl 0 rfl) ?_
  refine lv_iconst (v := Int32.ofInt 2) b.1 b.2.1 dX2_init_14 rfl ?_
  refine ch_newq (t0 := 5) (N' := 2) b hH (li_2 40 (by decide +kernel) (by decide +kernel)) (by decide) rfl (by decide) (Nat.le_of_ble_eq_true rfl) (show _ ≤ (903 : Nat) by omega) (show _ ≤ (1862 : Nat) by omega) dX2_init_15 (fun H hH => ?_)
  obtain ⟨E3, e3, hH⟩ : ∃ z, z = uE E2 (n + 1) (.inl (zC Z 5, 2, .inr (.inr (.inr (.inr fun _ => none))))) ∧ CHp (zD Z) B H0 (n + 2) z H := ⟨_, rfl, hH⟩
  have h_j : E3 (j) = .inr (9, [.ref (B + (n)), .null, .null, vi 0, vi 0]) := by rw [e3]; exact (uE_ne (by omega)).trans h_j
  have hA : E3 (n) = .inl (zC Z 5, 8, .inr (.inr (.inr (.inr fun _ => none)))) := by rw [e3]; exact (uE_ne (by omega)).trans hA
  have hB : E3 (n + 1) = .inl (zC Z 5, 2, .inr (.inr (.inr (.inr fun _ => none)))) := by rw [e3]; exact uE_self _ _ _
  refine ch_putG (k := 1) (j := j) (ty0 := tyX2) (fin := true) b hH (by omega) h_j rfl in_9 tyX2_ok nmX2 (by decide) rfl (Nat.le_of_ble_eq_true rfl) rfl rfl hnm rfl hlo hzB (li_2 44 (by decide +kernel) (by decide +kernel)) dX2_init_18 (fun H locs hH hlo => ?_)
  obtain ⟨E4, e4, hH⟩ : ∃ z, z = uE E3 (j) (.inr (9, [.ref (B + (n)), .ref (B + (n + 1)), .null, vi 0, vi 0])) ∧ CHp (zD Z) B H0 (n + 2) z H := ⟨_, rfl, hH⟩
  have hA : E4 (n) = .inl (zC Z 5, 8, .inr (.inr (.inr (.inr fun _ => none)))) := by rw [e4]; exact (uE_ne (by omega)).trans hA
  have hB : E4 (n + 1) = .inl (zC Z 5, 2, .inr (.inr (.inr (.inr fun _ => none)))) := by rw [e4]; exact (uE_ne (by omega)).trans hB
  have h_j : E4 (j) = .inr (9, [.ref (B + (n)), .ref (B + (n + 1)), .null, vi 0, vi 0]) := by rw [e4]; exact uE_self _ _ _
  refine lv_aload_n b.1 b.2.1 dX2_init_21 rfl (lv_at hl 0 rfl) ?_
  refine lv_iconst (v := Int32.ofInt 2) b.1 b.2.1 dX2_init_22 rfl ?_
  refine ch_newa (atype := .boolean) (ty := .boolean) (cA := zC Z 1) (t0 := 1) (N' := 2) b hH (li_2 59 (by decide +kernel) (by decide +kernel)) rfl rfl (fun _ h => h) rfl (by decide) (Nat.le_of_ble_eq_true rfl) (show _ ≤ (903 : Nat) by omega) (show _ ≤ (1862 : Nat) by omega) dX2_init_23 (fun H hH => ?_)
  obtain ⟨E5, e5, hH⟩ : ∃ z, z = uE E4 (n + 2) (arI (zC Z 1) 2 (fun _ => 0)) ∧ CHp (zD Z) B H0 (n + 3) z H := ⟨_, rfl, hH⟩
  have h_j : E5 (j) = .inr (9, [.ref (B + (n)), .ref (B + (n + 1)), .null, vi 0, vi 0]) := by rw [e5]; exact (uE_ne (by omega)).trans h_j
  have hA : E5 (n) = .inl (zC Z 5, 8, .inr (.inr (.inr (.inr fun _ => none)))) := by rw [e5]; exact (uE_ne (by omega)).trans hA
  have hB : E5 (n + 1) = .inl (zC Z 5, 2, .inr (.inr (.inr (.inr fun _ => none)))) := by rw [e5]; exact (uE_ne (by omega)).trans hB
  refine ch_putG (k := 2) (j := j) (ty0 := tyX2) (fin := true) b hH (by omega) h_j rfl in_9 tyX2_ok nmX2 (by decide) rfl (Nat.le_of_ble_eq_true rfl) rfl rfl hnm rfl hlo hzB (li_2 45 (by decide +kernel) (by decide +kernel)) dX2_init_25 (fun H locs hH hlo => ?_)
  obtain ⟨E6, e6, hH⟩ : ∃ z, z = uE E5 (j) (.inr (9, [.ref (B + (n)), .ref (B + (n + 1)), .ref (B + (n + 2)), vi 0, vi 0])) ∧ CHp (zD Z) B H0 (n + 3) z H := ⟨_, rfl, hH⟩
  have hA : E6 (n) = .inl (zC Z 5, 8, .inr (.inr (.inr (.inr fun _ => none)))) := by rw [e6]; exact (uE_ne (by omega)).trans hA
  have hB : E6 (n + 1) = .inl (zC Z 5, 2, .inr (.inr (.inr (.inr fun _ => none)))) := by rw [e6]; exact (uE_ne (by omega)).trans hB
  have h_j : E6 (j) = .inr (9, [.ref (B + (n)), .ref (B + (n + 1)), .ref (B + (n + 2)), vi 0, vi 0]) := by rw [e6]; exact uE_self _ _ _
  refine lv_iconst (v := Int32.ofInt 0) b.1 b.2.1 dX2_init_28 rfl ?_
  refine lv_istore_n (lv' := [(1, vi 0), (0, .ref (B + j))]) b.1 b.2.1 dX2_init_29 rfl hl (by decide) rfl (fun ls hl => ?_)
  refine W.widen (k := 3 + 90 * 0) (n := 12 + 185 * 0) (by omega) (by omega) ?_
  exact lp0 8 0 E6 H locs ls (by omega) (by subst e1 e2 e3 e4 e5 e6 eE; rfl) hH h_j hA hlo (lv_sub hl [1, 0] rfl)
def E_RX12 (Z : ZT) (B : Nat) (E : Nat → va_E) : Nat → va_E := uE (uE (E_RX4 Z B (1111) (1110) (uE (uE (E_RX2 Z B (207) (206) (uE (uE (E_RX6 Z B (199) (198) (uE (uE (E_RX7 Z B (198) (197) (uE (uE (E_RX8 Z B (196) (195) (uE (uE (E_RX10 Z B (189) (188) (uE (uE (E_RX9 Z B (182) (181) (uE (uE (E_RX1 Z B (92) (91) (uE (uE (E_RX1 Z B (2) (1) (uE E (1) (.inr (1, [.null, .null, .null, .null, .null, .null, vi 0, vi 0, vi 0, vi 0]))) ) (0) (.inr (0, [.ref (B + (1)), .null, .null, .null, .null, .null, .null, .null, .null, vi 0]))) (91) (.inr (1, [.null, .null, .null, .null, .null, .null, vi 0, vi 0, vi 0, vi 0]))) ) (0) (.inr (0, [.ref (B + (1)), .ref (B + (91)), .null, .null, .null, .null, .null, .null, .null, vi 0]))) (181) (.inr (3, [.null, .null]))) ) (0) (.inr (0, [.ref (B + (1)), .ref (B + (91)), .ref (B + (181)), .null, .null, .null, .null, .null, .null, vi 0]))) (188) (.inr (5, [.null, .null, .null, .null, .null, .null, vi 0, vi 0]))) ) (0) (.inr (0, [.ref (B + (1)), .ref (B + (91)), .ref (B + (181)), .ref (B + (188)), .null, .null, .null, .null, .null, vi 0]))) (195) (.inr (6, [.null, vi 0, vi 0, vi 0, vi 0, vi 0, vi 0, vi 0]))) ) (0) (.inr (0, [.ref (B + (1)), .ref (B + (91)), .ref (B + (181)), .ref (B + (188)), .ref (B + (195)), .null, .null, .null, .null, vi 0]))) (197) (.inr (7, [.null, .null, vi 0, vi 0, vi 0, vi 0, vi 0]))) ((B + (195))) ((B + (91))) ) (0) (.inr (0, [.ref (B + (1)), .ref (B + (91)), .ref (B + (181)), .ref (B + (188)), .ref (B + (195)), .ref (B + (197)), .null, .null, .null, vi 0]))) (198) (.inr (8, [.null, .null, .null, .null, .null, .null, .null, .null, vi 0, vi 0, vi 0]))) ((B + (195))) ) (0) (.inr (0, [.ref (B + (1)), .ref (B + (91)), .ref (B + (181)), .ref (B + (188)), .ref (B + (195)), .ref (B + (197)), .ref (B + (198)), .null, .null, vi 0]))) (206) (.inr (9, [.null, .null, .null, vi 0, vi 0]))) ) (0) (.inr (0, [.ref (B + (1)), .ref (B + (91)), .ref (B + (181)), .ref (B + (188)), .ref (B + (195)), .ref (B + (197)), .ref (B + (198)), .ref (B + (206)), .null, vi 0]))) (1110) (.inr (10, [.null, vi 0]))) ) (0) (.inr (0, [.ref (B + (1)), .ref (B + (91)), .ref (B + (181)), .ref (B + (188)), .ref (B + (195)), .ref (B + (197)), .ref (B + (198)), .ref (B + (206)), .ref (B + (1110)), vi 0]))) (0) (.inr (0, [.ref (B + (1)), .ref (B + (91)), .ref (B + (181)), .ref (B + (188)), .ref (B + (195)), .ref (B + (197)), .ref (B + (198)), .ref (B + (206)), .ref (B + (1110)), vi (-1)]))
set_option maxRecDepth 20000 in
set_option maxHeartbeats 4000000 in
theorem W_RX12 {p : Program} {l : Launch} {e : Env} {s : State} {m : MethodId} {args : Array Value} {below : List Frame} {meth : Method} {c : Code} {ls : Array Slot} {Q : State → Prop} {H : Heap} {mc ms : Nat} (Z : ZT) (B : Nat) (H0 : Heap) (E : Nat → va_E) (hfl : l.stackTraces = false) (hzB : zB Z ≤ B) (hZ : zB Z = B ∧ zH Z = H0) (hmc : 1111 ≤ mc) (hms : 21377 ≤ ms) (b : BB p s m args c RX12 cX12_init 1 Z) (hH : CHp (zD Z) B H0 1 E H) (h_j : E 0 = .inr (0, [.null, .null, .null, .null, .null, .null, .null, .null, .null, vi 0])) (hnm : meth.name = "<init>") (hl : lv_has ls 1 [(0, .ref (B + 0))])
    (kk : ∀ (H1 : Heap) (locs1 : List Loc), CHp (zD Z) B H0 1112 (E_RX12 Z B E) H1 → (∀ q ∈ locs1, zN Z q.base) → W p l e (rmH 4 mc ms) s m args below meth c H1 locs1 1111 21377 Q (F0 m 120 ls [])) : W p l e (rmH 4 mc ms) s m args below meth c H [] 0 0 Q (F0 m 0 ls []) := by
  have hlo : ∀ q ∈ ([] : List Loc), zN Z q.base := fun q hq => by cases hq
  refine lv_aload_n b.1 b.2.1 dX12_init_0 rfl (lv_at hl 0 rfl) ?_
  refine ch_obj b hl.1 (li_1 35 (by decide +kernel) (by decide +kernel)) (Nat.le_of_ble_eq_true rfl) (Nat.le_of_ble_eq_true rfl) dX12_init_1 ?_
  refine lv_aload_n b.1 b.2.1 dX12_init_4 rfl (lv_at hl 0 rfl) ?_
  refine ch_new (ci := 1) tyX1 [.null, .null, .null, .null, .null, .null, vi 0, vi 0, vi 0, vi 0] b hH in_1 tyX1_ok (li_1 38 (by decide +kernel) (by decide +kernel)) (li_1 39 (by decide +kernel) (by decide +kernel)) (li_1 2 (by decide +kernel) (by decide +kernel)) rfl (fun j hj => by rcases (show j = 0 ∨ j = 1 ∨ j = 2 ∨ j = 3 ∨ j = 4 ∨ j = 5 ∨ j = 6 ∨ j = 7 ∨ j = 8 ∨ j = 9 by omega) with rfl | rfl | rfl | rfl | rfl | rfl | rfl | rfl | rfl | rfl <;> rfl) (show _ ≤ (mc : Nat) by omega) (show _ ≤ (ms : Nat) by omega) dX12_init_5 (fun H hH => ?_)
  obtain ⟨E1, e1, hH⟩ : ∃ z, z = uE E (1) (.inr (1, [.null, .null, .null, .null, .null, .null, vi 0, vi 0, vi 0, vi 0])) ∧ CHp (zD Z) B H0 (2) z H := ⟨_, rfl, hH⟩
  have h_j : E1 (0) = .inr (0, [.null, .null, .null, .null, .null, .null, .null, .null, .null, vi 0]) := by rw [e1]; exact (uE_ne (by omega)).trans h_j
  have hn1 : E1 (1) = .inr (1, [.null, .null, .null, .null, .null, .null, vi 0, vi 0, vi 0, vi 0]) := by rw [e1]; exact uE_self _ _ _
  refine lv_dup b.1 b.2.1 dX12_init_8 rfl ?_
  refine ch_call (y' := yX1_init) (cc' := cX1_init) (maxL' := 2) (h' := 2) (nA := 0) (a := B + (1)) (As := []) (rest := [.ref (B + (1)), .ref (B + 0)]) b hl.1 (C_RX1 Z B H0 (2) (1) E1 hzB (by omega) hn1) hH hfl (li_1 42 (by decide +kernel) (by decide +kernel)) (li_1 40 (by decide +kernel) (by decide +kernel)) (li_1 41 (by decide +kernel) (by decide +kernel)) (li_1 2 (by decide +kernel) (by decide +kernel)) rfl (by decide +kernel) rfl rfl ⟨Nat.le_of_ble_eq_true rfl, Nat.le_of_ble_eq_true rfl⟩ (Nat.le_of_ble_eq_true rfl) ⟨show _ ≤ (mc : Nat) by omega, show _ ≤ (ms : Nat) by omega⟩ hlo dX12_init_9 (fun H locs hH hlo => ?_)
  obtain ⟨E2, e2, hH⟩ : ∃ z, z = E_RX1 Z B (2) (1) E1  ∧ CHp (zD Z) B H0 (91) z H := ⟨_, rfl, hH⟩
  have h_j : E2 (0) = .inr (0, [.null, .null, .null, .null, .null, .null, .null, .null, .null, vi 0]) := by rw [e2]; exact (E_RX1_old (by omega) (by omega)).trans h_j
  refine ch_putG (k := 0) (j := 0) (ty0 := tyX12) (fin := true) b hH (by omega) h_j rfl in_0 tyX12_ok nmX12 (by decide) rfl (Nat.le_of_ble_eq_true rfl) rfl rfl hnm rfl hlo hzB (li_2 100 (by decide +kernel) (by decide +kernel)) dX12_init_12 (fun H locs hH hlo => ?_)
  obtain ⟨E3, e3, hH⟩ : ∃ z, z = uE E2 (0) (.inr (0, [.ref (B + (1)), .null, .null, .null, .null, .null, .null, .null, .null, vi 0])) ∧ CHp (zD Z) B H0 (91) z H := ⟨_, rfl, hH⟩
  have h_j : E3 (0) = .inr (0, [.ref (B + (1)), .null, .null, .null, .null, .null, .null, .null, .null, vi 0]) := by rw [e3]; exact uE_self _ _ _
  refine lv_aload_n b.1 b.2.1 dX12_init_15 rfl (lv_at hl 0 rfl) ?_
  refine ch_new (ci := 1) tyX1 [.null, .null, .null, .null, .null, .null, vi 0, vi 0, vi 0, vi 0] b hH in_1 tyX1_ok (li_1 38 (by decide +kernel) (by decide +kernel)) (li_1 39 (by decide +kernel) (by decide +kernel)) (li_1 2 (by decide +kernel) (by decide +kernel)) rfl (fun j hj => by rcases (show j = 0 ∨ j = 1 ∨ j = 2 ∨ j = 3 ∨ j = 4 ∨ j = 5 ∨ j = 6 ∨ j = 7 ∨ j = 8 ∨ j = 9 by omega) with rfl | rfl | rfl | rfl | rfl | rfl | rfl | rfl | rfl | rfl <;> rfl) (show _ ≤ (mc : Nat) by omega) (show _ ≤ (ms : Nat) by omega) dX12_init_16 (fun H hH => ?_)
  obtain ⟨E4, e4, hH⟩ : ∃ z, z = uE E3 (91) (.inr (1, [.null, .null, .null, .null, .null, .null, vi 0, vi 0, vi 0, vi 0])) ∧ CHp (zD Z) B H0 (92) z H := ⟨_, rfl, hH⟩
  have h_j : E4 (0) = .inr (0, [.ref (B + (1)), .null, .null, .null, .null, .null, .null, .null, .null, vi 0]) := by rw [e4]; exact (uE_ne (by omega)).trans h_j
  have hn2 : E4 (91) = .inr (1, [.null, .null, .null, .null, .null, .null, vi 0, vi 0, vi 0, vi 0]) := by rw [e4]; exact uE_self _ _ _
  refine lv_dup b.1 b.2.1 dX12_init_19 rfl ?_
  refine ch_call (y' := yX1_init) (cc' := cX1_init) (maxL' := 2) (h' := 2) (nA := 0) (a := B + (91)) (As := []) (rest := [.ref (B + (91)), .ref (B + 0)]) b hl.1 (C_RX1 Z B H0 (92) (91) E4 hzB (by omega) hn2) hH hfl (li_1 42 (by decide +kernel) (by decide +kernel)) (li_1 40 (by decide +kernel) (by decide +kernel)) (li_1 41 (by decide +kernel) (by decide +kernel)) (li_1 2 (by decide +kernel) (by decide +kernel)) rfl (by decide +kernel) rfl rfl ⟨Nat.le_of_ble_eq_true rfl, Nat.le_of_ble_eq_true rfl⟩ (Nat.le_of_ble_eq_true rfl) ⟨show _ ≤ (mc : Nat) by omega, show _ ≤ (ms : Nat) by omega⟩ hlo dX12_init_20 (fun H locs hH hlo => ?_)
  obtain ⟨E5, e5, hH⟩ : ∃ z, z = E_RX1 Z B (92) (91) E4  ∧ CHp (zD Z) B H0 (181) z H := ⟨_, rfl, hH⟩
  have h_j : E5 (0) = .inr (0, [.ref (B + (1)), .null, .null, .null, .null, .null, .null, .null, .null, vi 0]) := by rw [e5]; exact (E_RX1_old (by omega) (by omega)).trans h_j
  refine ch_putG (k := 1) (j := 0) (ty0 := tyX12) (fin := true) b hH (by omega) h_j rfl in_0 tyX12_ok nmX12 (by decide) rfl (Nat.le_of_ble_eq_true rfl) rfl rfl hnm rfl hlo hzB (li_2 101 (by decide +kernel) (by decide +kernel)) dX12_init_23 (fun H locs hH hlo => ?_)
  obtain ⟨E6, e6, hH⟩ : ∃ z, z = uE E5 (0) (.inr (0, [.ref (B + (1)), .ref (B + (91)), .null, .null, .null, .null, .null, .null, .null, vi 0])) ∧ CHp (zD Z) B H0 (181) z H := ⟨_, rfl, hH⟩
  have h_j : E6 (0) = .inr (0, [.ref (B + (1)), .ref (B + (91)), .null, .null, .null, .null, .null, .null, .null, vi 0]) := by rw [e6]; exact uE_self _ _ _
  refine lv_aload_n b.1 b.2.1 dX12_init_26 rfl (lv_at hl 0 rfl) ?_
  refine ch_new (ci := 3) tyX9 [.null, .null] b hH in_3 tyX9_ok (li_1 90 (by decide +kernel) (by decide +kernel)) (li_1 91 (by decide +kernel) (by decide +kernel)) (li_1 4 (by decide +kernel) (by decide +kernel)) rfl (fun j hj => by rcases (show j = 0 ∨ j = 1 by omega) with rfl | rfl <;> rfl) (show _ ≤ (mc : Nat) by omega) (show _ ≤ (ms : Nat) by omega) dX12_init_27 (fun H hH => ?_)
  obtain ⟨E7, e7, hH⟩ : ∃ z, z = uE E6 (181) (.inr (3, [.null, .null])) ∧ CHp (zD Z) B H0 (182) z H := ⟨_, rfl, hH⟩
  have h_j : E7 (0) = .inr (0, [.ref (B + (1)), .ref (B + (91)), .null, .null, .null, .null, .null, .null, .null, vi 0]) := by rw [e7]; exact (uE_ne (by omega)).trans h_j
  have hn3 : E7 (181) = .inr (3, [.null, .null]) := by rw [e7]; exact uE_self _ _ _
  refine lv_dup b.1 b.2.1 dX12_init_30 rfl ?_
  refine ch_callN (y' := yX9_init) (cc' := cX9_init) (maxL' := 1) (h' := 2) (nA := 0) (a := B + (181)) (As := []) (rest := [.ref (B + (181)), .ref (B + 0)]) (host := "PairRules") b hl.1 (C_RX9 Z B H0 (182) (181) E7 hzB (by omega) hn3) hH hfl (li_1 94 (by decide +kernel) (by decide +kernel)) (nw_in 229 (by decide +kernel) (by decide +kernel)) (li_1 93 (by decide +kernel) (by decide +kernel)) (li_1 4 (by decide +kernel) (by decide +kernel)) rfl (by decide +kernel) rfl rfl ⟨Nat.le_of_ble_eq_true rfl, Nat.le_of_ble_eq_true rfl⟩ (Nat.le_of_ble_eq_true rfl) ⟨show _ ≤ (mc : Nat) by omega, show _ ≤ (ms : Nat) by omega⟩ hlo dX12_init_31 (fun H locs hH hlo => ?_)
  obtain ⟨E8, e8, hH⟩ : ∃ z, z = E_RX9 Z B (182) (181) E7  ∧ CHp (zD Z) B H0 (188) z H := ⟨_, rfl, hH⟩
  have h_j : E8 (0) = .inr (0, [.ref (B + (1)), .ref (B + (91)), .null, .null, .null, .null, .null, .null, .null, vi 0]) := by rw [e8]; exact (E_RX9_old (by omega) (by omega)).trans h_j
  refine ch_putG (k := 2) (j := 0) (ty0 := tyX12) (fin := true) b hH (by omega) h_j rfl in_0 tyX12_ok nmX12 (by decide) rfl (Nat.le_of_ble_eq_true rfl) rfl rfl hnm rfl hlo hzB (li_2 102 (by decide +kernel) (by decide +kernel)) dX12_init_34 (fun H locs hH hlo => ?_)
  obtain ⟨E9, e9, hH⟩ : ∃ z, z = uE E8 (0) (.inr (0, [.ref (B + (1)), .ref (B + (91)), .ref (B + (181)), .null, .null, .null, .null, .null, .null, vi 0])) ∧ CHp (zD Z) B H0 (188) z H := ⟨_, rfl, hH⟩
  have h_j : E9 (0) = .inr (0, [.ref (B + (1)), .ref (B + (91)), .ref (B + (181)), .null, .null, .null, .null, .null, .null, vi 0]) := by rw [e9]; exact uE_self _ _ _
  refine lv_aload_n b.1 b.2.1 dX12_init_37 rfl (lv_at hl 0 rfl) ?_
  refine ch_new (ci := 5) tyX10 [.null, .null, .null, .null, .null, .null, vi 0, vi 0] b hH in_5 tyX10_ok (li_1 140 (by decide +kernel) (by decide +kernel)) (li_1 141 (by decide +kernel) (by decide +kernel)) (li_1 6 (by decide +kernel) (by decide +kernel)) rfl (fun j hj => by rcases (show j = 0 ∨ j = 1 ∨ j = 2 ∨ j = 3 ∨ j = 4 ∨ j = 5 ∨ j = 6 ∨ j = 7 by omega) with rfl | rfl | rfl | rfl | rfl | rfl | rfl | rfl <;> rfl) (show _ ≤ (mc : Nat) by omega) (show _ ≤ (ms : Nat) by omega) dX12_init_38 (fun H hH => ?_)
  obtain ⟨E10, e10, hH⟩ : ∃ z, z = uE E9 (188) (.inr (5, [.null, .null, .null, .null, .null, .null, vi 0, vi 0])) ∧ CHp (zD Z) B H0 (189) z H := ⟨_, rfl, hH⟩
  have h_j : E10 (0) = .inr (0, [.ref (B + (1)), .ref (B + (91)), .ref (B + (181)), .null, .null, .null, .null, .null, .null, vi 0]) := by rw [e10]; exact (uE_ne (by omega)).trans h_j
  have hn4 : E10 (188) = .inr (5, [.null, .null, .null, .null, .null, .null, vi 0, vi 0]) := by rw [e10]; exact uE_self _ _ _
  refine lv_dup b.1 b.2.1 dX12_init_41 rfl ?_
  refine ch_callN (y' := yX10_init) (cc' := cX10_init) (maxL' := 1) (h' := 1) (nA := 0) (a := B + (188)) (As := []) (rest := [.ref (B + (188)), .ref (B + 0)]) (host := "PairRules") b hl.1 (C_RX10 Z B H0 (189) (188) E10 hzB (by omega) hn4) hH hfl (li_1 144 (by decide +kernel) (by decide +kernel)) (nw_in 279 (by decide +kernel) (by decide +kernel)) (li_1 143 (by decide +kernel) (by decide +kernel)) (li_1 6 (by decide +kernel) (by decide +kernel)) rfl (by decide +kernel) rfl rfl ⟨Nat.le_of_ble_eq_true rfl, Nat.le_of_ble_eq_true rfl⟩ (Nat.le_of_ble_eq_true rfl) ⟨show _ ≤ (mc : Nat) by omega, show _ ≤ (ms : Nat) by omega⟩ hlo dX12_init_42 (fun H locs hH hlo => ?_)
  obtain ⟨E11, e11, hH⟩ : ∃ z, z = E_RX10 Z B (189) (188) E10  ∧ CHp (zD Z) B H0 (195) z H := ⟨_, rfl, hH⟩
  have h_j : E11 (0) = .inr (0, [.ref (B + (1)), .ref (B + (91)), .ref (B + (181)), .null, .null, .null, .null, .null, .null, vi 0]) := by rw [e11]; exact (E_RX10_old (by omega) (by omega)).trans h_j
  refine ch_putG (k := 3) (j := 0) (ty0 := tyX12) (fin := true) b hH (by omega) h_j rfl in_0 tyX12_ok nmX12 (by decide) rfl (Nat.le_of_ble_eq_true rfl) rfl rfl hnm rfl hlo hzB (li_2 103 (by decide +kernel) (by decide +kernel)) dX12_init_45 (fun H locs hH hlo => ?_)
  obtain ⟨E12, e12, hH⟩ : ∃ z, z = uE E11 (0) (.inr (0, [.ref (B + (1)), .ref (B + (91)), .ref (B + (181)), .ref (B + (188)), .null, .null, .null, .null, .null, vi 0])) ∧ CHp (zD Z) B H0 (195) z H := ⟨_, rfl, hH⟩
  have h_j : E12 (0) = .inr (0, [.ref (B + (1)), .ref (B + (91)), .ref (B + (181)), .ref (B + (188)), .null, .null, .null, .null, .null, vi 0]) := by rw [e12]; exact uE_self _ _ _
  refine lv_aload_n b.1 b.2.1 dX12_init_48 rfl (lv_at hl 0 rfl) ?_
  refine ch_new (ci := 6) tyX8 [.null, vi 0, vi 0, vi 0, vi 0, vi 0, vi 0, vi 0] b hH in_6 tyX8_ok (li_1 171 (by decide +kernel) (by decide +kernel)) (li_1 172 (by decide +kernel) (by decide +kernel)) (li_1 7 (by decide +kernel) (by decide +kernel)) rfl (fun j hj => by rcases (show j = 0 ∨ j = 1 ∨ j = 2 ∨ j = 3 ∨ j = 4 ∨ j = 5 ∨ j = 6 ∨ j = 7 by omega) with rfl | rfl | rfl | rfl | rfl | rfl | rfl | rfl <;> rfl) (show _ ≤ (mc : Nat) by omega) (show _ ≤ (ms : Nat) by omega) dX12_init_49 (fun H hH => ?_)
  obtain ⟨E13, e13, hH⟩ : ∃ z, z = uE E12 (195) (.inr (6, [.null, vi 0, vi 0, vi 0, vi 0, vi 0, vi 0, vi 0])) ∧ CHp (zD Z) B H0 (196) z H := ⟨_, rfl, hH⟩
  have h_j : E13 (0) = .inr (0, [.ref (B + (1)), .ref (B + (91)), .ref (B + (181)), .ref (B + (188)), .null, .null, .null, .null, .null, vi 0]) := by rw [e13]; exact (uE_ne (by omega)).trans h_j
  have hn5 : E13 (195) = .inr (6, [.null, vi 0, vi 0, vi 0, vi 0, vi 0, vi 0, vi 0]) := by rw [e13]; exact uE_self _ _ _
  refine lv_dup b.1 b.2.1 dX12_init_52 rfl ?_
  refine ch_callN (y' := yX8_init) (cc' := cX8_init) (maxL' := 1) (h' := 1) (nA := 0) (a := B + (195)) (As := []) (rest := [.ref (B + (195)), .ref (B + 0)]) (host := "PairRules") b hl.1 (C_RX8 Z B H0 (196) (195) E13 hzB (by omega) hn5) hH hfl (li_1 175 (by decide +kernel) (by decide +kernel)) (nw_in 310 (by decide +kernel) (by decide +kernel)) (li_1 174 (by decide +kernel) (by decide +kernel)) (li_1 7 (by decide +kernel) (by decide +kernel)) rfl (by decide +kernel) rfl rfl ⟨Nat.le_of_ble_eq_true rfl, Nat.le_of_ble_eq_true rfl⟩ (Nat.le_of_ble_eq_true rfl) ⟨show _ ≤ (mc : Nat) by omega, show _ ≤ (ms : Nat) by omega⟩ hlo dX12_init_53 (fun H locs hH hlo => ?_)
  obtain ⟨E14, e14, hH⟩ : ∃ z, z = E_RX8 Z B (196) (195) E13  ∧ CHp (zD Z) B H0 (197) z H := ⟨_, rfl, hH⟩
  have h_j : E14 (0) = .inr (0, [.ref (B + (1)), .ref (B + (91)), .ref (B + (181)), .ref (B + (188)), .null, .null, .null, .null, .null, vi 0]) := by rw [e14]; exact (E_RX8_old (by omega) (by omega)).trans h_j
  refine ch_putG (k := 4) (j := 0) (ty0 := tyX12) (fin := true) b hH (by omega) h_j rfl in_0 tyX12_ok nmX12 (by decide) rfl (Nat.le_of_ble_eq_true rfl) rfl rfl hnm rfl hlo hzB (li_2 104 (by decide +kernel) (by decide +kernel)) dX12_init_56 (fun H locs hH hlo => ?_)
  obtain ⟨E15, e15, hH⟩ : ∃ z, z = uE E14 (0) (.inr (0, [.ref (B + (1)), .ref (B + (91)), .ref (B + (181)), .ref (B + (188)), .ref (B + (195)), .null, .null, .null, .null, vi 0])) ∧ CHp (zD Z) B H0 (197) z H := ⟨_, rfl, hH⟩
  have h_j : E15 (0) = .inr (0, [.ref (B + (1)), .ref (B + (91)), .ref (B + (181)), .ref (B + (188)), .ref (B + (195)), .null, .null, .null, .null, vi 0]) := by rw [e15]; exact uE_self _ _ _
  refine lv_aload_n b.1 b.2.1 dX12_init_59 rfl (lv_at hl 0 rfl) ?_
  refine ch_new (ci := 7) tyX7 [.null, .null, vi 0, vi 0, vi 0, vi 0, vi 0] b hH in_7 tyX7_ok (li_1 202 (by decide +kernel) (by decide +kernel)) (li_1 203 (by decide +kernel) (by decide +kernel)) (li_1 8 (by decide +kernel) (by decide +kernel)) rfl (fun j hj => by rcases (show j = 0 ∨ j = 1 ∨ j = 2 ∨ j = 3 ∨ j = 4 ∨ j = 5 ∨ j = 6 by omega) with rfl | rfl | rfl | rfl | rfl | rfl | rfl <;> rfl) (show _ ≤ (mc : Nat) by omega) (show _ ≤ (ms : Nat) by omega) dX12_init_60 (fun H hH => ?_)
  obtain ⟨E16, e16, hH⟩ : ∃ z, z = uE E15 (197) (.inr (7, [.null, .null, vi 0, vi 0, vi 0, vi 0, vi 0])) ∧ CHp (zD Z) B H0 (198) z H := ⟨_, rfl, hH⟩
  have h_j : E16 (0) = .inr (0, [.ref (B + (1)), .ref (B + (91)), .ref (B + (181)), .ref (B + (188)), .ref (B + (195)), .null, .null, .null, .null, vi 0]) := by rw [e16]; exact (uE_ne (by omega)).trans h_j
  have hn6 : E16 (197) = .inr (7, [.null, .null, vi 0, vi 0, vi 0, vi 0, vi 0]) := by rw [e16]; exact uE_self _ _ _
  refine lv_dup b.1 b.2.1 dX12_init_63 rfl ?_
  refine lv_aload_n b.1 b.2.1 dX12_init_64 rfl (lv_at hl 0 rfl) ?_
  refine ch_get (k := 4) (j := 0) b hH (by omega) h_j rfl in_0 (by decide) rfl rfl (li_2 104 (by decide +kernel) (by decide +kernel)) dX12_init_65 ?_
  refine lv_aload_n b.1 b.2.1 dX12_init_68 rfl (lv_at hl 0 rfl) ?_
  refine ch_get (k := 1) (j := 0) b hH (by omega) h_j rfl in_0 (by decide) rfl rfl (li_2 101 (by decide +kernel) (by decide +kernel)) dX12_init_69 ?_
  refine ch_call (y' := yX7_init) (cc' := cX7_init) (maxL' := 3) (h' := 1) (nA := 2) (a := B + (197)) (As := [.ref (B + (195)), .ref (B + (91))]) (rest := [.ref (B + (197)), .ref (B + 0)]) b hl.1 (C_RX7 Z B H0 (198) (197) E16 ((B + (195))) ((B + (91))) hzB (by omega) hn6) hH hfl (li_1 206 (by decide +kernel) (by decide +kernel)) (li_1 204 (by decide +kernel) (by decide +kernel)) (li_1 205 (by decide +kernel) (by decide +kernel)) (li_1 8 (by decide +kernel) (by decide +kernel)) rfl (by decide +kernel) rfl rfl ⟨Nat.le_of_ble_eq_true rfl, Nat.le_of_ble_eq_true rfl⟩ (Nat.le_of_ble_eq_true rfl) ⟨show _ ≤ (mc : Nat) by omega, show _ ≤ (ms : Nat) by omega⟩ hlo dX12_init_72 (fun H locs hH hlo => ?_)
  obtain ⟨E17, e17, hH⟩ : ∃ z, z = E_RX7 Z B (198) (197) E16 ((B + (195))) ((B + (91)))  ∧ CHp (zD Z) B H0 (198) z H := ⟨_, rfl, hH⟩
  have h_j : E17 (0) = .inr (0, [.ref (B + (1)), .ref (B + (91)), .ref (B + (181)), .ref (B + (188)), .ref (B + (195)), .null, .null, .null, .null, vi 0]) := by rw [e17]; exact (E_RX7_old (by omega) (by omega)).trans h_j
  refine ch_putG (k := 5) (j := 0) (ty0 := tyX12) (fin := true) b hH (by omega) h_j rfl in_0 tyX12_ok nmX12 (by decide) rfl (Nat.le_of_ble_eq_true rfl) rfl rfl hnm rfl hlo hzB (li_2 105 (by decide +kernel) (by decide +kernel)) dX12_init_75 (fun H locs hH hlo => ?_)
  obtain ⟨E18, e18, hH⟩ : ∃ z, z = uE E17 (0) (.inr (0, [.ref (B + (1)), .ref (B + (91)), .ref (B + (181)), .ref (B + (188)), .ref (B + (195)), .ref (B + (197)), .null, .null, .null, vi 0])) ∧ CHp (zD Z) B H0 (198) z H := ⟨_, rfl, hH⟩
  have h_j : E18 (0) = .inr (0, [.ref (B + (1)), .ref (B + (91)), .ref (B + (181)), .ref (B + (188)), .ref (B + (195)), .ref (B + (197)), .null, .null, .null, vi 0]) := by rw [e18]; exact uE_self _ _ _
  refine lv_aload_n b.1 b.2.1 dX12_init_78 rfl (lv_at hl 0 rfl) ?_
  refine ch_new (ci := 8) tyX6 [.null, .null, .null, .null, .null, .null, .null, .null, vi 0, vi 0, vi 0] b hH in_8 tyX6_ok (li_1 230 (by decide +kernel) (by decide +kernel)) (li_1 231 (by decide +kernel) (by decide +kernel)) (li_1 9 (by decide +kernel) (by decide +kernel)) rfl (fun j hj => by rcases (show j = 0 ∨ j = 1 ∨ j = 2 ∨ j = 3 ∨ j = 4 ∨ j = 5 ∨ j = 6 ∨ j = 7 ∨ j = 8 ∨ j = 9 ∨ j = 10 by omega) with rfl | rfl | rfl | rfl | rfl | rfl | rfl | rfl | rfl | rfl | rfl <;> rfl) (show _ ≤ (mc : Nat) by omega) (show _ ≤ (ms : Nat) by omega) dX12_init_79 (fun H hH => ?_)
  obtain ⟨E19, e19, hH⟩ : ∃ z, z = uE E18 (198) (.inr (8, [.null, .null, .null, .null, .null, .null, .null, .null, vi 0, vi 0, vi 0])) ∧ CHp (zD Z) B H0 (199) z H := ⟨_, rfl, hH⟩
  have h_j : E19 (0) = .inr (0, [.ref (B + (1)), .ref (B + (91)), .ref (B + (181)), .ref (B + (188)), .ref (B + (195)), .ref (B + (197)), .null, .null, .null, vi 0]) := by rw [e19]; exact (uE_ne (by omega)).trans h_j
  have hn7 : E19 (198) = .inr (8, [.null, .null, .null, .null, .null, .null, .null, .null, vi 0, vi 0, vi 0]) := by rw [e19]; exact uE_self _ _ _
  refine lv_dup b.1 b.2.1 dX12_init_82 rfl ?_
  refine lv_aload_n b.1 b.2.1 dX12_init_83 rfl (lv_at hl 0 rfl) ?_
  refine ch_get (k := 4) (j := 0) b hH (by omega) h_j rfl in_0 (by decide) rfl rfl (li_2 104 (by decide +kernel) (by decide +kernel)) dX12_init_84 ?_
  refine ch_call (y' := yX6_init) (cc' := cX6_init) (maxL' := 3) (h' := 1) (nA := 1) (a := B + (198)) (As := [.ref (B + (195))]) (rest := [.ref (B + (198)), .ref (B + 0)]) b hl.1 (C_RX6 Z B H0 (199) (198) E19 ((B + (195))) hzB hZ (by omega) hn7) hH hfl (li_1 234 (by decide +kernel) (by decide +kernel)) (li_1 232 (by decide +kernel) (by decide +kernel)) (li_1 233 (by decide +kernel) (by decide +kernel)) (li_1 9 (by decide +kernel) (by decide +kernel)) rfl (by decide +kernel) rfl rfl ⟨Nat.le_of_ble_eq_true rfl, Nat.le_of_ble_eq_true rfl⟩ (Nat.le_of_ble_eq_true rfl) ⟨show _ ≤ (mc : Nat) by omega, show _ ≤ (ms : Nat) by omega⟩ hlo dX12_init_87 (fun H locs hH hlo => ?_)
  obtain ⟨E20, e20, hH⟩ : ∃ z, z = E_RX6 Z B (199) (198) E19 ((B + (195)))  ∧ CHp (zD Z) B H0 (206) z H := ⟨_, rfl, hH⟩
  have h_j : E20 (0) = .inr (0, [.ref (B + (1)), .ref (B + (91)), .ref (B + (181)), .ref (B + (188)), .ref (B + (195)), .ref (B + (197)), .null, .null, .null, vi 0]) := by rw [e20]; exact (E_RX6_old (by omega) (by omega)).trans h_j
  refine ch_putG (k := 6) (j := 0) (ty0 := tyX12) (fin := true) b hH (by omega) h_j rfl in_0 tyX12_ok nmX12 (by decide) rfl (Nat.le_of_ble_eq_true rfl) rfl rfl hnm rfl hlo hzB (li_2 106 (by decide +kernel) (by decide +kernel)) dX12_init_90 (fun H locs hH hlo => ?_)
  obtain ⟨E21, e21, hH⟩ : ∃ z, z = uE E20 (0) (.inr (0, [.ref (B + (1)), .ref (B + (91)), .ref (B + (181)), .ref (B + (188)), .ref (B + (195)), .ref (B + (197)), .ref (B + (198)), .null, .null, vi 0])) ∧ CHp (zD Z) B H0 (206) z H := ⟨_, rfl, hH⟩
  have h_j : E21 (0) = .inr (0, [.ref (B + (1)), .ref (B + (91)), .ref (B + (181)), .ref (B + (188)), .ref (B + (195)), .ref (B + (197)), .ref (B + (198)), .null, .null, vi 0]) := by rw [e21]; exact uE_self _ _ _
  refine lv_aload_n b.1 b.2.1 dX12_init_93 rfl (lv_at hl 0 rfl) ?_
  refine ch_new (ci := 9) tyX2 [.null, .null, .null, vi 0, vi 0] b hH in_9 tyX2_ok (li_2 34 (by decide +kernel) (by decide +kernel)) (li_2 35 (by decide +kernel) (by decide +kernel)) (li_1 12 (by decide +kernel) (by decide +kernel)) rfl (fun j hj => by rcases (show j = 0 ∨ j = 1 ∨ j = 2 ∨ j = 3 ∨ j = 4 by omega) with rfl | rfl | rfl | rfl | rfl <;> rfl) (show _ ≤ (mc : Nat) by omega) (show _ ≤ (ms : Nat) by omega) dX12_init_94 (fun H hH => ?_)
  obtain ⟨E22, e22, hH⟩ : ∃ z, z = uE E21 (206) (.inr (9, [.null, .null, .null, vi 0, vi 0])) ∧ CHp (zD Z) B H0 (207) z H := ⟨_, rfl, hH⟩
  have h_j : E22 (0) = .inr (0, [.ref (B + (1)), .ref (B + (91)), .ref (B + (181)), .ref (B + (188)), .ref (B + (195)), .ref (B + (197)), .ref (B + (198)), .null, .null, vi 0]) := by rw [e22]; exact (uE_ne (by omega)).trans h_j
  have hn8 : E22 (206) = .inr (9, [.null, .null, .null, vi 0, vi 0]) := by rw [e22]; exact uE_self _ _ _
  refine lv_dup b.1 b.2.1 dX12_init_97 rfl ?_
  refine ch_call (y' := yX2_init) (cc' := cX2_init) (maxL' := 2) (h' := 3) (nA := 0) (a := B + (206)) (As := []) (rest := [.ref (B + (206)), .ref (B + 0)]) b hl.1 (C_RX2 Z B H0 (207) (206) E22 hzB (by omega) hn8) hH hfl (li_2 38 (by decide +kernel) (by decide +kernel)) (li_2 36 (by decide +kernel) (by decide +kernel)) (li_2 37 (by decide +kernel) (by decide +kernel)) (li_1 12 (by decide +kernel) (by decide +kernel)) rfl (by decide +kernel) rfl rfl ⟨Nat.le_of_ble_eq_true rfl, Nat.le_of_ble_eq_true rfl⟩ (Nat.le_of_ble_eq_true rfl) ⟨show _ ≤ (mc : Nat) by omega, show _ ≤ (ms : Nat) by omega⟩ hlo dX12_init_98 (fun H locs hH hlo => ?_)
  obtain ⟨E23, e23, hH⟩ : ∃ z, z = E_RX2 Z B (207) (206) E22  ∧ CHp (zD Z) B H0 (1110) z H := ⟨_, rfl, hH⟩
  have h_j : E23 (0) = .inr (0, [.ref (B + (1)), .ref (B + (91)), .ref (B + (181)), .ref (B + (188)), .ref (B + (195)), .ref (B + (197)), .ref (B + (198)), .null, .null, vi 0]) := by rw [e23]; exact (E_RX2_old (by omega) (by omega)).trans h_j
  refine ch_putG (k := 7) (j := 0) (ty0 := tyX12) (fin := true) b hH (by omega) h_j rfl in_0 tyX12_ok nmX12 (by decide) rfl (Nat.le_of_ble_eq_true rfl) rfl rfl hnm rfl hlo hzB (li_2 107 (by decide +kernel) (by decide +kernel)) dX12_init_101 (fun H locs hH hlo => ?_)
  obtain ⟨E24, e24, hH⟩ : ∃ z, z = uE E23 (0) (.inr (0, [.ref (B + (1)), .ref (B + (91)), .ref (B + (181)), .ref (B + (188)), .ref (B + (195)), .ref (B + (197)), .ref (B + (198)), .ref (B + (206)), .null, vi 0])) ∧ CHp (zD Z) B H0 (1110) z H := ⟨_, rfl, hH⟩
  have h_j : E24 (0) = .inr (0, [.ref (B + (1)), .ref (B + (91)), .ref (B + (181)), .ref (B + (188)), .ref (B + (195)), .ref (B + (197)), .ref (B + (198)), .ref (B + (206)), .null, vi 0]) := by rw [e24]; exact uE_self _ _ _
  refine lv_aload_n b.1 b.2.1 dX12_init_104 rfl (lv_at hl 0 rfl) ?_
  refine ch_new (ci := 10) tyX4 [.null, vi 0] b hH in_10 tyX4_ok (li_2 60 (by decide +kernel) (by decide +kernel)) (li_2 61 (by decide +kernel) (by decide +kernel)) (li_1 13 (by decide +kernel) (by decide +kernel)) rfl (fun j hj => by rcases (show j = 0 ∨ j = 1 by omega) with rfl | rfl <;> rfl) (show _ ≤ (mc : Nat) by omega) (show _ ≤ (ms : Nat) by omega) dX12_init_105 (fun H hH => ?_)
  obtain ⟨E25, e25, hH⟩ : ∃ z, z = uE E24 (1110) (.inr (10, [.null, vi 0])) ∧ CHp (zD Z) B H0 (1111) z H := ⟨_, rfl, hH⟩
  have h_j : E25 (0) = .inr (0, [.ref (B + (1)), .ref (B + (91)), .ref (B + (181)), .ref (B + (188)), .ref (B + (195)), .ref (B + (197)), .ref (B + (198)), .ref (B + (206)), .null, vi 0]) := by rw [e25]; exact (uE_ne (by omega)).trans h_j
  have hn9 : E25 (1110) = .inr (10, [.null, vi 0]) := by rw [e25]; exact uE_self _ _ _
  refine lv_dup b.1 b.2.1 dX12_init_108 rfl ?_
  refine ch_callN (y' := yX4_init) (cc' := cX4_init) (maxL' := 1) (h' := 1) (nA := 0) (a := B + (1110)) (As := []) (rest := [.ref (B + (1110)), .ref (B + 0)]) (host := "PairRules") b hl.1 (C_RX4 Z B H0 (1111) (1110) E25 hzB (by omega) hn9) hH hfl (li_2 64 (by decide +kernel) (by decide +kernel)) (nw_in 439 (by decide +kernel) (by decide +kernel)) (li_2 63 (by decide +kernel) (by decide +kernel)) (li_1 13 (by decide +kernel) (by decide +kernel)) rfl (by decide +kernel) rfl rfl ⟨Nat.le_of_ble_eq_true rfl, Nat.le_of_ble_eq_true rfl⟩ (Nat.le_of_ble_eq_true rfl) ⟨show _ ≤ (mc : Nat) by omega, show _ ≤ (ms : Nat) by omega⟩ hlo dX12_init_109 (fun H locs hH hlo => ?_)
  obtain ⟨E26, e26, hH⟩ : ∃ z, z = E_RX4 Z B (1111) (1110) E25  ∧ CHp (zD Z) B H0 (1112) z H := ⟨_, rfl, hH⟩
  have h_j : E26 (0) = .inr (0, [.ref (B + (1)), .ref (B + (91)), .ref (B + (181)), .ref (B + (188)), .ref (B + (195)), .ref (B + (197)), .ref (B + (198)), .ref (B + (206)), .null, vi 0]) := by rw [e26]; exact (E_RX4_old (by omega) (by omega)).trans h_j
  refine ch_putG (k := 8) (j := 0) (ty0 := tyX12) (fin := true) b hH (by omega) h_j rfl in_0 tyX12_ok nmX12 (by decide) rfl (Nat.le_of_ble_eq_true rfl) rfl rfl hnm rfl hlo hzB (li_2 108 (by decide +kernel) (by decide +kernel)) dX12_init_112 (fun H locs hH hlo => ?_)
  obtain ⟨E27, e27, hH⟩ : ∃ z, z = uE E26 (0) (.inr (0, [.ref (B + (1)), .ref (B + (91)), .ref (B + (181)), .ref (B + (188)), .ref (B + (195)), .ref (B + (197)), .ref (B + (198)), .ref (B + (206)), .ref (B + (1110)), vi 0])) ∧ CHp (zD Z) B H0 (1112) z H := ⟨_, rfl, hH⟩
  have h_j : E27 (0) = .inr (0, [.ref (B + (1)), .ref (B + (91)), .ref (B + (181)), .ref (B + (188)), .ref (B + (195)), .ref (B + (197)), .ref (B + (198)), .ref (B + (206)), .ref (B + (1110)), vi 0]) := by rw [e27]; exact uE_self _ _ _
  refine lv_aload_n b.1 b.2.1 dX12_init_115 rfl (lv_at hl 0 rfl) ?_
  refine lv_iconst (v := Int32.ofInt (-1)) b.1 b.2.1 dX12_init_116 rfl ?_
  refine ch_putG (k := 9) (j := 0) (ty0 := tyX12) (fin := false) b hH (by omega) h_j rfl in_0 tyX12_ok nmX12 (by decide) rfl (Nat.le_of_ble_eq_true rfl) rfl rfl hnm rfl hlo hzB (li_2 109 (by decide +kernel) (by decide +kernel)) dX12_init_117 (fun H locs hH hlo => ?_)
  obtain ⟨E28, e28, hH⟩ : ∃ z, z = uE E27 (0) (.inr (0, [.ref (B + (1)), .ref (B + (91)), .ref (B + (181)), .ref (B + (188)), .ref (B + (195)), .ref (B + (197)), .ref (B + (198)), .ref (B + (206)), .ref (B + (1110)), vi (-1)])) ∧ CHp (zD Z) B H0 (1112) z H := ⟨_, rfl, hH⟩
  have h_j : E28 (0) = .inr (0, [.ref (B + (1)), .ref (B + (91)), .ref (B + (181)), .ref (B + (188)), .ref (B + (195)), .ref (B + (197)), .ref (B + (198)), .ref (B + (206)), .ref (B + (1110)), vi (-1)]) := by rw [e28]; exact uE_self _ _ _
  refine W.widen (k := 1111) (n := 21377) (by omega) (by omega) ?_
  refine kk H locs ?_ hlo
  subst e1 e2 e3 e4 e5 e6 e7 e8 e9 e10 e11 e12 e13 e14 e15 e16 e17 e18 e19 e20 e21 e22 e23 e24 e25 e26 e27 e28
  exact hH
def E_RX13 (Z : ZT) (B : Nat) (E : Nat → va_E) : Nat → va_E := uE (uE (uE (uE (uE (uE (uE (uE (uE (uE (uE (uE (uE (uE (uE (uE (uE (uE (uE (uE (uE (uE (uE (uE (uE (uE (uE (uE (uE (uE (uE (uE (uE (uE (uE (uE (uE (uE (uE (uE (uE (uE (uE (uE (uE (uE (uE (uE (uE E (1) (arI (zC Z 0) 16860 (fun _ => 0))) (0) (.inr (11, [.ref (B + (1)), .null, .null, .null, .null, .null, vi 0, vi 0, .null, .null, vi 0, .null, .null, .null, .null, .null, .null, .null, vi 0, .null, vi 0, vi 0, vi 0, vi 0, vi 0, vi 0, vi 0, vi 0, vi 0, vi 0, vi 0, vi 0, .null, .null, .null, .null, .null, .null, vi 0, vi 0, vi 0, .null, .null, vi 0]))) (2) (arI (zC Z 0) 16860 (fun _ => 0))) (0) (.inr (11, [.ref (B + (1)), .ref (B + (2)), .null, .null, .null, .null, vi 0, vi 0, .null, .null, vi 0, .null, .null, .null, .null, .null, .null, .null, vi 0, .null, vi 0, vi 0, vi 0, vi 0, vi 0, vi 0, vi 0, vi 0, vi 0, vi 0, vi 0, vi 0, .null, .null, .null, .null, .null, .null, vi 0, vi 0, vi 0, .null, .null, vi 0]))) (3) (arI (zC Z 0) 16860 (fun _ => 0))) (0) (.inr (11, [.ref (B + (1)), .ref (B + (2)), .ref (B + (3)), .null, .null, .null, vi 0, vi 0, .null, .null, vi 0, .null, .null, .null, .null, .null, .null, .null, vi 0, .null, vi 0, vi 0, vi 0, vi 0, vi 0, vi 0, vi 0, vi 0, vi 0, vi 0, vi 0, vi 0, .null, .null, .null, .null, .null, .null, vi 0, vi 0, vi 0, .null, .null, vi 0]))) (4) (arI (zC Z 0) 134880 (fun _ => 0))) (0) (.inr (11, [.ref (B + (1)), .ref (B + (2)), .ref (B + (3)), .ref (B + (4)), .null, .null, vi 0, vi 0, .null, .null, vi 0, .null, .null, .null, .null, .null, .null, .null, vi 0, .null, vi 0, vi 0, vi 0, vi 0, vi 0, vi 0, vi 0, vi 0, vi 0, vi 0, vi 0, vi 0, .null, .null, .null, .null, .null, .null, vi 0, vi 0, vi 0, .null, .null, vi 0]))) (5) (arI (zC Z 0) 33720 (fun _ => 0))) (0) (.inr (11, [.ref (B + (1)), .ref (B + (2)), .ref (B + (3)), .ref (B + (4)), .ref (B + (5)), .null, vi 0, vi 0, .null, .null, vi 0, .null, .null, .null, .null, .null, .null, .null, vi 0, .null, vi 0, vi 0, vi 0, vi 0, vi 0, vi 0, vi 0, vi 0, vi 0, vi 0, vi 0, vi 0, .null, .null, .null, .null, .null, .null, vi 0, vi 0, vi 0, .null, .null, vi 0]))) (6) (arI (zC Z 1) 2 (fun _ => 0))) (0) (.inr (11, [.ref (B + (1)), .ref (B + (2)), .ref (B + (3)), .ref (B + (4)), .ref (B + (5)), .ref (B + (6)), vi 0, vi 0, .null, .null, vi 0, .null, .null, .null, .null, .null, .null, .null, vi 0, .null, vi 0, vi 0, vi 0, vi 0, vi 0, vi 0, vi 0, vi 0, vi 0, vi 0, vi 0, vi 0, .null, .null, .null, .null, .null, .null, vi 0, vi 0, vi 0, .null, .null, vi 0]))) (7) (arI (zC Z 0) 66 (fun _ => 0))) (0) (.inr (11, [.ref (B + (1)), .ref (B + (2)), .ref (B + (3)), .ref (B + (4)), .ref (B + (5)), .ref (B + (6)), vi 0, vi 0, .ref (B + (7)), .null, vi 0, .null, .null, .null, .null, .null, .null, .null, vi 0, .null, vi 0, vi 0, vi 0, vi 0, vi 0, vi 0, vi 0, vi 0, vi 0, vi 0, vi 0, vi 0, .null, .null, .null, .null, .null, .null, vi 0, vi 0, vi 0, .null, .null, vi 0]))) (8) (arI (zC Z 0) 66 (fun _ => 0))) (0) (.inr (11, [.ref (B + (1)), .ref (B + (2)), .ref (B + (3)), .ref (B + (4)), .ref (B + (5)), .ref (B + (6)), vi 0, vi 0, .ref (B + (7)), .ref (B + (8)), vi 0, .null, .null, .null, .null, .null, .null, .null, vi 0, .null, vi 0, vi 0, vi 0, vi 0, vi 0, vi 0, vi 0, vi 0, vi 0, vi 0, vi 0, vi 0, .null, .null, .null, .null, .null, .null, vi 0, vi 0, vi 0, .null, .null, vi 0]))) (9) (arI (zC Z 0) 401 (fun _ => 0))) (0) (.inr (11, [.ref (B + (1)), .ref (B + (2)), .ref (B + (3)), .ref (B + (4)), .ref (B + (5)), .ref (B + (6)), vi 0, vi 0, .ref (B + (7)), .ref (B + (8)), vi 0, .ref (B + (9)), .null, .null, .null, .null, .null, .null, vi 0, .null, vi 0, vi 0, vi 0, vi 0, vi 0, vi 0, vi 0, vi 0, vi 0, vi 0, vi 0, vi 0, .null, .null, .null, .null, .null, .null, vi 0, vi 0, vi 0, .null, .null, vi 0]))) (10) (arI (zC Z 0) 401 (fun _ => 0))) (0) (.inr (11, [.ref (B + (1)), .ref (B + (2)), .ref (B + (3)), .ref (B + (4)), .ref (B + (5)), .ref (B + (6)), vi 0, vi 0, .ref (B + (7)), .ref (B + (8)), vi 0, .ref (B + (9)), .ref (B + (10)), .null, .null, .null, .null, .null, vi 0, .null, vi 0, vi 0, vi 0, vi 0, vi 0, vi 0, vi 0, vi 0, vi 0, vi 0, vi 0, vi 0, .null, .null, .null, .null, .null, .null, vi 0, vi 0, vi 0, .null, .null, vi 0]))) (11) (arI (zC Z 0) 42 (fun _ => 0))) (0) (.inr (11, [.ref (B + (1)), .ref (B + (2)), .ref (B + (3)), .ref (B + (4)), .ref (B + (5)), .ref (B + (6)), vi 0, vi 0, .ref (B + (7)), .ref (B + (8)), vi 0, .ref (B + (9)), .ref (B + (10)), .ref (B + (11)), .null, .null, .null, .null, vi 0, .null, vi 0, vi 0, vi 0, vi 0, vi 0, vi 0, vi 0, vi 0, vi 0, vi 0, vi 0, vi 0, .null, .null, .null, .null, .null, .null, vi 0, vi 0, vi 0, .null, .null, vi 0]))) (12) (arI (zC Z 0) 42 (fun _ => 0))) (0) (.inr (11, [.ref (B + (1)), .ref (B + (2)), .ref (B + (3)), .ref (B + (4)), .ref (B + (5)), .ref (B + (6)), vi 0, vi 0, .ref (B + (7)), .ref (B + (8)), vi 0, .ref (B + (9)), .ref (B + (10)), .ref (B + (11)), .ref (B + (12)), .null, .null, .null, vi 0, .null, vi 0, vi 0, vi 0, vi 0, vi 0, vi 0, vi 0, vi 0, vi 0, vi 0, vi 0, vi 0, .null, .null, .null, .null, .null, .null, vi 0, vi 0, vi 0, .null, .null, vi 0]))) (13) (arI (zC Z 0) 4356 (fun _ => 0))) (0) (.inr (11, [.ref (B + (1)), .ref (B + (2)), .ref (B + (3)), .ref (B + (4)), .ref (B + (5)), .ref (B + (6)), vi 0, vi 0, .ref (B + (7)), .ref (B + (8)), vi 0, .ref (B + (9)), .ref (B + (10)), .ref (B + (11)), .ref (B + (12)), .ref (B + (13)), .null, .null, vi 0, .null, vi 0, vi 0, vi 0, vi 0, vi 0, vi 0, vi 0, vi 0, vi 0, vi 0, vi 0, vi 0, .null, .null, .null, .null, .null, .null, vi 0, vi 0, vi 0, .null, .null, vi 0]))) (14) (arI (zC Z 0) 4356 (fun _ => 0))) (0) (.inr (11, [.ref (B + (1)), .ref (B + (2)), .ref (B + (3)), .ref (B + (4)), .ref (B + (5)), .ref (B + (6)), vi 0, vi 0, .ref (B + (7)), .ref (B + (8)), vi 0, .ref (B + (9)), .ref (B + (10)), .ref (B + (11)), .ref (B + (12)), .ref (B + (13)), .ref (B + (14)), .null, vi 0, .null, vi 0, vi 0, vi 0, vi 0, vi 0, vi 0, vi 0, vi 0, vi 0, vi 0, vi 0, vi 0, .null, .null, .null, .null, .null, .null, vi 0, vi 0, vi 0, .null, .null, vi 0]))) (15) (arI (zC Z 0) 4356 (fun _ => 0))) (0) (.inr (11, [.ref (B + (1)), .ref (B + (2)), .ref (B + (3)), .ref (B + (4)), .ref (B + (5)), .ref (B + (6)), vi 0, vi 0, .ref (B + (7)), .ref (B + (8)), vi 0, .ref (B + (9)), .ref (B + (10)), .ref (B + (11)), .ref (B + (12)), .ref (B + (13)), .ref (B + (14)), .ref (B + (15)), vi 0, .null, vi 0, vi 0, vi 0, vi 0, vi 0, vi 0, vi 0, vi 0, vi 0, vi 0, vi 0, vi 0, .null, .null, .null, .null, .null, .null, vi 0, vi 0, vi 0, .null, .null, vi 0]))) (16) (arI (zC Z 0) 600 (fun _ => 0))) (0) (.inr (11, [.ref (B + (1)), .ref (B + (2)), .ref (B + (3)), .ref (B + (4)), .ref (B + (5)), .ref (B + (6)), vi 0, vi 0, .ref (B + (7)), .ref (B + (8)), vi 0, .ref (B + (9)), .ref (B + (10)), .ref (B + (11)), .ref (B + (12)), .ref (B + (13)), .ref (B + (14)), .ref (B + (15)), vi 0, .ref (B + (16)), vi 0, vi 0, vi 0, vi 0, vi 0, vi 0, vi 0, vi 0, vi 0, vi 0, vi 0, vi 0, .null, .null, .null, .null, .null, .null, vi 0, vi 0, vi 0, .null, .null, vi 0]))) (0) (.inr (11, [.ref (B + (1)), .ref (B + (2)), .ref (B + (3)), .ref (B + (4)), .ref (B + (5)), .ref (B + (6)), vi 0, vi 0, .ref (B + (7)), .ref (B + (8)), vi 0, .ref (B + (9)), .ref (B + (10)), .ref (B + (11)), .ref (B + (12)), .ref (B + (13)), .ref (B + (14)), .ref (B + (15)), vi 0, .ref (B + (16)), vi 0, vi 0, vi 0, vi 0, vi 0, vi 0, vi 0, vi (-1), vi 0, vi 0, vi 0, vi 0, .null, .null, .null, .null, .null, .null, vi 0, vi 0, vi 0, .null, .null, vi 0]))) (17) (arI (zC Z 0) 64 (fun _ => 0))) (0) (.inr (11, [.ref (B + (1)), .ref (B + (2)), .ref (B + (3)), .ref (B + (4)), .ref (B + (5)), .ref (B + (6)), vi 0, vi 0, .ref (B + (7)), .ref (B + (8)), vi 0, .ref (B + (9)), .ref (B + (10)), .ref (B + (11)), .ref (B + (12)), .ref (B + (13)), .ref (B + (14)), .ref (B + (15)), vi 0, .ref (B + (16)), vi 0, vi 0, vi 0, vi 0, vi 0, vi 0, vi 0, vi (-1), vi 0, vi 0, vi 0, vi 0, .ref (B + (17)), .null, .null, .null, .null, .null, vi 0, vi 0, vi 0, .null, .null, vi 0]))) (18) (arI (zC Z 0) 64 (fun _ => 0))) (0) (.inr (11, [.ref (B + (1)), .ref (B + (2)), .ref (B + (3)), .ref (B + (4)), .ref (B + (5)), .ref (B + (6)), vi 0, vi 0, .ref (B + (7)), .ref (B + (8)), vi 0, .ref (B + (9)), .ref (B + (10)), .ref (B + (11)), .ref (B + (12)), .ref (B + (13)), .ref (B + (14)), .ref (B + (15)), vi 0, .ref (B + (16)), vi 0, vi 0, vi 0, vi 0, vi 0, vi 0, vi 0, vi (-1), vi 0, vi 0, vi 0, vi 0, .ref (B + (17)), .ref (B + (18)), .null, .null, .null, .null, vi 0, vi 0, vi 0, .null, .null, vi 0]))) (19) (arI (zC Z 0) 64 (fun _ => 0))) (0) (.inr (11, [.ref (B + (1)), .ref (B + (2)), .ref (B + (3)), .ref (B + (4)), .ref (B + (5)), .ref (B + (6)), vi 0, vi 0, .ref (B + (7)), .ref (B + (8)), vi 0, .ref (B + (9)), .ref (B + (10)), .ref (B + (11)), .ref (B + (12)), .ref (B + (13)), .ref (B + (14)), .ref (B + (15)), vi 0, .ref (B + (16)), vi 0, vi 0, vi 0, vi 0, vi 0, vi 0, vi 0, vi (-1), vi 0, vi 0, vi 0, vi 0, .ref (B + (17)), .ref (B + (18)), .ref (B + (19)), .null, .null, .null, vi 0, vi 0, vi 0, .null, .null, vi 0]))) (20) (arI (zC Z 0) 64 (fun _ => 0))) (0) (.inr (11, [.ref (B + (1)), .ref (B + (2)), .ref (B + (3)), .ref (B + (4)), .ref (B + (5)), .ref (B + (6)), vi 0, vi 0, .ref (B + (7)), .ref (B + (8)), vi 0, .ref (B + (9)), .ref (B + (10)), .ref (B + (11)), .ref (B + (12)), .ref (B + (13)), .ref (B + (14)), .ref (B + (15)), vi 0, .ref (B + (16)), vi 0, vi 0, vi 0, vi 0, vi 0, vi 0, vi 0, vi (-1), vi 0, vi 0, vi 0, vi 0, .ref (B + (17)), .ref (B + (18)), .ref (B + (19)), .ref (B + (20)), .null, .null, vi 0, vi 0, vi 0, .null, .null, vi 0]))) (21) (arI (zC Z 0) 2 (fun _ => 0))) (0) (.inr (11, [.ref (B + (1)), .ref (B + (2)), .ref (B + (3)), .ref (B + (4)), .ref (B + (5)), .ref (B + (6)), vi 0, vi 0, .ref (B + (7)), .ref (B + (8)), vi 0, .ref (B + (9)), .ref (B + (10)), .ref (B + (11)), .ref (B + (12)), .ref (B + (13)), .ref (B + (14)), .ref (B + (15)), vi 0, .ref (B + (16)), vi 0, vi 0, vi 0, vi 0, vi 0, vi 0, vi 0, vi (-1), vi 0, vi 0, vi 0, vi 0, .ref (B + (17)), .ref (B + (18)), .ref (B + (19)), .ref (B + (20)), .ref (B + (21)), .null, vi 0, vi 0, vi 0, .null, .null, vi 0]))) (22) (arI (zC Z 0) 2 (fun _ => 0))) (0) (.inr (11, [.ref (B + (1)), .ref (B + (2)), .ref (B + (3)), .ref (B + (4)), .ref (B + (5)), .ref (B + (6)), vi 0, vi 0, .ref (B + (7)), .ref (B + (8)), vi 0, .ref (B + (9)), .ref (B + (10)), .ref (B + (11)), .ref (B + (12)), .ref (B + (13)), .ref (B + (14)), .ref (B + (15)), vi 0, .ref (B + (16)), vi 0, vi 0, vi 0, vi 0, vi 0, vi 0, vi 0, vi (-1), vi 0, vi 0, vi 0, vi 0, .ref (B + (17)), .ref (B + (18)), .ref (B + (19)), .ref (B + (20)), .ref (B + (21)), .ref (B + (22)), vi 0, vi 0, vi 0, .null, .null, vi 0]))) (23) (arI (zC Z 0) 66 (fun _ => 0))) (0) (.inr (11, [.ref (B + (1)), .ref (B + (2)), .ref (B + (3)), .ref (B + (4)), .ref (B + (5)), .ref (B + (6)), vi 0, vi 0, .ref (B + (7)), .ref (B + (8)), vi 0, .ref (B + (9)), .ref (B + (10)), .ref (B + (11)), .ref (B + (12)), .ref (B + (13)), .ref (B + (14)), .ref (B + (15)), vi 0, .ref (B + (16)), vi 0, vi 0, vi 0, vi 0, vi 0, vi 0, vi 0, vi (-1), vi 0, vi 0, vi 0, vi 0, .ref (B + (17)), .ref (B + (18)), .ref (B + (19)), .ref (B + (20)), .ref (B + (21)), .ref (B + (22)), vi 0, vi 0, vi 0, .ref (B + (23)), .null, vi 0]))) (24) (arI (zC Z 0) 70000 (fun _ => 0))) (0) (.inr (11, [.ref (B + (1)), .ref (B + (2)), .ref (B + (3)), .ref (B + (4)), .ref (B + (5)), .ref (B + (6)), vi 0, vi 0, .ref (B + (7)), .ref (B + (8)), vi 0, .ref (B + (9)), .ref (B + (10)), .ref (B + (11)), .ref (B + (12)), .ref (B + (13)), .ref (B + (14)), .ref (B + (15)), vi 0, .ref (B + (16)), vi 0, vi 0, vi 0, vi 0, vi 0, vi 0, vi 0, vi (-1), vi 0, vi 0, vi 0, vi 0, .ref (B + (17)), .ref (B + (18)), .ref (B + (19)), .ref (B + (20)), .ref (B + (21)), .ref (B + (22)), vi 0, vi 0, vi 0, .ref (B + (23)), .ref (B + (24)), vi 0]))
set_option maxRecDepth 20000 in
set_option maxHeartbeats 4000000 in
theorem W_RX13 {p : Program} {l : Launch} {e : Env} {s : State} {m : MethodId} {args : Array Value} {below : List Frame} {meth : Method} {c : Code} {ls : Array Slot} {Q : State → Prop} {H : Heap} {mc ms : Nat} (Z : ZT) (B : Nat) (H0 : Heap) (E : Nat → va_E) (hfl : l.stackTraces = false) (hzB : zB Z ≤ B) (hmc : 24 ≤ mc) (hms : 304194 ≤ ms) (b : BB p s m args c RX13 cX13_init 1 Z) (hH : CHp (zD Z) B H0 1 E H) (h_j : E 0 = .inr (11, [.null, .null, .null, .null, .null, .null, vi 0, vi 0, .null, .null, vi 0, .null, .null, .null, .null, .null, .null, .null, vi 0, .null, vi 0, vi 0, vi 0, vi 0, vi 0, vi 0, vi 0, vi 0, vi 0, vi 0, vi 0, vi 0, .null, .null, .null, .null, .null, .null, vi 0, vi 0, vi 0, .null, .null, vi 0])) (hnm : meth.name = "<init>") (hl : lv_has ls 1 [(0, .ref (B + 0))])
    (kk : ∀ (H1 : Heap) (locs1 : List Loc), CHp (zD Z) B H0 25 (E_RX13 Z B E) H1 → (∀ q ∈ locs1, zN Z q.base) → W p l e (rmH 6 mc ms) s m args below meth c H1 locs1 24 304194 Q (F0 m 207 ls [])) : W p l e (rmH 6 mc ms) s m args below meth c H [] 0 0 Q (F0 m 0 ls []) := by
  have hlo : ∀ q ∈ ([] : List Loc), zN Z q.base := fun q hq => by cases hq
  refine lv_aload_n b.1 b.2.1 dX13_init_0 rfl (lv_at hl 0 rfl) ?_
  refine ch_obj b hl.1 (li_7 11 (by decide +kernel) (by decide +kernel)) (Nat.le_of_ble_eq_true rfl) (Nat.le_of_ble_eq_true rfl) dX13_init_1 ?_
  refine lv_aload_n b.1 b.2.1 dX13_init_4 rfl (lv_at hl 0 rfl) ?_
  refine lv_sipush (v := Int32.ofInt 16860) b.1 b.2.1 dX13_init_5 (by decide) ?_
  refine ch_newa (atype := .int) (ty := .int) (cA := zC Z 0) (t0 := 0) (N' := 16860) b hH (li_1 57 (by decide +kernel) (by decide +kernel)) rfl rfl (fun _ h => h) rfl (by decide) (Nat.le_of_ble_eq_true rfl) (show _ ≤ (mc : Nat) by omega) (show _ ≤ (ms : Nat) by omega) dX13_init_8 (fun H hH => ?_)
  obtain ⟨E1, e1, hH⟩ : ∃ z, z = uE E (1) (arI (zC Z 0) 16860 (fun _ => 0)) ∧ CHp (zD Z) B H0 (2) z H := ⟨_, rfl, hH⟩
  have h_j : E1 (0) = .inr (11, [.null, .null, .null, .null, .null, .null, vi 0, vi 0, .null, .null, vi 0, .null, .null, .null, .null, .null, .null, .null, vi 0, .null, vi 0, vi 0, vi 0, vi 0, vi 0, vi 0, vi 0, vi 0, vi 0, vi 0, vi 0, vi 0, .null, .null, .null, .null, .null, .null, vi 0, vi 0, vi 0, .null, .null, vi 0]) := by rw [e1]; exact (uE_ne (by omega)).trans h_j
  refine ch_putG (k := 0) (j := 0) (ty0 := tyX13) (fin := true) b hH (by omega) h_j rfl in_26 tyX13_ok nmX13 (by decide) rfl (Nat.le_of_ble_eq_true rfl) rfl rfl hnm rfl hlo hzB (li_7 54 (by decide +kernel) (by decide +kernel)) dX13_init_10 (fun H locs hH hlo => ?_)
  obtain ⟨E2, e2, hH⟩ : ∃ z, z = uE E1 (0) (.inr (11, [.ref (B + (1)), .null, .null, .null, .null, .null, vi 0, vi 0, .null, .null, vi 0, .null, .null, .null, .null, .null, .null, .null, vi 0, .null, vi 0, vi 0, vi 0, vi 0, vi 0, vi 0, vi 0, vi 0, vi 0, vi 0, vi 0, vi 0, .null, .null, .null, .null, .null, .null, vi 0, vi 0, vi 0, .null, .null, vi 0])) ∧ CHp (zD Z) B H0 (2) z H := ⟨_, rfl, hH⟩
  have h_j : E2 (0) = .inr (11, [.ref (B + (1)), .null, .null, .null, .null, .null, vi 0, vi 0, .null, .null, vi 0, .null, .null, .null, .null, .null, .null, .null, vi 0, .null, vi 0, vi 0, vi 0, vi 0, vi 0, vi 0, vi 0, vi 0, vi 0, vi 0, vi 0, vi 0, .null, .null, .null, .null, .null, .null, vi 0, vi 0, vi 0, .null, .null, vi 0]) := by rw [e2]; exact uE_self _ _ _
  refine lv_aload_n b.1 b.2.1 dX13_init_13 rfl (lv_at hl 0 rfl) ?_
  refine lv_sipush (v := Int32.ofInt 16860) b.1 b.2.1 dX13_init_14 (by decide) ?_
  refine ch_newa (atype := .int) (ty := .int) (cA := zC Z 0) (t0 := 0) (N' := 16860) b hH (li_1 57 (by decide +kernel) (by decide +kernel)) rfl rfl (fun _ h => h) rfl (by decide) (Nat.le_of_ble_eq_true rfl) (show _ ≤ (mc : Nat) by omega) (show _ ≤ (ms : Nat) by omega) dX13_init_17 (fun H hH => ?_)
  obtain ⟨E3, e3, hH⟩ : ∃ z, z = uE E2 (2) (arI (zC Z 0) 16860 (fun _ => 0)) ∧ CHp (zD Z) B H0 (3) z H := ⟨_, rfl, hH⟩
  have h_j : E3 (0) = .inr (11, [.ref (B + (1)), .null, .null, .null, .null, .null, vi 0, vi 0, .null, .null, vi 0, .null, .null, .null, .null, .null, .null, .null, vi 0, .null, vi 0, vi 0, vi 0, vi 0, vi 0, vi 0, vi 0, vi 0, vi 0, vi 0, vi 0, vi 0, .null, .null, .null, .null, .null, .null, vi 0, vi 0, vi 0, .null, .null, vi 0]) := by rw [e3]; exact (uE_ne (by omega)).trans h_j
  refine ch_putG (k := 1) (j := 0) (ty0 := tyX13) (fin := true) b hH (by omega) h_j rfl in_26 tyX13_ok nmX13 (by decide) rfl (Nat.le_of_ble_eq_true rfl) rfl rfl hnm rfl hlo hzB (li_7 55 (by decide +kernel) (by decide +kernel)) dX13_init_19 (fun H locs hH hlo => ?_)
  obtain ⟨E4, e4, hH⟩ : ∃ z, z = uE E3 (0) (.inr (11, [.ref (B + (1)), .ref (B + (2)), .null, .null, .null, .null, vi 0, vi 0, .null, .null, vi 0, .null, .null, .null, .null, .null, .null, .null, vi 0, .null, vi 0, vi 0, vi 0, vi 0, vi 0, vi 0, vi 0, vi 0, vi 0, vi 0, vi 0, vi 0, .null, .null, .null, .null, .null, .null, vi 0, vi 0, vi 0, .null, .null, vi 0])) ∧ CHp (zD Z) B H0 (3) z H := ⟨_, rfl, hH⟩
  have h_j : E4 (0) = .inr (11, [.ref (B + (1)), .ref (B + (2)), .null, .null, .null, .null, vi 0, vi 0, .null, .null, vi 0, .null, .null, .null, .null, .null, .null, .null, vi 0, .null, vi 0, vi 0, vi 0, vi 0, vi 0, vi 0, vi 0, vi 0, vi 0, vi 0, vi 0, vi 0, .null, .null, .null, .null, .null, .null, vi 0, vi 0, vi 0, .null, .null, vi 0]) := by rw [e4]; exact uE_self _ _ _
  refine lv_aload_n b.1 b.2.1 dX13_init_22 rfl (lv_at hl 0 rfl) ?_
  refine lv_sipush (v := Int32.ofInt 16860) b.1 b.2.1 dX13_init_23 (by decide) ?_
  refine ch_newa (atype := .int) (ty := .int) (cA := zC Z 0) (t0 := 0) (N' := 16860) b hH (li_1 57 (by decide +kernel) (by decide +kernel)) rfl rfl (fun _ h => h) rfl (by decide) (Nat.le_of_ble_eq_true rfl) (show _ ≤ (mc : Nat) by omega) (show _ ≤ (ms : Nat) by omega) dX13_init_26 (fun H hH => ?_)
  obtain ⟨E5, e5, hH⟩ : ∃ z, z = uE E4 (3) (arI (zC Z 0) 16860 (fun _ => 0)) ∧ CHp (zD Z) B H0 (4) z H := ⟨_, rfl, hH⟩
  have h_j : E5 (0) = .inr (11, [.ref (B + (1)), .ref (B + (2)), .null, .null, .null, .null, vi 0, vi 0, .null, .null, vi 0, .null, .null, .null, .null, .null, .null, .null, vi 0, .null, vi 0, vi 0, vi 0, vi 0, vi 0, vi 0, vi 0, vi 0, vi 0, vi 0, vi 0, vi 0, .null, .null, .null, .null, .null, .null, vi 0, vi 0, vi 0, .null, .null, vi 0]) := by rw [e5]; exact (uE_ne (by omega)).trans h_j
  refine ch_putG (k := 2) (j := 0) (ty0 := tyX13) (fin := true) b hH (by omega) h_j rfl in_26 tyX13_ok nmX13 (by decide) rfl (Nat.le_of_ble_eq_true rfl) rfl rfl hnm rfl hlo hzB (li_7 56 (by decide +kernel) (by decide +kernel)) dX13_init_28 (fun H locs hH hlo => ?_)
  obtain ⟨E6, e6, hH⟩ : ∃ z, z = uE E5 (0) (.inr (11, [.ref (B + (1)), .ref (B + (2)), .ref (B + (3)), .null, .null, .null, vi 0, vi 0, .null, .null, vi 0, .null, .null, .null, .null, .null, .null, .null, vi 0, .null, vi 0, vi 0, vi 0, vi 0, vi 0, vi 0, vi 0, vi 0, vi 0, vi 0, vi 0, vi 0, .null, .null, .null, .null, .null, .null, vi 0, vi 0, vi 0, .null, .null, vi 0])) ∧ CHp (zD Z) B H0 (4) z H := ⟨_, rfl, hH⟩
  have h_j : E6 (0) = .inr (11, [.ref (B + (1)), .ref (B + (2)), .ref (B + (3)), .null, .null, .null, vi 0, vi 0, .null, .null, vi 0, .null, .null, .null, .null, .null, .null, .null, vi 0, .null, vi 0, vi 0, vi 0, vi 0, vi 0, vi 0, vi 0, vi 0, vi 0, vi 0, vi 0, vi 0, .null, .null, .null, .null, .null, .null, vi 0, vi 0, vi 0, .null, .null, vi 0]) := by rw [e6]; exact uE_self _ _ _
  refine lv_aload_n b.1 b.2.1 dX13_init_31 rfl (lv_at hl 0 rfl) ?_
  refine lv_ldc (v := Int32.ofInt 134880) b.1 b.2.1 b.2.2.1 (b.2.2.2.1 _ (li_7 12 (by decide +kernel) (by decide +kernel))) dX13_init_32 ?_
  refine ch_newa (atype := .int) (ty := .int) (cA := zC Z 0) (t0 := 0) (N' := 134880) b hH (li_1 57 (by decide +kernel) (by decide +kernel)) rfl rfl (fun _ h => h) rfl (by decide) (Nat.le_of_ble_eq_true rfl) (show _ ≤ (mc : Nat) by omega) (show _ ≤ (ms : Nat) by omega) dX13_init_34 (fun H hH => ?_)
  obtain ⟨E7, e7, hH⟩ : ∃ z, z = uE E6 (4) (arI (zC Z 0) 134880 (fun _ => 0)) ∧ CHp (zD Z) B H0 (5) z H := ⟨_, rfl, hH⟩
  have h_j : E7 (0) = .inr (11, [.ref (B + (1)), .ref (B + (2)), .ref (B + (3)), .null, .null, .null, vi 0, vi 0, .null, .null, vi 0, .null, .null, .null, .null, .null, .null, .null, vi 0, .null, vi 0, vi 0, vi 0, vi 0, vi 0, vi 0, vi 0, vi 0, vi 0, vi 0, vi 0, vi 0, .null, .null, .null, .null, .null, .null, vi 0, vi 0, vi 0, .null, .null, vi 0]) := by rw [e7]; exact (uE_ne (by omega)).trans h_j
  refine ch_putG (k := 3) (j := 0) (ty0 := tyX13) (fin := true) b hH (by omega) h_j rfl in_26 tyX13_ok nmX13 (by decide) rfl (Nat.le_of_ble_eq_true rfl) rfl rfl hnm rfl hlo hzB (li_7 57 (by decide +kernel) (by decide +kernel)) dX13_init_36 (fun H locs hH hlo => ?_)
  obtain ⟨E8, e8, hH⟩ : ∃ z, z = uE E7 (0) (.inr (11, [.ref (B + (1)), .ref (B + (2)), .ref (B + (3)), .ref (B + (4)), .null, .null, vi 0, vi 0, .null, .null, vi 0, .null, .null, .null, .null, .null, .null, .null, vi 0, .null, vi 0, vi 0, vi 0, vi 0, vi 0, vi 0, vi 0, vi 0, vi 0, vi 0, vi 0, vi 0, .null, .null, .null, .null, .null, .null, vi 0, vi 0, vi 0, .null, .null, vi 0])) ∧ CHp (zD Z) B H0 (5) z H := ⟨_, rfl, hH⟩
  have h_j : E8 (0) = .inr (11, [.ref (B + (1)), .ref (B + (2)), .ref (B + (3)), .ref (B + (4)), .null, .null, vi 0, vi 0, .null, .null, vi 0, .null, .null, .null, .null, .null, .null, .null, vi 0, .null, vi 0, vi 0, vi 0, vi 0, vi 0, vi 0, vi 0, vi 0, vi 0, vi 0, vi 0, vi 0, .null, .null, .null, .null, .null, .null, vi 0, vi 0, vi 0, .null, .null, vi 0]) := by rw [e8]; exact uE_self _ _ _
  refine lv_aload_n b.1 b.2.1 dX13_init_39 rfl (lv_at hl 0 rfl) ?_
  refine lv_ldc (v := Int32.ofInt 33720) b.1 b.2.1 b.2.2.1 (b.2.2.2.1 _ (li_7 13 (by decide +kernel) (by decide +kernel))) dX13_init_40 ?_
  refine ch_newa (atype := .int) (ty := .int) (cA := zC Z 0) (t0 := 0) (N' := 33720) b hH (li_1 57 (by decide +kernel) (by decide +kernel)) rfl rfl (fun _ h => h) rfl (by decide) (Nat.le_of_ble_eq_true rfl) (show _ ≤ (mc : Nat) by omega) (show _ ≤ (ms : Nat) by omega) dX13_init_42 (fun H hH => ?_)
  obtain ⟨E9, e9, hH⟩ : ∃ z, z = uE E8 (5) (arI (zC Z 0) 33720 (fun _ => 0)) ∧ CHp (zD Z) B H0 (6) z H := ⟨_, rfl, hH⟩
  have h_j : E9 (0) = .inr (11, [.ref (B + (1)), .ref (B + (2)), .ref (B + (3)), .ref (B + (4)), .null, .null, vi 0, vi 0, .null, .null, vi 0, .null, .null, .null, .null, .null, .null, .null, vi 0, .null, vi 0, vi 0, vi 0, vi 0, vi 0, vi 0, vi 0, vi 0, vi 0, vi 0, vi 0, vi 0, .null, .null, .null, .null, .null, .null, vi 0, vi 0, vi 0, .null, .null, vi 0]) := by rw [e9]; exact (uE_ne (by omega)).trans h_j
  refine ch_putG (k := 4) (j := 0) (ty0 := tyX13) (fin := true) b hH (by omega) h_j rfl in_26 tyX13_ok nmX13 (by decide) rfl (Nat.le_of_ble_eq_true rfl) rfl rfl hnm rfl hlo hzB (li_7 58 (by decide +kernel) (by decide +kernel)) dX13_init_44 (fun H locs hH hlo => ?_)
  obtain ⟨E10, e10, hH⟩ : ∃ z, z = uE E9 (0) (.inr (11, [.ref (B + (1)), .ref (B + (2)), .ref (B + (3)), .ref (B + (4)), .ref (B + (5)), .null, vi 0, vi 0, .null, .null, vi 0, .null, .null, .null, .null, .null, .null, .null, vi 0, .null, vi 0, vi 0, vi 0, vi 0, vi 0, vi 0, vi 0, vi 0, vi 0, vi 0, vi 0, vi 0, .null, .null, .null, .null, .null, .null, vi 0, vi 0, vi 0, .null, .null, vi 0])) ∧ CHp (zD Z) B H0 (6) z H := ⟨_, rfl, hH⟩
  have h_j : E10 (0) = .inr (11, [.ref (B + (1)), .ref (B + (2)), .ref (B + (3)), .ref (B + (4)), .ref (B + (5)), .null, vi 0, vi 0, .null, .null, vi 0, .null, .null, .null, .null, .null, .null, .null, vi 0, .null, vi 0, vi 0, vi 0, vi 0, vi 0, vi 0, vi 0, vi 0, vi 0, vi 0, vi 0, vi 0, .null, .null, .null, .null, .null, .null, vi 0, vi 0, vi 0, .null, .null, vi 0]) := by rw [e10]; exact uE_self _ _ _
  refine lv_aload_n b.1 b.2.1 dX13_init_47 rfl (lv_at hl 0 rfl) ?_
  refine lv_iconst (v := Int32.ofInt 2) b.1 b.2.1 dX13_init_48 rfl ?_
  refine ch_newa (atype := .boolean) (ty := .boolean) (cA := zC Z 1) (t0 := 1) (N' := 2) b hH (li_2 59 (by decide +kernel) (by decide +kernel)) rfl rfl (fun _ h => h) rfl (by decide) (Nat.le_of_ble_eq_true rfl) (show _ ≤ (mc : Nat) by omega) (show _ ≤ (ms : Nat) by omega) dX13_init_49 (fun H hH => ?_)
  obtain ⟨E11, e11, hH⟩ : ∃ z, z = uE E10 (6) (arI (zC Z 1) 2 (fun _ => 0)) ∧ CHp (zD Z) B H0 (7) z H := ⟨_, rfl, hH⟩
  have h_j : E11 (0) = .inr (11, [.ref (B + (1)), .ref (B + (2)), .ref (B + (3)), .ref (B + (4)), .ref (B + (5)), .null, vi 0, vi 0, .null, .null, vi 0, .null, .null, .null, .null, .null, .null, .null, vi 0, .null, vi 0, vi 0, vi 0, vi 0, vi 0, vi 0, vi 0, vi 0, vi 0, vi 0, vi 0, vi 0, .null, .null, .null, .null, .null, .null, vi 0, vi 0, vi 0, .null, .null, vi 0]) := by rw [e11]; exact (uE_ne (by omega)).trans h_j
  refine ch_putG (k := 5) (j := 0) (ty0 := tyX13) (fin := true) b hH (by omega) h_j rfl in_26 tyX13_ok nmX13 (by decide) rfl (Nat.le_of_ble_eq_true rfl) rfl rfl hnm rfl hlo hzB (li_7 59 (by decide +kernel) (by decide +kernel)) dX13_init_51 (fun H locs hH hlo => ?_)
  obtain ⟨E12, e12, hH⟩ : ∃ z, z = uE E11 (0) (.inr (11, [.ref (B + (1)), .ref (B + (2)), .ref (B + (3)), .ref (B + (4)), .ref (B + (5)), .ref (B + (6)), vi 0, vi 0, .null, .null, vi 0, .null, .null, .null, .null, .null, .null, .null, vi 0, .null, vi 0, vi 0, vi 0, vi 0, vi 0, vi 0, vi 0, vi 0, vi 0, vi 0, vi 0, vi 0, .null, .null, .null, .null, .null, .null, vi 0, vi 0, vi 0, .null, .null, vi 0])) ∧ CHp (zD Z) B H0 (7) z H := ⟨_, rfl, hH⟩
  have h_j : E12 (0) = .inr (11, [.ref (B + (1)), .ref (B + (2)), .ref (B + (3)), .ref (B + (4)), .ref (B + (5)), .ref (B + (6)), vi 0, vi 0, .null, .null, vi 0, .null, .null, .null, .null, .null, .null, .null, vi 0, .null, vi 0, vi 0, vi 0, vi 0, vi 0, vi 0, vi 0, vi 0, vi 0, vi 0, vi 0, vi 0, .null, .null, .null, .null, .null, .null, vi 0, vi 0, vi 0, .null, .null, vi 0]) := by rw [e12]; exact uE_self _ _ _
  refine lv_aload_n b.1 b.2.1 dX13_init_54 rfl (lv_at hl 0 rfl) ?_
  refine lv_bipush (v := Int32.ofInt 66) b.1 b.2.1 dX13_init_55 (by decide) ?_
  refine ch_newa (atype := .int) (ty := .int) (cA := zC Z 0) (t0 := 0) (N' := 66) b hH (li_1 57 (by decide +kernel) (by decide +kernel)) rfl rfl (fun _ h => h) rfl (by decide) (Nat.le_of_ble_eq_true rfl) (show _ ≤ (mc : Nat) by omega) (show _ ≤ (ms : Nat) by omega) dX13_init_57 (fun H hH => ?_)
  obtain ⟨E13, e13, hH⟩ : ∃ z, z = uE E12 (7) (arI (zC Z 0) 66 (fun _ => 0)) ∧ CHp (zD Z) B H0 (8) z H := ⟨_, rfl, hH⟩
  have h_j : E13 (0) = .inr (11, [.ref (B + (1)), .ref (B + (2)), .ref (B + (3)), .ref (B + (4)), .ref (B + (5)), .ref (B + (6)), vi 0, vi 0, .null, .null, vi 0, .null, .null, .null, .null, .null, .null, .null, vi 0, .null, vi 0, vi 0, vi 0, vi 0, vi 0, vi 0, vi 0, vi 0, vi 0, vi 0, vi 0, vi 0, .null, .null, .null, .null, .null, .null, vi 0, vi 0, vi 0, .null, .null, vi 0]) := by rw [e13]; exact (uE_ne (by omega)).trans h_j
  refine ch_putG (k := 8) (j := 0) (ty0 := tyX13) (fin := true) b hH (by omega) h_j rfl in_26 tyX13_ok nmX13 (by decide) rfl (Nat.le_of_ble_eq_true rfl) rfl rfl hnm rfl hlo hzB (li_7 62 (by decide +kernel) (by decide +kernel)) dX13_init_59 (fun H locs hH hlo => ?_)
  obtain ⟨E14, e14, hH⟩ : ∃ z, z = uE E13 (0) (.inr (11, [.ref (B + (1)), .ref (B + (2)), .ref (B + (3)), .ref (B + (4)), .ref (B + (5)), .ref (B + (6)), vi 0, vi 0, .ref (B + (7)), .null, vi 0, .null, .null, .null, .null, .null, .null, .null, vi 0, .null, vi 0, vi 0, vi 0, vi 0, vi 0, vi 0, vi 0, vi 0, vi 0, vi 0, vi 0, vi 0, .null, .null, .null, .null, .null, .null, vi 0, vi 0, vi 0, .null, .null, vi 0])) ∧ CHp (zD Z) B H0 (8) z H := ⟨_, rfl, hH⟩
  have h_j : E14 (0) = .inr (11, [.ref (B + (1)), .ref (B + (2)), .ref (B + (3)), .ref (B + (4)), .ref (B + (5)), .ref (B + (6)), vi 0, vi 0, .ref (B + (7)), .null, vi 0, .null, .null, .null, .null, .null, .null, .null, vi 0, .null, vi 0, vi 0, vi 0, vi 0, vi 0, vi 0, vi 0, vi 0, vi 0, vi 0, vi 0, vi 0, .null, .null, .null, .null, .null, .null, vi 0, vi 0, vi 0, .null, .null, vi 0]) := by rw [e14]; exact uE_self _ _ _
  refine lv_aload_n b.1 b.2.1 dX13_init_62 rfl (lv_at hl 0 rfl) ?_
  refine lv_bipush (v := Int32.ofInt 66) b.1 b.2.1 dX13_init_63 (by decide) ?_
  refine ch_newa (atype := .int) (ty := .int) (cA := zC Z 0) (t0 := 0) (N' := 66) b hH (li_1 57 (by decide +kernel) (by decide +kernel)) rfl rfl (fun _ h => h) rfl (by decide) (Nat.le_of_ble_eq_true rfl) (show _ ≤ (mc : Nat) by omega) (show _ ≤ (ms : Nat) by omega) dX13_init_65 (fun H hH => ?_)
  obtain ⟨E15, e15, hH⟩ : ∃ z, z = uE E14 (8) (arI (zC Z 0) 66 (fun _ => 0)) ∧ CHp (zD Z) B H0 (9) z H := ⟨_, rfl, hH⟩
  have h_j : E15 (0) = .inr (11, [.ref (B + (1)), .ref (B + (2)), .ref (B + (3)), .ref (B + (4)), .ref (B + (5)), .ref (B + (6)), vi 0, vi 0, .ref (B + (7)), .null, vi 0, .null, .null, .null, .null, .null, .null, .null, vi 0, .null, vi 0, vi 0, vi 0, vi 0, vi 0, vi 0, vi 0, vi 0, vi 0, vi 0, vi 0, vi 0, .null, .null, .null, .null, .null, .null, vi 0, vi 0, vi 0, .null, .null, vi 0]) := by rw [e15]; exact (uE_ne (by omega)).trans h_j
  refine ch_putG (k := 9) (j := 0) (ty0 := tyX13) (fin := true) b hH (by omega) h_j rfl in_26 tyX13_ok nmX13 (by decide) rfl (Nat.le_of_ble_eq_true rfl) rfl rfl hnm rfl hlo hzB (li_7 63 (by decide +kernel) (by decide +kernel)) dX13_init_67 (fun H locs hH hlo => ?_)
  obtain ⟨E16, e16, hH⟩ : ∃ z, z = uE E15 (0) (.inr (11, [.ref (B + (1)), .ref (B + (2)), .ref (B + (3)), .ref (B + (4)), .ref (B + (5)), .ref (B + (6)), vi 0, vi 0, .ref (B + (7)), .ref (B + (8)), vi 0, .null, .null, .null, .null, .null, .null, .null, vi 0, .null, vi 0, vi 0, vi 0, vi 0, vi 0, vi 0, vi 0, vi 0, vi 0, vi 0, vi 0, vi 0, .null, .null, .null, .null, .null, .null, vi 0, vi 0, vi 0, .null, .null, vi 0])) ∧ CHp (zD Z) B H0 (9) z H := ⟨_, rfl, hH⟩
  have h_j : E16 (0) = .inr (11, [.ref (B + (1)), .ref (B + (2)), .ref (B + (3)), .ref (B + (4)), .ref (B + (5)), .ref (B + (6)), vi 0, vi 0, .ref (B + (7)), .ref (B + (8)), vi 0, .null, .null, .null, .null, .null, .null, .null, vi 0, .null, vi 0, vi 0, vi 0, vi 0, vi 0, vi 0, vi 0, vi 0, vi 0, vi 0, vi 0, vi 0, .null, .null, .null, .null, .null, .null, vi 0, vi 0, vi 0, .null, .null, vi 0]) := by rw [e16]; exact uE_self _ _ _
  refine lv_aload_n b.1 b.2.1 dX13_init_70 rfl (lv_at hl 0 rfl) ?_
  refine lv_sipush (v := Int32.ofInt 401) b.1 b.2.1 dX13_init_71 (by decide) ?_
  refine ch_newa (atype := .int) (ty := .int) (cA := zC Z 0) (t0 := 0) (N' := 401) b hH (li_1 57 (by decide +kernel) (by decide +kernel)) rfl rfl (fun _ h => h) rfl (by decide) (Nat.le_of_ble_eq_true rfl) (show _ ≤ (mc : Nat) by omega) (show _ ≤ (ms : Nat) by omega) dX13_init_74 (fun H hH => ?_)
  obtain ⟨E17, e17, hH⟩ : ∃ z, z = uE E16 (9) (arI (zC Z 0) 401 (fun _ => 0)) ∧ CHp (zD Z) B H0 (10) z H := ⟨_, rfl, hH⟩
  have h_j : E17 (0) = .inr (11, [.ref (B + (1)), .ref (B + (2)), .ref (B + (3)), .ref (B + (4)), .ref (B + (5)), .ref (B + (6)), vi 0, vi 0, .ref (B + (7)), .ref (B + (8)), vi 0, .null, .null, .null, .null, .null, .null, .null, vi 0, .null, vi 0, vi 0, vi 0, vi 0, vi 0, vi 0, vi 0, vi 0, vi 0, vi 0, vi 0, vi 0, .null, .null, .null, .null, .null, .null, vi 0, vi 0, vi 0, .null, .null, vi 0]) := by rw [e17]; exact (uE_ne (by omega)).trans h_j
  refine ch_putG (k := 11) (j := 0) (ty0 := tyX13) (fin := true) b hH (by omega) h_j rfl in_26 tyX13_ok nmX13 (by decide) rfl (Nat.le_of_ble_eq_true rfl) rfl rfl hnm rfl hlo hzB (li_7 65 (by decide +kernel) (by decide +kernel)) dX13_init_76 (fun H locs hH hlo => ?_)
  obtain ⟨E18, e18, hH⟩ : ∃ z, z = uE E17 (0) (.inr (11, [.ref (B + (1)), .ref (B + (2)), .ref (B + (3)), .ref (B + (4)), .ref (B + (5)), .ref (B + (6)), vi 0, vi 0, .ref (B + (7)), .ref (B + (8)), vi 0, .ref (B + (9)), .null, .null, .null, .null, .null, .null, vi 0, .null, vi 0, vi 0, vi 0, vi 0, vi 0, vi 0, vi 0, vi 0, vi 0, vi 0, vi 0, vi 0, .null, .null, .null, .null, .null, .null, vi 0, vi 0, vi 0, .null, .null, vi 0])) ∧ CHp (zD Z) B H0 (10) z H := ⟨_, rfl, hH⟩
  have h_j : E18 (0) = .inr (11, [.ref (B + (1)), .ref (B + (2)), .ref (B + (3)), .ref (B + (4)), .ref (B + (5)), .ref (B + (6)), vi 0, vi 0, .ref (B + (7)), .ref (B + (8)), vi 0, .ref (B + (9)), .null, .null, .null, .null, .null, .null, vi 0, .null, vi 0, vi 0, vi 0, vi 0, vi 0, vi 0, vi 0, vi 0, vi 0, vi 0, vi 0, vi 0, .null, .null, .null, .null, .null, .null, vi 0, vi 0, vi 0, .null, .null, vi 0]) := by rw [e18]; exact uE_self _ _ _
  refine lv_aload_n b.1 b.2.1 dX13_init_79 rfl (lv_at hl 0 rfl) ?_
  refine lv_sipush (v := Int32.ofInt 401) b.1 b.2.1 dX13_init_80 (by decide) ?_
  refine ch_newa (atype := .int) (ty := .int) (cA := zC Z 0) (t0 := 0) (N' := 401) b hH (li_1 57 (by decide +kernel) (by decide +kernel)) rfl rfl (fun _ h => h) rfl (by decide) (Nat.le_of_ble_eq_true rfl) (show _ ≤ (mc : Nat) by omega) (show _ ≤ (ms : Nat) by omega) dX13_init_83 (fun H hH => ?_)
  obtain ⟨E19, e19, hH⟩ : ∃ z, z = uE E18 (10) (arI (zC Z 0) 401 (fun _ => 0)) ∧ CHp (zD Z) B H0 (11) z H := ⟨_, rfl, hH⟩
  have h_j : E19 (0) = .inr (11, [.ref (B + (1)), .ref (B + (2)), .ref (B + (3)), .ref (B + (4)), .ref (B + (5)), .ref (B + (6)), vi 0, vi 0, .ref (B + (7)), .ref (B + (8)), vi 0, .ref (B + (9)), .null, .null, .null, .null, .null, .null, vi 0, .null, vi 0, vi 0, vi 0, vi 0, vi 0, vi 0, vi 0, vi 0, vi 0, vi 0, vi 0, vi 0, .null, .null, .null, .null, .null, .null, vi 0, vi 0, vi 0, .null, .null, vi 0]) := by rw [e19]; exact (uE_ne (by omega)).trans h_j
  refine ch_putG (k := 12) (j := 0) (ty0 := tyX13) (fin := true) b hH (by omega) h_j rfl in_26 tyX13_ok nmX13 (by decide) rfl (Nat.le_of_ble_eq_true rfl) rfl rfl hnm rfl hlo hzB (li_7 66 (by decide +kernel) (by decide +kernel)) dX13_init_85 (fun H locs hH hlo => ?_)
  obtain ⟨E20, e20, hH⟩ : ∃ z, z = uE E19 (0) (.inr (11, [.ref (B + (1)), .ref (B + (2)), .ref (B + (3)), .ref (B + (4)), .ref (B + (5)), .ref (B + (6)), vi 0, vi 0, .ref (B + (7)), .ref (B + (8)), vi 0, .ref (B + (9)), .ref (B + (10)), .null, .null, .null, .null, .null, vi 0, .null, vi 0, vi 0, vi 0, vi 0, vi 0, vi 0, vi 0, vi 0, vi 0, vi 0, vi 0, vi 0, .null, .null, .null, .null, .null, .null, vi 0, vi 0, vi 0, .null, .null, vi 0])) ∧ CHp (zD Z) B H0 (11) z H := ⟨_, rfl, hH⟩
  have h_j : E20 (0) = .inr (11, [.ref (B + (1)), .ref (B + (2)), .ref (B + (3)), .ref (B + (4)), .ref (B + (5)), .ref (B + (6)), vi 0, vi 0, .ref (B + (7)), .ref (B + (8)), vi 0, .ref (B + (9)), .ref (B + (10)), .null, .null, .null, .null, .null, vi 0, .null, vi 0, vi 0, vi 0, vi 0, vi 0, vi 0, vi 0, vi 0, vi 0, vi 0, vi 0, vi 0, .null, .null, .null, .null, .null, .null, vi 0, vi 0, vi 0, .null, .null, vi 0]) := by rw [e20]; exact uE_self _ _ _
  refine lv_aload_n b.1 b.2.1 dX13_init_88 rfl (lv_at hl 0 rfl) ?_
  refine lv_bipush (v := Int32.ofInt 42) b.1 b.2.1 dX13_init_89 (by decide) ?_
  refine ch_newa (atype := .int) (ty := .int) (cA := zC Z 0) (t0 := 0) (N' := 42) b hH (li_1 57 (by decide +kernel) (by decide +kernel)) rfl rfl (fun _ h => h) rfl (by decide) (Nat.le_of_ble_eq_true rfl) (show _ ≤ (mc : Nat) by omega) (show _ ≤ (ms : Nat) by omega) dX13_init_91 (fun H hH => ?_)
  obtain ⟨E21, e21, hH⟩ : ∃ z, z = uE E20 (11) (arI (zC Z 0) 42 (fun _ => 0)) ∧ CHp (zD Z) B H0 (12) z H := ⟨_, rfl, hH⟩
  have h_j : E21 (0) = .inr (11, [.ref (B + (1)), .ref (B + (2)), .ref (B + (3)), .ref (B + (4)), .ref (B + (5)), .ref (B + (6)), vi 0, vi 0, .ref (B + (7)), .ref (B + (8)), vi 0, .ref (B + (9)), .ref (B + (10)), .null, .null, .null, .null, .null, vi 0, .null, vi 0, vi 0, vi 0, vi 0, vi 0, vi 0, vi 0, vi 0, vi 0, vi 0, vi 0, vi 0, .null, .null, .null, .null, .null, .null, vi 0, vi 0, vi 0, .null, .null, vi 0]) := by rw [e21]; exact (uE_ne (by omega)).trans h_j
  refine ch_putG (k := 13) (j := 0) (ty0 := tyX13) (fin := true) b hH (by omega) h_j rfl in_26 tyX13_ok nmX13 (by decide) rfl (Nat.le_of_ble_eq_true rfl) rfl rfl hnm rfl hlo hzB (li_7 67 (by decide +kernel) (by decide +kernel)) dX13_init_93 (fun H locs hH hlo => ?_)
  obtain ⟨E22, e22, hH⟩ : ∃ z, z = uE E21 (0) (.inr (11, [.ref (B + (1)), .ref (B + (2)), .ref (B + (3)), .ref (B + (4)), .ref (B + (5)), .ref (B + (6)), vi 0, vi 0, .ref (B + (7)), .ref (B + (8)), vi 0, .ref (B + (9)), .ref (B + (10)), .ref (B + (11)), .null, .null, .null, .null, vi 0, .null, vi 0, vi 0, vi 0, vi 0, vi 0, vi 0, vi 0, vi 0, vi 0, vi 0, vi 0, vi 0, .null, .null, .null, .null, .null, .null, vi 0, vi 0, vi 0, .null, .null, vi 0])) ∧ CHp (zD Z) B H0 (12) z H := ⟨_, rfl, hH⟩
  have h_j : E22 (0) = .inr (11, [.ref (B + (1)), .ref (B + (2)), .ref (B + (3)), .ref (B + (4)), .ref (B + (5)), .ref (B + (6)), vi 0, vi 0, .ref (B + (7)), .ref (B + (8)), vi 0, .ref (B + (9)), .ref (B + (10)), .ref (B + (11)), .null, .null, .null, .null, vi 0, .null, vi 0, vi 0, vi 0, vi 0, vi 0, vi 0, vi 0, vi 0, vi 0, vi 0, vi 0, vi 0, .null, .null, .null, .null, .null, .null, vi 0, vi 0, vi 0, .null, .null, vi 0]) := by rw [e22]; exact uE_self _ _ _
  refine lv_aload_n b.1 b.2.1 dX13_init_96 rfl (lv_at hl 0 rfl) ?_
  refine lv_bipush (v := Int32.ofInt 42) b.1 b.2.1 dX13_init_97 (by decide) ?_
  refine ch_newa (atype := .int) (ty := .int) (cA := zC Z 0) (t0 := 0) (N' := 42) b hH (li_1 57 (by decide +kernel) (by decide +kernel)) rfl rfl (fun _ h => h) rfl (by decide) (Nat.le_of_ble_eq_true rfl) (show _ ≤ (mc : Nat) by omega) (show _ ≤ (ms : Nat) by omega) dX13_init_99 (fun H hH => ?_)
  obtain ⟨E23, e23, hH⟩ : ∃ z, z = uE E22 (12) (arI (zC Z 0) 42 (fun _ => 0)) ∧ CHp (zD Z) B H0 (13) z H := ⟨_, rfl, hH⟩
  have h_j : E23 (0) = .inr (11, [.ref (B + (1)), .ref (B + (2)), .ref (B + (3)), .ref (B + (4)), .ref (B + (5)), .ref (B + (6)), vi 0, vi 0, .ref (B + (7)), .ref (B + (8)), vi 0, .ref (B + (9)), .ref (B + (10)), .ref (B + (11)), .null, .null, .null, .null, vi 0, .null, vi 0, vi 0, vi 0, vi 0, vi 0, vi 0, vi 0, vi 0, vi 0, vi 0, vi 0, vi 0, .null, .null, .null, .null, .null, .null, vi 0, vi 0, vi 0, .null, .null, vi 0]) := by rw [e23]; exact (uE_ne (by omega)).trans h_j
  refine ch_putG (k := 14) (j := 0) (ty0 := tyX13) (fin := true) b hH (by omega) h_j rfl in_26 tyX13_ok nmX13 (by decide) rfl (Nat.le_of_ble_eq_true rfl) rfl rfl hnm rfl hlo hzB (li_7 68 (by decide +kernel) (by decide +kernel)) dX13_init_101 (fun H locs hH hlo => ?_)
  obtain ⟨E24, e24, hH⟩ : ∃ z, z = uE E23 (0) (.inr (11, [.ref (B + (1)), .ref (B + (2)), .ref (B + (3)), .ref (B + (4)), .ref (B + (5)), .ref (B + (6)), vi 0, vi 0, .ref (B + (7)), .ref (B + (8)), vi 0, .ref (B + (9)), .ref (B + (10)), .ref (B + (11)), .ref (B + (12)), .null, .null, .null, vi 0, .null, vi 0, vi 0, vi 0, vi 0, vi 0, vi 0, vi 0, vi 0, vi 0, vi 0, vi 0, vi 0, .null, .null, .null, .null, .null, .null, vi 0, vi 0, vi 0, .null, .null, vi 0])) ∧ CHp (zD Z) B H0 (13) z H := ⟨_, rfl, hH⟩
  have h_j : E24 (0) = .inr (11, [.ref (B + (1)), .ref (B + (2)), .ref (B + (3)), .ref (B + (4)), .ref (B + (5)), .ref (B + (6)), vi 0, vi 0, .ref (B + (7)), .ref (B + (8)), vi 0, .ref (B + (9)), .ref (B + (10)), .ref (B + (11)), .ref (B + (12)), .null, .null, .null, vi 0, .null, vi 0, vi 0, vi 0, vi 0, vi 0, vi 0, vi 0, vi 0, vi 0, vi 0, vi 0, vi 0, .null, .null, .null, .null, .null, .null, vi 0, vi 0, vi 0, .null, .null, vi 0]) := by rw [e24]; exact uE_self _ _ _
  refine lv_aload_n b.1 b.2.1 dX13_init_104 rfl (lv_at hl 0 rfl) ?_
  refine lv_sipush (v := Int32.ofInt 4356) b.1 b.2.1 dX13_init_105 (by decide) ?_
  refine ch_newa (atype := .int) (ty := .int) (cA := zC Z 0) (t0 := 0) (N' := 4356) b hH (li_1 57 (by decide +kernel) (by decide +kernel)) rfl rfl (fun _ h => h) rfl (by decide) (Nat.le_of_ble_eq_true rfl) (show _ ≤ (mc : Nat) by omega) (show _ ≤ (ms : Nat) by omega) dX13_init_108 (fun H hH => ?_)
  obtain ⟨E25, e25, hH⟩ : ∃ z, z = uE E24 (13) (arI (zC Z 0) 4356 (fun _ => 0)) ∧ CHp (zD Z) B H0 (14) z H := ⟨_, rfl, hH⟩
  have h_j : E25 (0) = .inr (11, [.ref (B + (1)), .ref (B + (2)), .ref (B + (3)), .ref (B + (4)), .ref (B + (5)), .ref (B + (6)), vi 0, vi 0, .ref (B + (7)), .ref (B + (8)), vi 0, .ref (B + (9)), .ref (B + (10)), .ref (B + (11)), .ref (B + (12)), .null, .null, .null, vi 0, .null, vi 0, vi 0, vi 0, vi 0, vi 0, vi 0, vi 0, vi 0, vi 0, vi 0, vi 0, vi 0, .null, .null, .null, .null, .null, .null, vi 0, vi 0, vi 0, .null, .null, vi 0]) := by rw [e25]; exact (uE_ne (by omega)).trans h_j
  refine ch_putG (k := 15) (j := 0) (ty0 := tyX13) (fin := true) b hH (by omega) h_j rfl in_26 tyX13_ok nmX13 (by decide) rfl (Nat.le_of_ble_eq_true rfl) rfl rfl hnm rfl hlo hzB (li_7 69 (by decide +kernel) (by decide +kernel)) dX13_init_110 (fun H locs hH hlo => ?_)
  obtain ⟨E26, e26, hH⟩ : ∃ z, z = uE E25 (0) (.inr (11, [.ref (B + (1)), .ref (B + (2)), .ref (B + (3)), .ref (B + (4)), .ref (B + (5)), .ref (B + (6)), vi 0, vi 0, .ref (B + (7)), .ref (B + (8)), vi 0, .ref (B + (9)), .ref (B + (10)), .ref (B + (11)), .ref (B + (12)), .ref (B + (13)), .null, .null, vi 0, .null, vi 0, vi 0, vi 0, vi 0, vi 0, vi 0, vi 0, vi 0, vi 0, vi 0, vi 0, vi 0, .null, .null, .null, .null, .null, .null, vi 0, vi 0, vi 0, .null, .null, vi 0])) ∧ CHp (zD Z) B H0 (14) z H := ⟨_, rfl, hH⟩
  have h_j : E26 (0) = .inr (11, [.ref (B + (1)), .ref (B + (2)), .ref (B + (3)), .ref (B + (4)), .ref (B + (5)), .ref (B + (6)), vi 0, vi 0, .ref (B + (7)), .ref (B + (8)), vi 0, .ref (B + (9)), .ref (B + (10)), .ref (B + (11)), .ref (B + (12)), .ref (B + (13)), .null, .null, vi 0, .null, vi 0, vi 0, vi 0, vi 0, vi 0, vi 0, vi 0, vi 0, vi 0, vi 0, vi 0, vi 0, .null, .null, .null, .null, .null, .null, vi 0, vi 0, vi 0, .null, .null, vi 0]) := by rw [e26]; exact uE_self _ _ _
  refine lv_aload_n b.1 b.2.1 dX13_init_113 rfl (lv_at hl 0 rfl) ?_
  refine lv_sipush (v := Int32.ofInt 4356) b.1 b.2.1 dX13_init_114 (by decide) ?_
  refine ch_newa (atype := .int) (ty := .int) (cA := zC Z 0) (t0 := 0) (N' := 4356) b hH (li_1 57 (by decide +kernel) (by decide +kernel)) rfl rfl (fun _ h => h) rfl (by decide) (Nat.le_of_ble_eq_true rfl) (show _ ≤ (mc : Nat) by omega) (show _ ≤ (ms : Nat) by omega) dX13_init_117 (fun H hH => ?_)
  obtain ⟨E27, e27, hH⟩ : ∃ z, z = uE E26 (14) (arI (zC Z 0) 4356 (fun _ => 0)) ∧ CHp (zD Z) B H0 (15) z H := ⟨_, rfl, hH⟩
  have h_j : E27 (0) = .inr (11, [.ref (B + (1)), .ref (B + (2)), .ref (B + (3)), .ref (B + (4)), .ref (B + (5)), .ref (B + (6)), vi 0, vi 0, .ref (B + (7)), .ref (B + (8)), vi 0, .ref (B + (9)), .ref (B + (10)), .ref (B + (11)), .ref (B + (12)), .ref (B + (13)), .null, .null, vi 0, .null, vi 0, vi 0, vi 0, vi 0, vi 0, vi 0, vi 0, vi 0, vi 0, vi 0, vi 0, vi 0, .null, .null, .null, .null, .null, .null, vi 0, vi 0, vi 0, .null, .null, vi 0]) := by rw [e27]; exact (uE_ne (by omega)).trans h_j
  refine ch_putG (k := 16) (j := 0) (ty0 := tyX13) (fin := true) b hH (by omega) h_j rfl in_26 tyX13_ok nmX13 (by decide) rfl (Nat.le_of_ble_eq_true rfl) rfl rfl hnm rfl hlo hzB (li_7 70 (by decide +kernel) (by decide +kernel)) dX13_init_119 (fun H locs hH hlo => ?_)
  obtain ⟨E28, e28, hH⟩ : ∃ z, z = uE E27 (0) (.inr (11, [.ref (B + (1)), .ref (B + (2)), .ref (B + (3)), .ref (B + (4)), .ref (B + (5)), .ref (B + (6)), vi 0, vi 0, .ref (B + (7)), .ref (B + (8)), vi 0, .ref (B + (9)), .ref (B + (10)), .ref (B + (11)), .ref (B + (12)), .ref (B + (13)), .ref (B + (14)), .null, vi 0, .null, vi 0, vi 0, vi 0, vi 0, vi 0, vi 0, vi 0, vi 0, vi 0, vi 0, vi 0, vi 0, .null, .null, .null, .null, .null, .null, vi 0, vi 0, vi 0, .null, .null, vi 0])) ∧ CHp (zD Z) B H0 (15) z H := ⟨_, rfl, hH⟩
  have h_j : E28 (0) = .inr (11, [.ref (B + (1)), .ref (B + (2)), .ref (B + (3)), .ref (B + (4)), .ref (B + (5)), .ref (B + (6)), vi 0, vi 0, .ref (B + (7)), .ref (B + (8)), vi 0, .ref (B + (9)), .ref (B + (10)), .ref (B + (11)), .ref (B + (12)), .ref (B + (13)), .ref (B + (14)), .null, vi 0, .null, vi 0, vi 0, vi 0, vi 0, vi 0, vi 0, vi 0, vi 0, vi 0, vi 0, vi 0, vi 0, .null, .null, .null, .null, .null, .null, vi 0, vi 0, vi 0, .null, .null, vi 0]) := by rw [e28]; exact uE_self _ _ _
  refine lv_aload_n b.1 b.2.1 dX13_init_122 rfl (lv_at hl 0 rfl) ?_
  refine lv_sipush (v := Int32.ofInt 4356) b.1 b.2.1 dX13_init_123 (by decide) ?_
  refine ch_newa (atype := .int) (ty := .int) (cA := zC Z 0) (t0 := 0) (N' := 4356) b hH (li_1 57 (by decide +kernel) (by decide +kernel)) rfl rfl (fun _ h => h) rfl (by decide) (Nat.le_of_ble_eq_true rfl) (show _ ≤ (mc : Nat) by omega) (show _ ≤ (ms : Nat) by omega) dX13_init_126 (fun H hH => ?_)
  obtain ⟨E29, e29, hH⟩ : ∃ z, z = uE E28 (15) (arI (zC Z 0) 4356 (fun _ => 0)) ∧ CHp (zD Z) B H0 (16) z H := ⟨_, rfl, hH⟩
  have h_j : E29 (0) = .inr (11, [.ref (B + (1)), .ref (B + (2)), .ref (B + (3)), .ref (B + (4)), .ref (B + (5)), .ref (B + (6)), vi 0, vi 0, .ref (B + (7)), .ref (B + (8)), vi 0, .ref (B + (9)), .ref (B + (10)), .ref (B + (11)), .ref (B + (12)), .ref (B + (13)), .ref (B + (14)), .null, vi 0, .null, vi 0, vi 0, vi 0, vi 0, vi 0, vi 0, vi 0, vi 0, vi 0, vi 0, vi 0, vi 0, .null, .null, .null, .null, .null, .null, vi 0, vi 0, vi 0, .null, .null, vi 0]) := by rw [e29]; exact (uE_ne (by omega)).trans h_j
  refine ch_putG (k := 17) (j := 0) (ty0 := tyX13) (fin := true) b hH (by omega) h_j rfl in_26 tyX13_ok nmX13 (by decide) rfl (Nat.le_of_ble_eq_true rfl) rfl rfl hnm rfl hlo hzB (li_7 71 (by decide +kernel) (by decide +kernel)) dX13_init_128 (fun H locs hH hlo => ?_)
  obtain ⟨E30, e30, hH⟩ : ∃ z, z = uE E29 (0) (.inr (11, [.ref (B + (1)), .ref (B + (2)), .ref (B + (3)), .ref (B + (4)), .ref (B + (5)), .ref (B + (6)), vi 0, vi 0, .ref (B + (7)), .ref (B + (8)), vi 0, .ref (B + (9)), .ref (B + (10)), .ref (B + (11)), .ref (B + (12)), .ref (B + (13)), .ref (B + (14)), .ref (B + (15)), vi 0, .null, vi 0, vi 0, vi 0, vi 0, vi 0, vi 0, vi 0, vi 0, vi 0, vi 0, vi 0, vi 0, .null, .null, .null, .null, .null, .null, vi 0, vi 0, vi 0, .null, .null, vi 0])) ∧ CHp (zD Z) B H0 (16) z H := ⟨_, rfl, hH⟩
  have h_j : E30 (0) = .inr (11, [.ref (B + (1)), .ref (B + (2)), .ref (B + (3)), .ref (B + (4)), .ref (B + (5)), .ref (B + (6)), vi 0, vi 0, .ref (B + (7)), .ref (B + (8)), vi 0, .ref (B + (9)), .ref (B + (10)), .ref (B + (11)), .ref (B + (12)), .ref (B + (13)), .ref (B + (14)), .ref (B + (15)), vi 0, .null, vi 0, vi 0, vi 0, vi 0, vi 0, vi 0, vi 0, vi 0, vi 0, vi 0, vi 0, vi 0, .null, .null, .null, .null, .null, .null, vi 0, vi 0, vi 0, .null, .null, vi 0]) := by rw [e30]; exact uE_self _ _ _
  refine lv_aload_n b.1 b.2.1 dX13_init_131 rfl (lv_at hl 0 rfl) ?_
  refine lv_sipush (v := Int32.ofInt 600) b.1 b.2.1 dX13_init_132 (by decide) ?_
  refine ch_newa (atype := .int) (ty := .int) (cA := zC Z 0) (t0 := 0) (N' := 600) b hH (li_1 57 (by decide +kernel) (by decide +kernel)) rfl rfl (fun _ h => h) rfl (by decide) (Nat.le_of_ble_eq_true rfl) (show _ ≤ (mc : Nat) by omega) (show _ ≤ (ms : Nat) by omega) dX13_init_135 (fun H hH => ?_)
  obtain ⟨E31, e31, hH⟩ : ∃ z, z = uE E30 (16) (arI (zC Z 0) 600 (fun _ => 0)) ∧ CHp (zD Z) B H0 (17) z H := ⟨_, rfl, hH⟩
  have h_j : E31 (0) = .inr (11, [.ref (B + (1)), .ref (B + (2)), .ref (B + (3)), .ref (B + (4)), .ref (B + (5)), .ref (B + (6)), vi 0, vi 0, .ref (B + (7)), .ref (B + (8)), vi 0, .ref (B + (9)), .ref (B + (10)), .ref (B + (11)), .ref (B + (12)), .ref (B + (13)), .ref (B + (14)), .ref (B + (15)), vi 0, .null, vi 0, vi 0, vi 0, vi 0, vi 0, vi 0, vi 0, vi 0, vi 0, vi 0, vi 0, vi 0, .null, .null, .null, .null, .null, .null, vi 0, vi 0, vi 0, .null, .null, vi 0]) := by rw [e31]; exact (uE_ne (by omega)).trans h_j
  refine ch_putG (k := 19) (j := 0) (ty0 := tyX13) (fin := true) b hH (by omega) h_j rfl in_26 tyX13_ok nmX13 (by decide) rfl (Nat.le_of_ble_eq_true rfl) rfl rfl hnm rfl hlo hzB (li_7 73 (by decide +kernel) (by decide +kernel)) dX13_init_137 (fun H locs hH hlo => ?_)
  obtain ⟨E32, e32, hH⟩ : ∃ z, z = uE E31 (0) (.inr (11, [.ref (B + (1)), .ref (B + (2)), .ref (B + (3)), .ref (B + (4)), .ref (B + (5)), .ref (B + (6)), vi 0, vi 0, .ref (B + (7)), .ref (B + (8)), vi 0, .ref (B + (9)), .ref (B + (10)), .ref (B + (11)), .ref (B + (12)), .ref (B + (13)), .ref (B + (14)), .ref (B + (15)), vi 0, .ref (B + (16)), vi 0, vi 0, vi 0, vi 0, vi 0, vi 0, vi 0, vi 0, vi 0, vi 0, vi 0, vi 0, .null, .null, .null, .null, .null, .null, vi 0, vi 0, vi 0, .null, .null, vi 0])) ∧ CHp (zD Z) B H0 (17) z H := ⟨_, rfl, hH⟩
  have h_j : E32 (0) = .inr (11, [.ref (B + (1)), .ref (B + (2)), .ref (B + (3)), .ref (B + (4)), .ref (B + (5)), .ref (B + (6)), vi 0, vi 0, .ref (B + (7)), .ref (B + (8)), vi 0, .ref (B + (9)), .ref (B + (10)), .ref (B + (11)), .ref (B + (12)), .ref (B + (13)), .ref (B + (14)), .ref (B + (15)), vi 0, .ref (B + (16)), vi 0, vi 0, vi 0, vi 0, vi 0, vi 0, vi 0, vi 0, vi 0, vi 0, vi 0, vi 0, .null, .null, .null, .null, .null, .null, vi 0, vi 0, vi 0, .null, .null, vi 0]) := by rw [e32]; exact uE_self _ _ _
  refine lv_aload_n b.1 b.2.1 dX13_init_140 rfl (lv_at hl 0 rfl) ?_
  refine lv_iconst (v := Int32.ofInt (-1)) b.1 b.2.1 dX13_init_141 rfl ?_
  refine ch_putG (k := 27) (j := 0) (ty0 := tyX13) (fin := false) b hH (by omega) h_j rfl in_26 tyX13_ok nmX13 (by decide) rfl (Nat.le_of_ble_eq_true rfl) rfl rfl hnm rfl hlo hzB (li_7 81 (by decide +kernel) (by decide +kernel)) dX13_init_142 (fun H locs hH hlo => ?_)
  obtain ⟨E33, e33, hH⟩ : ∃ z, z = uE E32 (0) (.inr (11, [.ref (B + (1)), .ref (B + (2)), .ref (B + (3)), .ref (B + (4)), .ref (B + (5)), .ref (B + (6)), vi 0, vi 0, .ref (B + (7)), .ref (B + (8)), vi 0, .ref (B + (9)), .ref (B + (10)), .ref (B + (11)), .ref (B + (12)), .ref (B + (13)), .ref (B + (14)), .ref (B + (15)), vi 0, .ref (B + (16)), vi 0, vi 0, vi 0, vi 0, vi 0, vi 0, vi 0, vi (-1), vi 0, vi 0, vi 0, vi 0, .null, .null, .null, .null, .null, .null, vi 0, vi 0, vi 0, .null, .null, vi 0])) ∧ CHp (zD Z) B H0 (17) z H := ⟨_, rfl, hH⟩
  have h_j : E33 (0) = .inr (11, [.ref (B + (1)), .ref (B + (2)), .ref (B + (3)), .ref (B + (4)), .ref (B + (5)), .ref (B + (6)), vi 0, vi 0, .ref (B + (7)), .ref (B + (8)), vi 0, .ref (B + (9)), .ref (B + (10)), .ref (B + (11)), .ref (B + (12)), .ref (B + (13)), .ref (B + (14)), .ref (B + (15)), vi 0, .ref (B + (16)), vi 0, vi 0, vi 0, vi 0, vi 0, vi 0, vi 0, vi (-1), vi 0, vi 0, vi 0, vi 0, .null, .null, .null, .null, .null, .null, vi 0, vi 0, vi 0, .null, .null, vi 0]) := by rw [e33]; exact uE_self _ _ _
  refine lv_aload_n b.1 b.2.1 dX13_init_145 rfl (lv_at hl 0 rfl) ?_
  refine lv_bipush (v := Int32.ofInt 64) b.1 b.2.1 dX13_init_146 (by decide) ?_
  refine ch_newa (atype := .int) (ty := .int) (cA := zC Z 0) (t0 := 0) (N' := 64) b hH (li_1 57 (by decide +kernel) (by decide +kernel)) rfl rfl (fun _ h => h) rfl (by decide) (Nat.le_of_ble_eq_true rfl) (show _ ≤ (mc : Nat) by omega) (show _ ≤ (ms : Nat) by omega) dX13_init_148 (fun H hH => ?_)
  obtain ⟨E34, e34, hH⟩ : ∃ z, z = uE E33 (17) (arI (zC Z 0) 64 (fun _ => 0)) ∧ CHp (zD Z) B H0 (18) z H := ⟨_, rfl, hH⟩
  have h_j : E34 (0) = .inr (11, [.ref (B + (1)), .ref (B + (2)), .ref (B + (3)), .ref (B + (4)), .ref (B + (5)), .ref (B + (6)), vi 0, vi 0, .ref (B + (7)), .ref (B + (8)), vi 0, .ref (B + (9)), .ref (B + (10)), .ref (B + (11)), .ref (B + (12)), .ref (B + (13)), .ref (B + (14)), .ref (B + (15)), vi 0, .ref (B + (16)), vi 0, vi 0, vi 0, vi 0, vi 0, vi 0, vi 0, vi (-1), vi 0, vi 0, vi 0, vi 0, .null, .null, .null, .null, .null, .null, vi 0, vi 0, vi 0, .null, .null, vi 0]) := by rw [e34]; exact (uE_ne (by omega)).trans h_j
  refine ch_putG (k := 32) (j := 0) (ty0 := tyX13) (fin := true) b hH (by omega) h_j rfl in_26 tyX13_ok nmX13 (by decide) rfl (Nat.le_of_ble_eq_true rfl) rfl rfl hnm rfl hlo hzB (li_7 86 (by decide +kernel) (by decide +kernel)) dX13_init_150 (fun H locs hH hlo => ?_)
  obtain ⟨E35, e35, hH⟩ : ∃ z, z = uE E34 (0) (.inr (11, [.ref (B + (1)), .ref (B + (2)), .ref (B + (3)), .ref (B + (4)), .ref (B + (5)), .ref (B + (6)), vi 0, vi 0, .ref (B + (7)), .ref (B + (8)), vi 0, .ref (B + (9)), .ref (B + (10)), .ref (B + (11)), .ref (B + (12)), .ref (B + (13)), .ref (B + (14)), .ref (B + (15)), vi 0, .ref (B + (16)), vi 0, vi 0, vi 0, vi 0, vi 0, vi 0, vi 0, vi (-1), vi 0, vi 0, vi 0, vi 0, .ref (B + (17)), .null, .null, .null, .null, .null, vi 0, vi 0, vi 0, .null, .null, vi 0])) ∧ CHp (zD Z) B H0 (18) z H := ⟨_, rfl, hH⟩
  have h_j : E35 (0) = .inr (11, [.ref (B + (1)), .ref (B + (2)), .ref (B + (3)), .ref (B + (4)), .ref (B + (5)), .ref (B + (6)), vi 0, vi 0, .ref (B + (7)), .ref (B + (8)), vi 0, .ref (B + (9)), .ref (B + (10)), .ref (B + (11)), .ref (B + (12)), .ref (B + (13)), .ref (B + (14)), .ref (B + (15)), vi 0, .ref (B + (16)), vi 0, vi 0, vi 0, vi 0, vi 0, vi 0, vi 0, vi (-1), vi 0, vi 0, vi 0, vi 0, .ref (B + (17)), .null, .null, .null, .null, .null, vi 0, vi 0, vi 0, .null, .null, vi 0]) := by rw [e35]; exact uE_self _ _ _
  refine lv_aload_n b.1 b.2.1 dX13_init_153 rfl (lv_at hl 0 rfl) ?_
  refine lv_bipush (v := Int32.ofInt 64) b.1 b.2.1 dX13_init_154 (by decide) ?_
  refine ch_newa (atype := .int) (ty := .int) (cA := zC Z 0) (t0 := 0) (N' := 64) b hH (li_1 57 (by decide +kernel) (by decide +kernel)) rfl rfl (fun _ h => h) rfl (by decide) (Nat.le_of_ble_eq_true rfl) (show _ ≤ (mc : Nat) by omega) (show _ ≤ (ms : Nat) by omega) dX13_init_156 (fun H hH => ?_)
  obtain ⟨E36, e36, hH⟩ : ∃ z, z = uE E35 (18) (arI (zC Z 0) 64 (fun _ => 0)) ∧ CHp (zD Z) B H0 (19) z H := ⟨_, rfl, hH⟩
  have h_j : E36 (0) = .inr (11, [.ref (B + (1)), .ref (B + (2)), .ref (B + (3)), .ref (B + (4)), .ref (B + (5)), .ref (B + (6)), vi 0, vi 0, .ref (B + (7)), .ref (B + (8)), vi 0, .ref (B + (9)), .ref (B + (10)), .ref (B + (11)), .ref (B + (12)), .ref (B + (13)), .ref (B + (14)), .ref (B + (15)), vi 0, .ref (B + (16)), vi 0, vi 0, vi 0, vi 0, vi 0, vi 0, vi 0, vi (-1), vi 0, vi 0, vi 0, vi 0, .ref (B + (17)), .null, .null, .null, .null, .null, vi 0, vi 0, vi 0, .null, .null, vi 0]) := by rw [e36]; exact (uE_ne (by omega)).trans h_j
  refine ch_putG (k := 33) (j := 0) (ty0 := tyX13) (fin := true) b hH (by omega) h_j rfl in_26 tyX13_ok nmX13 (by decide) rfl (Nat.le_of_ble_eq_true rfl) rfl rfl hnm rfl hlo hzB (li_7 87 (by decide +kernel) (by decide +kernel)) dX13_init_158 (fun H locs hH hlo => ?_)
  obtain ⟨E37, e37, hH⟩ : ∃ z, z = uE E36 (0) (.inr (11, [.ref (B + (1)), .ref (B + (2)), .ref (B + (3)), .ref (B + (4)), .ref (B + (5)), .ref (B + (6)), vi 0, vi 0, .ref (B + (7)), .ref (B + (8)), vi 0, .ref (B + (9)), .ref (B + (10)), .ref (B + (11)), .ref (B + (12)), .ref (B + (13)), .ref (B + (14)), .ref (B + (15)), vi 0, .ref (B + (16)), vi 0, vi 0, vi 0, vi 0, vi 0, vi 0, vi 0, vi (-1), vi 0, vi 0, vi 0, vi 0, .ref (B + (17)), .ref (B + (18)), .null, .null, .null, .null, vi 0, vi 0, vi 0, .null, .null, vi 0])) ∧ CHp (zD Z) B H0 (19) z H := ⟨_, rfl, hH⟩
  have h_j : E37 (0) = .inr (11, [.ref (B + (1)), .ref (B + (2)), .ref (B + (3)), .ref (B + (4)), .ref (B + (5)), .ref (B + (6)), vi 0, vi 0, .ref (B + (7)), .ref (B + (8)), vi 0, .ref (B + (9)), .ref (B + (10)), .ref (B + (11)), .ref (B + (12)), .ref (B + (13)), .ref (B + (14)), .ref (B + (15)), vi 0, .ref (B + (16)), vi 0, vi 0, vi 0, vi 0, vi 0, vi 0, vi 0, vi (-1), vi 0, vi 0, vi 0, vi 0, .ref (B + (17)), .ref (B + (18)), .null, .null, .null, .null, vi 0, vi 0, vi 0, .null, .null, vi 0]) := by rw [e37]; exact uE_self _ _ _
  refine lv_aload_n b.1 b.2.1 dX13_init_161 rfl (lv_at hl 0 rfl) ?_
  refine lv_bipush (v := Int32.ofInt 64) b.1 b.2.1 dX13_init_162 (by decide) ?_
  refine ch_newa (atype := .int) (ty := .int) (cA := zC Z 0) (t0 := 0) (N' := 64) b hH (li_1 57 (by decide +kernel) (by decide +kernel)) rfl rfl (fun _ h => h) rfl (by decide) (Nat.le_of_ble_eq_true rfl) (show _ ≤ (mc : Nat) by omega) (show _ ≤ (ms : Nat) by omega) dX13_init_164 (fun H hH => ?_)
  obtain ⟨E38, e38, hH⟩ : ∃ z, z = uE E37 (19) (arI (zC Z 0) 64 (fun _ => 0)) ∧ CHp (zD Z) B H0 (20) z H := ⟨_, rfl, hH⟩
  have h_j : E38 (0) = .inr (11, [.ref (B + (1)), .ref (B + (2)), .ref (B + (3)), .ref (B + (4)), .ref (B + (5)), .ref (B + (6)), vi 0, vi 0, .ref (B + (7)), .ref (B + (8)), vi 0, .ref (B + (9)), .ref (B + (10)), .ref (B + (11)), .ref (B + (12)), .ref (B + (13)), .ref (B + (14)), .ref (B + (15)), vi 0, .ref (B + (16)), vi 0, vi 0, vi 0, vi 0, vi 0, vi 0, vi 0, vi (-1), vi 0, vi 0, vi 0, vi 0, .ref (B + (17)), .ref (B + (18)), .null, .null, .null, .null, vi 0, vi 0, vi 0, .null, .null, vi 0]) := by rw [e38]; exact (uE_ne (by omega)).trans h_j
  refine ch_putG (k := 34) (j := 0) (ty0 := tyX13) (fin := true) b hH (by omega) h_j rfl in_26 tyX13_ok nmX13 (by decide) rfl (Nat.le_of_ble_eq_true rfl) rfl rfl hnm rfl hlo hzB (li_7 88 (by decide +kernel) (by decide +kernel)) dX13_init_166 (fun H locs hH hlo => ?_)
  obtain ⟨E39, e39, hH⟩ : ∃ z, z = uE E38 (0) (.inr (11, [.ref (B + (1)), .ref (B + (2)), .ref (B + (3)), .ref (B + (4)), .ref (B + (5)), .ref (B + (6)), vi 0, vi 0, .ref (B + (7)), .ref (B + (8)), vi 0, .ref (B + (9)), .ref (B + (10)), .ref (B + (11)), .ref (B + (12)), .ref (B + (13)), .ref (B + (14)), .ref (B + (15)), vi 0, .ref (B + (16)), vi 0, vi 0, vi 0, vi 0, vi 0, vi 0, vi 0, vi (-1), vi 0, vi 0, vi 0, vi 0, .ref (B + (17)), .ref (B + (18)), .ref (B + (19)), .null, .null, .null, vi 0, vi 0, vi 0, .null, .null, vi 0])) ∧ CHp (zD Z) B H0 (20) z H := ⟨_, rfl, hH⟩
  have h_j : E39 (0) = .inr (11, [.ref (B + (1)), .ref (B + (2)), .ref (B + (3)), .ref (B + (4)), .ref (B + (5)), .ref (B + (6)), vi 0, vi 0, .ref (B + (7)), .ref (B + (8)), vi 0, .ref (B + (9)), .ref (B + (10)), .ref (B + (11)), .ref (B + (12)), .ref (B + (13)), .ref (B + (14)), .ref (B + (15)), vi 0, .ref (B + (16)), vi 0, vi 0, vi 0, vi 0, vi 0, vi 0, vi 0, vi (-1), vi 0, vi 0, vi 0, vi 0, .ref (B + (17)), .ref (B + (18)), .ref (B + (19)), .null, .null, .null, vi 0, vi 0, vi 0, .null, .null, vi 0]) := by rw [e39]; exact uE_self _ _ _
  refine lv_aload_n b.1 b.2.1 dX13_init_169 rfl (lv_at hl 0 rfl) ?_
  refine lv_bipush (v := Int32.ofInt 64) b.1 b.2.1 dX13_init_170 (by decide) ?_
  refine ch_newa (atype := .int) (ty := .int) (cA := zC Z 0) (t0 := 0) (N' := 64) b hH (li_1 57 (by decide +kernel) (by decide +kernel)) rfl rfl (fun _ h => h) rfl (by decide) (Nat.le_of_ble_eq_true rfl) (show _ ≤ (mc : Nat) by omega) (show _ ≤ (ms : Nat) by omega) dX13_init_172 (fun H hH => ?_)
  obtain ⟨E40, e40, hH⟩ : ∃ z, z = uE E39 (20) (arI (zC Z 0) 64 (fun _ => 0)) ∧ CHp (zD Z) B H0 (21) z H := ⟨_, rfl, hH⟩
  have h_j : E40 (0) = .inr (11, [.ref (B + (1)), .ref (B + (2)), .ref (B + (3)), .ref (B + (4)), .ref (B + (5)), .ref (B + (6)), vi 0, vi 0, .ref (B + (7)), .ref (B + (8)), vi 0, .ref (B + (9)), .ref (B + (10)), .ref (B + (11)), .ref (B + (12)), .ref (B + (13)), .ref (B + (14)), .ref (B + (15)), vi 0, .ref (B + (16)), vi 0, vi 0, vi 0, vi 0, vi 0, vi 0, vi 0, vi (-1), vi 0, vi 0, vi 0, vi 0, .ref (B + (17)), .ref (B + (18)), .ref (B + (19)), .null, .null, .null, vi 0, vi 0, vi 0, .null, .null, vi 0]) := by rw [e40]; exact (uE_ne (by omega)).trans h_j
  refine ch_putG (k := 35) (j := 0) (ty0 := tyX13) (fin := true) b hH (by omega) h_j rfl in_26 tyX13_ok nmX13 (by decide) rfl (Nat.le_of_ble_eq_true rfl) rfl rfl hnm rfl hlo hzB (li_7 89 (by decide +kernel) (by decide +kernel)) dX13_init_174 (fun H locs hH hlo => ?_)
  obtain ⟨E41, e41, hH⟩ : ∃ z, z = uE E40 (0) (.inr (11, [.ref (B + (1)), .ref (B + (2)), .ref (B + (3)), .ref (B + (4)), .ref (B + (5)), .ref (B + (6)), vi 0, vi 0, .ref (B + (7)), .ref (B + (8)), vi 0, .ref (B + (9)), .ref (B + (10)), .ref (B + (11)), .ref (B + (12)), .ref (B + (13)), .ref (B + (14)), .ref (B + (15)), vi 0, .ref (B + (16)), vi 0, vi 0, vi 0, vi 0, vi 0, vi 0, vi 0, vi (-1), vi 0, vi 0, vi 0, vi 0, .ref (B + (17)), .ref (B + (18)), .ref (B + (19)), .ref (B + (20)), .null, .null, vi 0, vi 0, vi 0, .null, .null, vi 0])) ∧ CHp (zD Z) B H0 (21) z H := ⟨_, rfl, hH⟩
  have h_j : E41 (0) = .inr (11, [.ref (B + (1)), .ref (B + (2)), .ref (B + (3)), .ref (B + (4)), .ref (B + (5)), .ref (B + (6)), vi 0, vi 0, .ref (B + (7)), .ref (B + (8)), vi 0, .ref (B + (9)), .ref (B + (10)), .ref (B + (11)), .ref (B + (12)), .ref (B + (13)), .ref (B + (14)), .ref (B + (15)), vi 0, .ref (B + (16)), vi 0, vi 0, vi 0, vi 0, vi 0, vi 0, vi 0, vi (-1), vi 0, vi 0, vi 0, vi 0, .ref (B + (17)), .ref (B + (18)), .ref (B + (19)), .ref (B + (20)), .null, .null, vi 0, vi 0, vi 0, .null, .null, vi 0]) := by rw [e41]; exact uE_self _ _ _
  refine lv_aload_n b.1 b.2.1 dX13_init_177 rfl (lv_at hl 0 rfl) ?_
  refine lv_iconst (v := Int32.ofInt 2) b.1 b.2.1 dX13_init_178 rfl ?_
  refine ch_newa (atype := .int) (ty := .int) (cA := zC Z 0) (t0 := 0) (N' := 2) b hH (li_1 57 (by decide +kernel) (by decide +kernel)) rfl rfl (fun _ h => h) rfl (by decide) (Nat.le_of_ble_eq_true rfl) (show _ ≤ (mc : Nat) by omega) (show _ ≤ (ms : Nat) by omega) dX13_init_179 (fun H hH => ?_)
  obtain ⟨E42, e42, hH⟩ : ∃ z, z = uE E41 (21) (arI (zC Z 0) 2 (fun _ => 0)) ∧ CHp (zD Z) B H0 (22) z H := ⟨_, rfl, hH⟩
  have h_j : E42 (0) = .inr (11, [.ref (B + (1)), .ref (B + (2)), .ref (B + (3)), .ref (B + (4)), .ref (B + (5)), .ref (B + (6)), vi 0, vi 0, .ref (B + (7)), .ref (B + (8)), vi 0, .ref (B + (9)), .ref (B + (10)), .ref (B + (11)), .ref (B + (12)), .ref (B + (13)), .ref (B + (14)), .ref (B + (15)), vi 0, .ref (B + (16)), vi 0, vi 0, vi 0, vi 0, vi 0, vi 0, vi 0, vi (-1), vi 0, vi 0, vi 0, vi 0, .ref (B + (17)), .ref (B + (18)), .ref (B + (19)), .ref (B + (20)), .null, .null, vi 0, vi 0, vi 0, .null, .null, vi 0]) := by rw [e42]; exact (uE_ne (by omega)).trans h_j
  refine ch_putG (k := 36) (j := 0) (ty0 := tyX13) (fin := true) b hH (by omega) h_j rfl in_26 tyX13_ok nmX13 (by decide) rfl (Nat.le_of_ble_eq_true rfl) rfl rfl hnm rfl hlo hzB (li_7 90 (by decide +kernel) (by decide +kernel)) dX13_init_181 (fun H locs hH hlo => ?_)
  obtain ⟨E43, e43, hH⟩ : ∃ z, z = uE E42 (0) (.inr (11, [.ref (B + (1)), .ref (B + (2)), .ref (B + (3)), .ref (B + (4)), .ref (B + (5)), .ref (B + (6)), vi 0, vi 0, .ref (B + (7)), .ref (B + (8)), vi 0, .ref (B + (9)), .ref (B + (10)), .ref (B + (11)), .ref (B + (12)), .ref (B + (13)), .ref (B + (14)), .ref (B + (15)), vi 0, .ref (B + (16)), vi 0, vi 0, vi 0, vi 0, vi 0, vi 0, vi 0, vi (-1), vi 0, vi 0, vi 0, vi 0, .ref (B + (17)), .ref (B + (18)), .ref (B + (19)), .ref (B + (20)), .ref (B + (21)), .null, vi 0, vi 0, vi 0, .null, .null, vi 0])) ∧ CHp (zD Z) B H0 (22) z H := ⟨_, rfl, hH⟩
  have h_j : E43 (0) = .inr (11, [.ref (B + (1)), .ref (B + (2)), .ref (B + (3)), .ref (B + (4)), .ref (B + (5)), .ref (B + (6)), vi 0, vi 0, .ref (B + (7)), .ref (B + (8)), vi 0, .ref (B + (9)), .ref (B + (10)), .ref (B + (11)), .ref (B + (12)), .ref (B + (13)), .ref (B + (14)), .ref (B + (15)), vi 0, .ref (B + (16)), vi 0, vi 0, vi 0, vi 0, vi 0, vi 0, vi 0, vi (-1), vi 0, vi 0, vi 0, vi 0, .ref (B + (17)), .ref (B + (18)), .ref (B + (19)), .ref (B + (20)), .ref (B + (21)), .null, vi 0, vi 0, vi 0, .null, .null, vi 0]) := by rw [e43]; exact uE_self _ _ _
  refine lv_aload_n b.1 b.2.1 dX13_init_184 rfl (lv_at hl 0 rfl) ?_
  refine lv_iconst (v := Int32.ofInt 2) b.1 b.2.1 dX13_init_185 rfl ?_
  refine ch_newa (atype := .int) (ty := .int) (cA := zC Z 0) (t0 := 0) (N' := 2) b hH (li_1 57 (by decide +kernel) (by decide +kernel)) rfl rfl (fun _ h => h) rfl (by decide) (Nat.le_of_ble_eq_true rfl) (show _ ≤ (mc : Nat) by omega) (show _ ≤ (ms : Nat) by omega) dX13_init_186 (fun H hH => ?_)
  obtain ⟨E44, e44, hH⟩ : ∃ z, z = uE E43 (22) (arI (zC Z 0) 2 (fun _ => 0)) ∧ CHp (zD Z) B H0 (23) z H := ⟨_, rfl, hH⟩
  have h_j : E44 (0) = .inr (11, [.ref (B + (1)), .ref (B + (2)), .ref (B + (3)), .ref (B + (4)), .ref (B + (5)), .ref (B + (6)), vi 0, vi 0, .ref (B + (7)), .ref (B + (8)), vi 0, .ref (B + (9)), .ref (B + (10)), .ref (B + (11)), .ref (B + (12)), .ref (B + (13)), .ref (B + (14)), .ref (B + (15)), vi 0, .ref (B + (16)), vi 0, vi 0, vi 0, vi 0, vi 0, vi 0, vi 0, vi (-1), vi 0, vi 0, vi 0, vi 0, .ref (B + (17)), .ref (B + (18)), .ref (B + (19)), .ref (B + (20)), .ref (B + (21)), .null, vi 0, vi 0, vi 0, .null, .null, vi 0]) := by rw [e44]; exact (uE_ne (by omega)).trans h_j
  refine ch_putG (k := 37) (j := 0) (ty0 := tyX13) (fin := true) b hH (by omega) h_j rfl in_26 tyX13_ok nmX13 (by decide) rfl (Nat.le_of_ble_eq_true rfl) rfl rfl hnm rfl hlo hzB (li_7 91 (by decide +kernel) (by decide +kernel)) dX13_init_188 (fun H locs hH hlo => ?_)
  obtain ⟨E45, e45, hH⟩ : ∃ z, z = uE E44 (0) (.inr (11, [.ref (B + (1)), .ref (B + (2)), .ref (B + (3)), .ref (B + (4)), .ref (B + (5)), .ref (B + (6)), vi 0, vi 0, .ref (B + (7)), .ref (B + (8)), vi 0, .ref (B + (9)), .ref (B + (10)), .ref (B + (11)), .ref (B + (12)), .ref (B + (13)), .ref (B + (14)), .ref (B + (15)), vi 0, .ref (B + (16)), vi 0, vi 0, vi 0, vi 0, vi 0, vi 0, vi 0, vi (-1), vi 0, vi 0, vi 0, vi 0, .ref (B + (17)), .ref (B + (18)), .ref (B + (19)), .ref (B + (20)), .ref (B + (21)), .ref (B + (22)), vi 0, vi 0, vi 0, .null, .null, vi 0])) ∧ CHp (zD Z) B H0 (23) z H := ⟨_, rfl, hH⟩
  have h_j : E45 (0) = .inr (11, [.ref (B + (1)), .ref (B + (2)), .ref (B + (3)), .ref (B + (4)), .ref (B + (5)), .ref (B + (6)), vi 0, vi 0, .ref (B + (7)), .ref (B + (8)), vi 0, .ref (B + (9)), .ref (B + (10)), .ref (B + (11)), .ref (B + (12)), .ref (B + (13)), .ref (B + (14)), .ref (B + (15)), vi 0, .ref (B + (16)), vi 0, vi 0, vi 0, vi 0, vi 0, vi 0, vi 0, vi (-1), vi 0, vi 0, vi 0, vi 0, .ref (B + (17)), .ref (B + (18)), .ref (B + (19)), .ref (B + (20)), .ref (B + (21)), .ref (B + (22)), vi 0, vi 0, vi 0, .null, .null, vi 0]) := by rw [e45]; exact uE_self _ _ _
  refine lv_aload_n b.1 b.2.1 dX13_init_191 rfl (lv_at hl 0 rfl) ?_
  refine lv_bipush (v := Int32.ofInt 66) b.1 b.2.1 dX13_init_192 (by decide) ?_
  refine ch_newa (atype := .int) (ty := .int) (cA := zC Z 0) (t0 := 0) (N' := 66) b hH (li_1 57 (by decide +kernel) (by decide +kernel)) rfl rfl (fun _ h => h) rfl (by decide) (Nat.le_of_ble_eq_true rfl) (show _ ≤ (mc : Nat) by omega) (show _ ≤ (ms : Nat) by omega) dX13_init_194 (fun H hH => ?_)
  obtain ⟨E46, e46, hH⟩ : ∃ z, z = uE E45 (23) (arI (zC Z 0) 66 (fun _ => 0)) ∧ CHp (zD Z) B H0 (24) z H := ⟨_, rfl, hH⟩
  have h_j : E46 (0) = .inr (11, [.ref (B + (1)), .ref (B + (2)), .ref (B + (3)), .ref (B + (4)), .ref (B + (5)), .ref (B + (6)), vi 0, vi 0, .ref (B + (7)), .ref (B + (8)), vi 0, .ref (B + (9)), .ref (B + (10)), .ref (B + (11)), .ref (B + (12)), .ref (B + (13)), .ref (B + (14)), .ref (B + (15)), vi 0, .ref (B + (16)), vi 0, vi 0, vi 0, vi 0, vi 0, vi 0, vi 0, vi (-1), vi 0, vi 0, vi 0, vi 0, .ref (B + (17)), .ref (B + (18)), .ref (B + (19)), .ref (B + (20)), .ref (B + (21)), .ref (B + (22)), vi 0, vi 0, vi 0, .null, .null, vi 0]) := by rw [e46]; exact (uE_ne (by omega)).trans h_j
  refine ch_putG (k := 41) (j := 0) (ty0 := tyX13) (fin := true) b hH (by omega) h_j rfl in_26 tyX13_ok nmX13 (by decide) rfl (Nat.le_of_ble_eq_true rfl) rfl rfl hnm rfl hlo hzB (li_7 95 (by decide +kernel) (by decide +kernel)) dX13_init_196 (fun H locs hH hlo => ?_)
  obtain ⟨E47, e47, hH⟩ : ∃ z, z = uE E46 (0) (.inr (11, [.ref (B + (1)), .ref (B + (2)), .ref (B + (3)), .ref (B + (4)), .ref (B + (5)), .ref (B + (6)), vi 0, vi 0, .ref (B + (7)), .ref (B + (8)), vi 0, .ref (B + (9)), .ref (B + (10)), .ref (B + (11)), .ref (B + (12)), .ref (B + (13)), .ref (B + (14)), .ref (B + (15)), vi 0, .ref (B + (16)), vi 0, vi 0, vi 0, vi 0, vi 0, vi 0, vi 0, vi (-1), vi 0, vi 0, vi 0, vi 0, .ref (B + (17)), .ref (B + (18)), .ref (B + (19)), .ref (B + (20)), .ref (B + (21)), .ref (B + (22)), vi 0, vi 0, vi 0, .ref (B + (23)), .null, vi 0])) ∧ CHp (zD Z) B H0 (24) z H := ⟨_, rfl, hH⟩
  have h_j : E47 (0) = .inr (11, [.ref (B + (1)), .ref (B + (2)), .ref (B + (3)), .ref (B + (4)), .ref (B + (5)), .ref (B + (6)), vi 0, vi 0, .ref (B + (7)), .ref (B + (8)), vi 0, .ref (B + (9)), .ref (B + (10)), .ref (B + (11)), .ref (B + (12)), .ref (B + (13)), .ref (B + (14)), .ref (B + (15)), vi 0, .ref (B + (16)), vi 0, vi 0, vi 0, vi 0, vi 0, vi 0, vi 0, vi (-1), vi 0, vi 0, vi 0, vi 0, .ref (B + (17)), .ref (B + (18)), .ref (B + (19)), .ref (B + (20)), .ref (B + (21)), .ref (B + (22)), vi 0, vi 0, vi 0, .ref (B + (23)), .null, vi 0]) := by rw [e47]; exact uE_self _ _ _
  refine lv_aload_n b.1 b.2.1 dX13_init_199 rfl (lv_at hl 0 rfl) ?_
  refine lv_ldc (v := Int32.ofInt 70000) b.1 b.2.1 b.2.2.1 (b.2.2.2.1 _ (li_7 14 (by decide +kernel) (by decide +kernel))) dX13_init_200 ?_
  refine ch_newa (atype := .int) (ty := .int) (cA := zC Z 0) (t0 := 0) (N' := 70000) b hH (li_1 57 (by decide +kernel) (by decide +kernel)) rfl rfl (fun _ h => h) rfl (by decide) (Nat.le_of_ble_eq_true rfl) (show _ ≤ (mc : Nat) by omega) (show _ ≤ (ms : Nat) by omega) dX13_init_202 (fun H hH => ?_)
  obtain ⟨E48, e48, hH⟩ : ∃ z, z = uE E47 (24) (arI (zC Z 0) 70000 (fun _ => 0)) ∧ CHp (zD Z) B H0 (25) z H := ⟨_, rfl, hH⟩
  have h_j : E48 (0) = .inr (11, [.ref (B + (1)), .ref (B + (2)), .ref (B + (3)), .ref (B + (4)), .ref (B + (5)), .ref (B + (6)), vi 0, vi 0, .ref (B + (7)), .ref (B + (8)), vi 0, .ref (B + (9)), .ref (B + (10)), .ref (B + (11)), .ref (B + (12)), .ref (B + (13)), .ref (B + (14)), .ref (B + (15)), vi 0, .ref (B + (16)), vi 0, vi 0, vi 0, vi 0, vi 0, vi 0, vi 0, vi (-1), vi 0, vi 0, vi 0, vi 0, .ref (B + (17)), .ref (B + (18)), .ref (B + (19)), .ref (B + (20)), .ref (B + (21)), .ref (B + (22)), vi 0, vi 0, vi 0, .ref (B + (23)), .null, vi 0]) := by rw [e48]; exact (uE_ne (by omega)).trans h_j
  refine ch_putG (k := 42) (j := 0) (ty0 := tyX13) (fin := true) b hH (by omega) h_j rfl in_26 tyX13_ok nmX13 (by decide) rfl (Nat.le_of_ble_eq_true rfl) rfl rfl hnm rfl hlo hzB (li_7 96 (by decide +kernel) (by decide +kernel)) dX13_init_204 (fun H locs hH hlo => ?_)
  obtain ⟨E49, e49, hH⟩ : ∃ z, z = uE E48 (0) (.inr (11, [.ref (B + (1)), .ref (B + (2)), .ref (B + (3)), .ref (B + (4)), .ref (B + (5)), .ref (B + (6)), vi 0, vi 0, .ref (B + (7)), .ref (B + (8)), vi 0, .ref (B + (9)), .ref (B + (10)), .ref (B + (11)), .ref (B + (12)), .ref (B + (13)), .ref (B + (14)), .ref (B + (15)), vi 0, .ref (B + (16)), vi 0, vi 0, vi 0, vi 0, vi 0, vi 0, vi 0, vi (-1), vi 0, vi 0, vi 0, vi 0, .ref (B + (17)), .ref (B + (18)), .ref (B + (19)), .ref (B + (20)), .ref (B + (21)), .ref (B + (22)), vi 0, vi 0, vi 0, .ref (B + (23)), .ref (B + (24)), vi 0])) ∧ CHp (zD Z) B H0 (25) z H := ⟨_, rfl, hH⟩
  have h_j : E49 (0) = .inr (11, [.ref (B + (1)), .ref (B + (2)), .ref (B + (3)), .ref (B + (4)), .ref (B + (5)), .ref (B + (6)), vi 0, vi 0, .ref (B + (7)), .ref (B + (8)), vi 0, .ref (B + (9)), .ref (B + (10)), .ref (B + (11)), .ref (B + (12)), .ref (B + (13)), .ref (B + (14)), .ref (B + (15)), vi 0, .ref (B + (16)), vi 0, vi 0, vi 0, vi 0, vi 0, vi 0, vi 0, vi (-1), vi 0, vi 0, vi 0, vi 0, .ref (B + (17)), .ref (B + (18)), .ref (B + (19)), .ref (B + (20)), .ref (B + (21)), .ref (B + (22)), vi 0, vi 0, vi 0, .ref (B + (23)), .ref (B + (24)), vi 0]) := by rw [e49]; exact uE_self _ _ _
  refine W.widen (k := 24) (n := 304194) (by omega) (by omega) ?_
  refine kk H locs ?_ hlo
  subst e1 e2 e3 e4 e5 e6 e7 e8 e9 e10 e11 e12 e13 e14 e15 e16 e17 e18 e19 e20 e21 e22 e23 e24 e25 e26 e27 e28 e29 e30 e31 e32 e33 e34 e35 e36 e37 e38 e39 e40 e41 e42 e43 e44 e45 e46 e47 e48 e49
  exact hH
