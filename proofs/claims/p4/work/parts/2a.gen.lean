theorem ln_RX12_72 : Cond.fieldLink RX12 72 RX12 "errorAt" "I" ∈ lw_good := li_2 109 (by decide +kernel) (by decide +kernel)
noncomputable def f_PR_errorPosition  (I : Mem) : Option ((Int) × Mem) :=
some ((I 0 0 9), I)
set_option maxRecDepth 20000 in
theorem R_PR_errorPosition (Z : ZT)  (I : Mem) (r : Int) (J : Mem) (hf : f_PR_errorPosition I = some (r, J)) : Runs Z yX12_errorPosition cX12_errorPosition 1 (some .int) 1 [vr Z 0 0] I (some (vi r), J) := by
  refine Runs.of (rv := fun x => some (vi x)) (by decide +kernel) (Nat.le_of_ble_eq_true rfl) hf (fun gr => ?_)
  unfold f_PR_errorPosition
  refine WQ.loc [0] (lv' := [(0, vr Z 0 0)]) rfl ?_
  refine wq_aload_n dX12_errorPosition_0 0 rfl rfl ?_
  refine g_0_9 ln_RX12_72 dX12_errorPosition_1 ?_
  exact wq_iret rfl rfl dX12_errorPosition_4

noncomputable def f_PR_isLetter (a0 : Int) (I : Mem) : Option ((Int) × Mem) :=
if (w32 a0) < 0 then
some (0, I)
else
if (w32 a0) < 26 then
some (1, I)
else
some (0, I)
set_option maxRecDepth 20000 in
theorem R_PR_isLetter (Z : ZT) (a0 : Int) (I : Mem) (r : Int) (J : Mem) (hf : f_PR_isLetter a0 I = some (r, J)) : Runs Z yX12_isLetter cX12_isLetter 1 (some .boolean) 1 [vi a0] I (some (vi r), J) := by
  refine Runs.of (rv := fun x => some (vi x)) (by decide +kernel) (Nat.le_of_ble_eq_true rfl) hf (fun gr => ?_)
  unfold f_PR_isLetter
  refine WQ.loc [0] (lv' := [(0, vi a0)]) rfl ?_
  refine wq_iload_n dX12_isLetter_0 0 rfl rfl ?_
  refine wq_if_lt 14 dX12_isLetter_1 (by decide) rfl (fun c2 => ?_) (fun c2 => ?_)
  · refine wq_iconst dX12_isLetter_14 ?_
    exact wq_zret rfl (by decide) rfl dX12_isLetter_15
  · refine wq_iload_n dX12_isLetter_4 0 rfl rfl ?_
    refine wq_bipush dX12_isLetter_5 (by decide) ?_
    refine wq_icmp_ge 14 dX12_isLetter_7 (by decide) rfl rfl (fun c1 => ?_) (fun c1 => ?_)
    · refine wq_iconst dX12_isLetter_10 ?_
      refine wq_goto 15 dX12_isLetter_11 (by decide) ?_
      exact wq_zret rfl (by decide) rfl dX12_isLetter_15
    · refine wq_iconst dX12_isLetter_14 ?_
      exact wq_zret rfl (by decide) rfl dX12_isLetter_15

noncomputable def f_PR_isSymbol (a0 : Int) (I : Mem) : Option ((Int) × Mem) :=
if (w32 a0) < 0 then
some (0, I)
else
if (w32 a0) < 66 then
some (1, I)
else
some (0, I)
set_option maxRecDepth 20000 in
theorem R_PR_isSymbol (Z : ZT) (a0 : Int) (I : Mem) (r : Int) (J : Mem) (hf : f_PR_isSymbol a0 I = some (r, J)) : Runs Z yX12_isSymbol cX12_isSymbol 1 (some .boolean) 1 [vi a0] I (some (vi r), J) := by
  refine Runs.of (rv := fun x => some (vi x)) (by decide +kernel) (Nat.le_of_ble_eq_true rfl) hf (fun gr => ?_)
  unfold f_PR_isSymbol
  refine WQ.loc [0] (lv' := [(0, vi a0)]) rfl ?_
  refine wq_iload_n dX12_isSymbol_0 0 rfl rfl ?_
  refine wq_if_lt 14 dX12_isSymbol_1 (by decide) rfl (fun c2 => ?_) (fun c2 => ?_)
  · refine wq_iconst dX12_isSymbol_14 ?_
    exact wq_zret rfl (by decide) rfl dX12_isSymbol_15
  · refine wq_iload_n dX12_isSymbol_4 0 rfl rfl ?_
    refine wq_bipush dX12_isSymbol_5 (by decide) ?_
    refine wq_icmp_ge 14 dX12_isSymbol_7 (by decide) rfl rfl (fun c1 => ?_) (fun c1 => ?_)
    · refine wq_iconst dX12_isSymbol_10 ?_
      refine wq_goto 15 dX12_isSymbol_11 (by decide) ?_
      exact wq_zret rfl (by decide) rfl dX12_isSymbol_15
    · refine wq_iconst dX12_isSymbol_14 ?_
      exact wq_zret rfl (by decide) rfl dX12_isSymbol_15

noncomputable def f_PR_lowest (a0 : Int) (I : Mem) : Option ((Int) × Mem) :=
if (w32 a0) = 4 then
some (2, I)
else
some (0, I)
set_option maxRecDepth 20000 in
theorem R_PR_lowest (Z : ZT) (a0 : Int) (I : Mem) (r : Int) (J : Mem) (hf : f_PR_lowest a0 I = some (r, J)) : Runs Z yX12_lowest cX12_lowest 1 (some .int) 1 [vi a0] I (some (vi r), J) := by
  refine Runs.of (rv := fun x => some (vi x)) (by decide +kernel) (Nat.le_of_ble_eq_true rfl) hf (fun gr => ?_)
  unfold f_PR_lowest
  refine WQ.loc [0] (lv' := [(0, vi a0)]) rfl ?_
  refine wq_iload_n dX12_lowest_0 0 rfl rfl ?_
  refine wq_iconst dX12_lowest_1 ?_
  refine wq_icmp_ne 9 dX12_lowest_2 (by decide) rfl rfl (fun c1 => ?_) (fun c1 => ?_)
  · refine wq_iconst dX12_lowest_5 ?_
    refine wq_goto 10 dX12_lowest_6 (by decide) ?_
    exact wq_iret rfl rfl dX12_lowest_10
  · refine wq_iconst dX12_lowest_9 ?_
    exact wq_iret rfl rfl dX12_lowest_10

noncomputable def f_PR_highest (a0 : Int) (I : Mem) : Option ((Int) × Mem) :=
if (w32 a0) = 4 then
some (9, I)
else if (w32 a0) = 5 then
some (2, I)
else some (1, I)
set_option maxRecDepth 20000 in
theorem R_PR_highest (Z : ZT) (a0 : Int) (I : Mem) (r : Int) (J : Mem) (hf : f_PR_highest a0 I = some (r, J)) : Runs Z yX12_highest cX12_highest 1 (some .int) 1 [vi a0] I (some (vi r), J) := by
  refine Runs.of (rv := fun x => some (vi x)) (by decide +kernel) (Nat.le_of_ble_eq_true rfl) hf (fun gr => ?_)
  unfold f_PR_highest
  refine WQ.loc [0] (lv' := [(0, vi a0)]) rfl ?_
  refine wq_iload_n dX12_highest_0 0 rfl rfl ?_
  refine WQ.split (fun c1 => ?_) (fun c1 => ?_)
  · refine wq_look (off := 27) 28 dX12_highest_1 rfl (by decide) (by generalize (w32 a0) = z at c1 ⊢; simp [Op.lookupswitch.offset, c1]) (by decide) ?_
    refine wq_bipush dX12_highest_28 (by decide) ?_
    exact wq_iret rfl rfl dX12_highest_30
  · skip
    refine WQ.split (fun c2 => ?_) (fun c2 => ?_)
    · refine wq_look (off := 30) 31 dX12_highest_1 rfl (by decide) (by generalize (w32 a0) = z at c2 ⊢; simp [Op.lookupswitch.offset, c2]) (by decide) ?_
      refine wq_iconst dX12_highest_31 ?_
      exact wq_iret rfl rfl dX12_highest_32
    · skip
      refine wq_look (off := 32) 33 dX12_highest_1 rfl (by decide) (by generalize (w32 a0) = z at c1 c2 ⊢; simp [Op.lookupswitch.offset, Ne.symm c1, Ne.symm c2]) (by decide) ?_
      refine wq_iconst dX12_highest_33 ?_
      exact wq_iret rfl rfl dX12_highest_34

theorem ln_RX1_12 : Cond.fieldLink RX1 12 RX1 "start" "LPairRules$Row;" ∈ lw_good := li_1 59 (by decide +kernel) (by decide +kernel)
noncomputable def f_G_startRow (t : Nat) (I : Mem) : Option ((Nat) × Mem) :=
if t < 12 then
some ((43 * t), I)
else none
set_option maxRecDepth 20000 in
theorem R_G_startRow (Z : ZT) (t : Nat) (I : Mem) (r : Nat) (J : Mem) (hf : f_G_startRow t I = some (r, J)) : Runs Z yX1_startRow cX1_startRow 1 (some (.object RX5)) 1 [vr Z 1 t] I (some (vr Z 2 r), J) := by
  refine Runs.of (rv := fun x => some (vr Z 2 x)) (by decide +kernel) (Nat.le_of_ble_eq_true rfl) hf (fun gr => ?_)
  unfold f_G_startRow
  refine WQ.loc [0] (lv' := [(0, vr Z 1 t)]) rfl ?_
  refine wq_grd (fun ht => ?_)
  refine wq_aload_n dX1_startRow_0 0 rfl rfl ?_
  refine g_1_0 ht ln_RX1_12 dX1_startRow_1 ?_
  exact wq_aret rfl (Or.inl ⟨_, rfl⟩) rfl dX1_startRow_4

theorem ln_RX1_18 : Cond.fieldLink RX1 18 RX1 "told" "LPairRules$Row;" ∈ lw_good := li_1 60 (by decide +kernel) (by decide +kernel)
noncomputable def f_G_toldText (t : Nat) (I : Mem) : Option ((Nat) × Mem) :=
if t < 12 then
some ((43 * t + 1), I)
else none
set_option maxRecDepth 20000 in
theorem R_G_toldText (Z : ZT) (t : Nat) (I : Mem) (r : Nat) (J : Mem) (hf : f_G_toldText t I = some (r, J)) : Runs Z yX1_toldText cX1_toldText 1 (some (.object RX5)) 1 [vr Z 1 t] I (some (vr Z 2 r), J) := by
  refine Runs.of (rv := fun x => some (vr Z 2 x)) (by decide +kernel) (Nat.le_of_ble_eq_true rfl) hf (fun gr => ?_)
  unfold f_G_toldText
  refine WQ.loc [0] (lv' := [(0, vr Z 1 t)]) rfl ?_
  refine wq_grd (fun ht => ?_)
  refine wq_aload_n dX1_toldText_0 0 rfl rfl ?_
  refine g_1_1 ht ln_RX1_18 dX1_toldText_1 ?_
  exact wq_aret rfl (Or.inl ⟨_, rfl⟩) rfl dX1_toldText_4

theorem ln_RX1_25 : Cond.fieldLink RX1 25 RX1 "nothing" "LPairRules$Row;" ∈ lw_good := li_1 62 (by decide +kernel) (by decide +kernel)
theorem ln_RX1_21 : Cond.fieldLink RX1 21 RX1 "bodies" "[LPairRules$Row;" ∈ lw_good := li_1 61 (by decide +kernel) (by decide +kernel)
noncomputable def f_G_body (t : Nat) (a1 : Int) (I : Mem) : Option ((Nat) × Mem) :=
if t < 12 then
if (w32 a1) < 0 then
some ((43 * t + 2), I)
else
if (w32 a1) < 40 then
if 0 ≤ (w32 a1) ∧ (w32 a1) < 40 then
some ((43 * t + 3 + (w32 a1).toNat), I)
else none
else
some ((43 * t + 2), I)
else none
set_option maxRecDepth 20000 in
theorem R_G_body (Z : ZT) (t : Nat) (a1 : Int) (I : Mem) (r : Nat) (J : Mem) (hf : f_G_body t a1 I = some (r, J)) : Runs Z yX1_body cX1_body 2 (some (.object RX5)) 1 [vr Z 1 t, vi a1] I (some (vr Z 2 r), J) := by
  refine Runs.of (rv := fun x => some (vr Z 2 x)) (by decide +kernel) (Nat.le_of_ble_eq_true rfl) hf (fun gr => ?_)
  unfold f_G_body
  refine WQ.loc [0, 1] (lv' := [(0, vr Z 1 t), (1, vi a1)]) rfl ?_
  refine wq_grd (fun ht => ?_)
  refine wq_iload_n dX1_body_0 1 rfl rfl ?_
  refine wq_if_lt 19 dX1_body_1 (by decide) rfl (fun c4 => ?_) (fun c4 => ?_)
  · refine wq_aload_n dX1_body_19 0 rfl rfl ?_
    refine g_1_3 ht ln_RX1_25 dX1_body_20 ?_
    exact wq_aret rfl (Or.inl ⟨_, rfl⟩) rfl dX1_body_23
  · refine wq_iload_n dX1_body_4 1 rfl rfl ?_
    refine wq_bipush dX1_body_5 (by decide) ?_
    refine wq_icmp_ge 19 dX1_body_7 (by decide) rfl rfl (fun c3 => ?_) (fun c3 => ?_)
    · refine wq_aload_n dX1_body_10 0 rfl rfl ?_
      refine g_1_2 ht ln_RX1_21 dX1_body_11 ?_
      refine wq_iload_n dX1_body_14 1 rfl rfl ?_
      refine wq_grd (fun g1 => ?_)
      refine wq_aald (k := 13) (i := t) (t0 := 4) rfl rfl ht rfl rfl (m := 40) g1 (Nat.le_refl _) dX1_body_15 ?_
      have hb2 : (43 * t + 3 + (w32 a1).toNat) < 516 := by omega
      refine wq_goto 23 dX1_body_16 (by decide) ?_
      exact wq_aret rfl (Or.inl ⟨_, rfl⟩) rfl dX1_body_23
    · refine wq_aload_n dX1_body_19 0 rfl rfl ?_
      refine g_1_3 ht ln_RX1_25 dX1_body_20 ?_
      exact wq_aret rfl (Or.inl ⟨_, rfl⟩) rfl dX1_body_23

theorem ln_RX1_28 : Cond.fieldLink RX1 28 RX1 "lengths" "[I" ∈ lw_good := li_1 63 (by decide +kernel) (by decide +kernel)
noncomputable def f_G_lengthOf (t : Nat) (a1 : Int) (I : Mem) : Option ((Int) × Mem) :=
if t < 12 then
if (w32 a1) < 0 then
some (0, I)
else
if (w32 a1) < 66 then
if (w32 a1) < 26 then
some (1, I)
else
if 0 ≤ (w32 (a1 - 26)) ∧ (w32 (a1 - 26)) < 40 then
some ((I 14 t (w32 (a1 - 26)).toNat), I)
else none
else
some (0, I)
else none
set_option maxRecDepth 20000 in
theorem R_G_lengthOf (Z : ZT) (t : Nat) (a1 : Int) (I : Mem) (r : Int) (J : Mem) (hf : f_G_lengthOf t a1 I = some (r, J)) : Runs Z yX1_lengthOf cX1_lengthOf 2 (some .int) 1 [vr Z 1 t, vi a1] I (some (vi r), J) := by
  refine Runs.of (rv := fun x => some (vi x)) (by decide +kernel) (Nat.le_of_ble_eq_true rfl) hf (fun gr => ?_)
  unfold f_G_lengthOf
  refine WQ.loc [0, 1] (lv' := [(0, vr Z 1 t), (1, vi a1)]) rfl ?_
  refine wq_grd (fun ht => ?_)
  refine wq_iload_n dX1_lengthOf_0 1 rfl rfl ?_
  refine wq_if_lt 10 dX1_lengthOf_1 (by decide) rfl (fun c4 => ?_) (fun c4 => ?_)
  · refine wq_iconst dX1_lengthOf_10 ?_
    exact wq_iret rfl rfl dX1_lengthOf_11
  · refine wq_iload_n dX1_lengthOf_4 1 rfl rfl ?_
    refine wq_bipush dX1_lengthOf_5 (by decide) ?_
    refine wq_icmp_lt 12 dX1_lengthOf_7 (by decide) rfl rfl (fun c3 => ?_) (fun c3 => ?_)
    · refine wq_iload_n dX1_lengthOf_12 1 rfl rfl ?_
      refine wq_bipush dX1_lengthOf_13 (by decide) ?_
      refine wq_icmp_ge 22 dX1_lengthOf_15 (by decide) rfl rfl (fun c2 => ?_) (fun c2 => ?_)
      · refine wq_iconst dX1_lengthOf_18 ?_
        refine wq_goto 31 dX1_lengthOf_19 (by decide) ?_
        exact wq_iret rfl rfl dX1_lengthOf_31
      · refine wq_aload_n dX1_lengthOf_22 0 rfl rfl ?_
        refine g_1_4 ht ln_RX1_28 dX1_lengthOf_23 ?_
        refine wq_iload_n dX1_lengthOf_26 1 rfl rfl ?_
        refine wq_bipush dX1_lengthOf_27 (by decide) ?_
        refine wq_isub dX1_lengthOf_29 ?_
        refine wq_grd (fun g1 => ?_)
        refine wq_iald (k := 14) (i := t) rfl ht rfl rfl (m := 40) g1 (Nat.le_refl _) dX1_lengthOf_30 ?_
        exact wq_iret rfl rfl dX1_lengthOf_31
    · refine wq_iconst dX1_lengthOf_10 ?_
      exact wq_iret rfl rfl dX1_lengthOf_11

noncomputable def f_G_putLength (t : Nat) (a1 : Int) (a2 : Int) (I : Mem) : Option ((Unit) × Mem) :=
if t < 12 then
if (w32 a1) < 0 then
some ((), I)
else
if (w32 a1) < 40 then
if 0 ≤ (w32 a1) ∧ (w32 a1) < 40 then
ltI (sI I 14 t (w32 a1).toNat a2) fun J2 =>
some ((), J2)
else none
else
some ((), I)
else none
set_option maxRecDepth 20000 in
theorem R_G_putLength (Z : ZT) (t : Nat) (a1 : Int) (a2 : Int) (I : Mem) (r : Unit) (J : Mem) (hf : f_G_putLength t a1 a2 I = some (r, J)) : Runs Z yX1_putLength cX1_putLength 3 (none) 1 [vr Z 1 t, vi a1, vi a2] I (none, J) := by
  refine Runs.of (rv := fun _ => none) (by decide +kernel) (Nat.le_of_ble_eq_true rfl) hf (fun gr => ?_)
  unfold f_G_putLength
  refine WQ.loc [0, 1, 2] (lv' := [(0, vr Z 1 t), (1, vi a1), (2, vi a2)]) rfl ?_
  refine wq_grd (fun ht => ?_)
  refine wq_iload_n dX1_putLength_0 1 rfl rfl ?_
  refine wq_if_lt 17 dX1_putLength_1 (by decide) rfl (fun c4 => ?_) (fun c4 => ?_)
  · exact wq_vret rfl rfl dX1_putLength_17
  · refine wq_iload_n dX1_putLength_4 1 rfl rfl ?_
    refine wq_bipush dX1_putLength_5 (by decide) ?_
    refine wq_icmp_ge 17 dX1_putLength_7 (by decide) rfl rfl (fun c3 => ?_) (fun c3 => ?_)
    · refine wq_aload_n dX1_putLength_10 0 rfl rfl ?_
      refine g_1_4 ht ln_RX1_28 dX1_putLength_11 ?_
      refine wq_iload_n dX1_putLength_14 1 rfl rfl ?_
      refine wq_iload_n dX1_putLength_15 2 rfl rfl ?_
      refine wq_grd (fun g1 => ?_)
      refine wq_iast (k := 14) (i := t) (fun _ _ => rfl) ht rfl rfl (m := 40) g1 (Nat.le_refl _) (by decide) (by decide) (by decide) dX1_putLength_16 (fun J2 => ?_)
      exact wq_vret rfl rfl dX1_putLength_17
    · exact wq_vret rfl rfl dX1_putLength_17

theorem ln_RX1_35 : Cond.fieldLink RX1 35 RX1 "least" "I" ∈ lw_good := li_1 65 (by decide +kernel) (by decide +kernel)
theorem ln_RX1_45 : Cond.fieldLink RX1 45 RX1 "tie" "I" ∈ lw_good := li_1 66 (by decide +kernel) (by decide +kernel)
theorem ln_RX1_39 : Cond.fieldLink RX1 39 RX1 "inlines" "I" ∈ lw_good := li_1 67 (by decide +kernel) (by decide +kernel)
noncomputable def f_G_number (t : Nat) (a1 : Int) (I : Mem) : Option ((Int) × Mem) :=
if t < 12 then
if (w32 a1) = 4 then
some ((I 1 t 6), I)
else if (w32 a1) = 5 then
some ((I 1 t 7), I)
else some ((I 1 t 8), I)
else none
set_option maxRecDepth 20000 in
theorem R_G_number (Z : ZT) (t : Nat) (a1 : Int) (I : Mem) (r : Int) (J : Mem) (hf : f_G_number t a1 I = some (r, J)) : Runs Z yX1_number cX1_number 2 (some .int) 1 [vr Z 1 t, vi a1] I (some (vi r), J) := by
  refine Runs.of (rv := fun x => some (vi x)) (by decide +kernel) (Nat.le_of_ble_eq_true rfl) hf (fun gr => ?_)
  unfold f_G_number
  refine WQ.loc [0, 1] (lv' := [(0, vr Z 1 t), (1, vi a1)]) rfl ?_
  refine wq_grd (fun ht => ?_)
  refine wq_iload_n dX1_number_0 1 rfl rfl ?_
  refine WQ.split (fun c1 => ?_) (fun c1 => ?_)
  · refine wq_look (off := 27) 28 dX1_number_1 rfl (by decide) (by generalize (w32 a1) = z at c1 ⊢; simp [Op.lookupswitch.offset, c1]) (by decide) ?_
    refine wq_aload_n dX1_number_28 0 rfl rfl ?_
    refine g_1_6 ht ln_RX1_35 dX1_number_29 ?_
    exact wq_iret rfl rfl dX1_number_32
  · skip
    refine WQ.split (fun c2 => ?_) (fun c2 => ?_)
    · refine wq_look (off := 32) 33 dX1_number_1 rfl (by decide) (by generalize (w32 a1) = z at c2 ⊢; simp [Op.lookupswitch.offset, c2]) (by decide) ?_
      refine wq_aload_n dX1_number_33 0 rfl rfl ?_
      refine g_1_7 ht ln_RX1_45 dX1_number_34 ?_
      exact wq_iret rfl rfl dX1_number_37
    · skip
      refine wq_look (off := 37) 38 dX1_number_1 rfl (by decide) (by generalize (w32 a1) = z at c1 c2 ⊢; simp [Op.lookupswitch.offset, Ne.symm c1, Ne.symm c2]) (by decide) ?_
      refine wq_aload_n dX1_number_38 0 rfl rfl ?_
      refine g_1_8 ht ln_RX1_39 dX1_number_39 ?_
      exact wq_iret rfl rfl dX1_number_42

noncomputable def f_G_putNumber (t : Nat) (a1 : Int) (a2 : Int) (I : Mem) : Option ((Unit) × Mem) :=
if t < 12 then
if (w32 a1) = 4 then
ltI (sI I 1 t 6 a2) fun J1 =>
some ((), J1)
else if (w32 a1) = 5 then
ltI (sI I 1 t 7 a2) fun J3 =>
some ((), J3)
else ltI (sI I 1 t 8 a2) fun J5 =>
some ((), J5)
else none
set_option maxRecDepth 20000 in
theorem R_G_putNumber (Z : ZT) (t : Nat) (a1 : Int) (a2 : Int) (I : Mem) (r : Unit) (J : Mem) (hf : f_G_putNumber t a1 a2 I = some (r, J)) : Runs Z yX1_putNumber cX1_putNumber 3 (none) 1 [vr Z 1 t, vi a1, vi a2] I (none, J) := by
  refine Runs.of (rv := fun _ => none) (by decide +kernel) (Nat.le_of_ble_eq_true rfl) hf (fun gr => ?_)
  unfold f_G_putNumber
  refine WQ.loc [0, 1, 2] (lv' := [(0, vr Z 1 t), (1, vi a1), (2, vi a2)]) rfl ?_
  refine wq_grd (fun ht => ?_)
  refine wq_iload_n dX1_putNumber_0 1 rfl rfl ?_
  refine WQ.split (fun c2 => ?_) (fun c2 => ?_)
  · refine wq_look (off := 27) 28 dX1_putNumber_1 rfl (by decide) (by generalize (w32 a1) = z at c2 ⊢; simp [Op.lookupswitch.offset, c2]) (by decide) ?_
    refine wq_aload_n dX1_putNumber_28 0 rfl rfl ?_
    refine wq_iload_n dX1_putNumber_29 2 rfl rfl ?_
    refine p_1_6 ht ln_RX1_35 dX1_putNumber_30 (fun J1 => ?_)
    refine wq_goto 49 dX1_putNumber_33 (by decide) ?_
    exact wq_vret rfl rfl dX1_putNumber_49
  · skip
    refine WQ.split (fun c4 => ?_) (fun c4 => ?_)
    · refine wq_look (off := 35) 36 dX1_putNumber_1 rfl (by decide) (by generalize (w32 a1) = z at c4 ⊢; simp [Op.lookupswitch.offset, c4]) (by decide) ?_
      refine wq_aload_n dX1_putNumber_36 0 rfl rfl ?_
      refine wq_iload_n dX1_putNumber_37 2 rfl rfl ?_
      refine p_1_7 ht ln_RX1_45 dX1_putNumber_38 (fun J3 => ?_)
      refine wq_goto 49 dX1_putNumber_41 (by decide) ?_
      exact wq_vret rfl rfl dX1_putNumber_49
    · skip
      refine wq_look (off := 43) 44 dX1_putNumber_1 rfl (by decide) (by generalize (w32 a1) = z at c2 c4 ⊢; simp [Op.lookupswitch.offset, Ne.symm c2, Ne.symm c4]) (by decide) ?_
      refine wq_aload_n dX1_putNumber_44 0 rfl rfl ?_
      refine wq_iload_n dX1_putNumber_45 2 rfl rfl ?_
      refine p_1_8 ht ln_RX1_39 dX1_putNumber_46 (fun J5 => ?_)
      exact wq_vret rfl rfl dX1_putNumber_49

theorem ln_RX1_32 : Cond.fieldLink RX1 32 RX1 "accounts" "[I" ∈ lw_good := li_1 64 (by decide +kernel) (by decide +kernel)
noncomputable def f_G_accountOf (t : Nat) (a1 : Int) (I : Mem) : Option ((Int) × Mem) :=
if t < 12 then
if (w32 a1) < 0 then
some (0, I)
else
if (w32 a1) < 9 then
if 0 ≤ (w32 a1) ∧ (w32 a1) < 9 then
some ((I 15 t (w32 a1).toNat), I)
else none
else
some (0, I)
else none
set_option maxRecDepth 20000 in
theorem R_G_accountOf (Z : ZT) (t : Nat) (a1 : Int) (I : Mem) (r : Int) (J : Mem) (hf : f_G_accountOf t a1 I = some (r, J)) : Runs Z yX1_accountOf cX1_accountOf 2 (some .int) 1 [vr Z 1 t, vi a1] I (some (vi r), J) := by
  refine Runs.of (rv := fun x => some (vi x)) (by decide +kernel) (Nat.le_of_ble_eq_true rfl) hf (fun gr => ?_)
  unfold f_G_accountOf
  refine WQ.loc [0, 1] (lv' := [(0, vr Z 1 t), (1, vi a1)]) rfl ?_
  refine wq_grd (fun ht => ?_)
  refine wq_iload_n dX1_accountOf_0 1 rfl rfl ?_
  refine wq_if_lt 19 dX1_accountOf_1 (by decide) rfl (fun c3 => ?_) (fun c3 => ?_)
  · refine wq_iconst dX1_accountOf_19 ?_
    exact wq_iret rfl rfl dX1_accountOf_20
  · refine wq_iload_n dX1_accountOf_4 1 rfl rfl ?_
    refine wq_bipush dX1_accountOf_5 (by decide) ?_
    refine wq_icmp_ge 19 dX1_accountOf_7 (by decide) rfl rfl (fun c2 => ?_) (fun c2 => ?_)
    · refine wq_aload_n dX1_accountOf_10 0 rfl rfl ?_
      refine g_1_5 ht ln_RX1_32 dX1_accountOf_11 ?_
      refine wq_iload_n dX1_accountOf_14 1 rfl rfl ?_
      refine wq_grd (fun g1 => ?_)
      refine wq_iald (k := 15) (i := t) rfl ht rfl rfl (m := 9) g1 (Nat.le_refl _) dX1_accountOf_15 ?_
      refine wq_goto 20 dX1_accountOf_16 (by decide) ?_
      exact wq_iret rfl rfl dX1_accountOf_20
    · refine wq_iconst dX1_accountOf_19 ?_
      exact wq_iret rfl rfl dX1_accountOf_20

noncomputable def f_G_addTo (t : Nat) (a1 : Int) (a2 : Int) (I : Mem) : Option ((Unit) × Mem) :=
if t < 12 then
if (w32 a1) < 0 then
some ((), I)
else
if (w32 a1) < 9 then
if 0 ≤ (w32 a1) ∧ (w32 a1) < 9 then
ltI (sI I 15 t (w32 a1).toNat ((I 15 t (w32 a1).toNat) + a2)) fun J2 =>
some ((), J2)
else none
else
some ((), I)
else none
set_option maxRecDepth 20000 in
theorem R_G_addTo (Z : ZT) (t : Nat) (a1 : Int) (a2 : Int) (I : Mem) (r : Unit) (J : Mem) (hf : f_G_addTo t a1 a2 I = some (r, J)) : Runs Z yX1_addTo cX1_addTo 3 (none) 1 [vr Z 1 t, vi a1, vi a2] I (none, J) := by
  refine Runs.of (rv := fun _ => none) (by decide +kernel) (Nat.le_of_ble_eq_true rfl) hf (fun gr => ?_)
  unfold f_G_addTo
  refine WQ.loc [0, 1, 2] (lv' := [(0, vr Z 1 t), (1, vi a1), (2, vi a2)]) rfl ?_
  refine wq_grd (fun ht => ?_)
  refine wq_iload_n dX1_addTo_0 1 rfl rfl ?_
  refine wq_if_lt 20 dX1_addTo_1 (by decide) rfl (fun c4 => ?_) (fun c4 => ?_)
  · exact wq_vret rfl rfl dX1_addTo_20
  · refine wq_iload_n dX1_addTo_4 1 rfl rfl ?_
    refine wq_bipush dX1_addTo_5 (by decide) ?_
    refine wq_icmp_ge 20 dX1_addTo_7 (by decide) rfl rfl (fun c3 => ?_) (fun c3 => ?_)
    · refine wq_aload_n dX1_addTo_10 0 rfl rfl ?_
      refine g_1_5 ht ln_RX1_32 dX1_addTo_11 ?_
      refine wq_iload_n dX1_addTo_14 1 rfl rfl ?_
      refine wq_dup2 dX1_addTo_15 rfl rfl ?_
      refine wq_grd (fun g1 => ?_)
      refine wq_iald (k := 15) (i := t) rfl ht rfl rfl (m := 9) g1 (Nat.le_refl _) dX1_addTo_16 ?_
      refine wq_iload_n dX1_addTo_17 2 rfl rfl ?_
      refine wq_iadd dX1_addTo_18 ?_
      refine wq_iast (k := 15) (i := t) (fun _ _ => rfl) ht rfl rfl (m := 9) g1 (Nat.le_refl _) (by decide) (by decide) (by decide) dX1_addTo_19 (fun J2 => ?_)
      exact wq_vret rfl rfl dX1_addTo_20
    · exact wq_vret rfl rfl dX1_addTo_20

theorem ln_RX1_48 : Cond.fieldLink RX1 48 RX1 "rulesAtFirst" "I" ∈ lw_good := li_1 68 (by decide +kernel) (by decide +kernel)
noncomputable def f_G_rulesAtFirst (t : Nat) (I : Mem) : Option ((Int) × Mem) :=
if t < 12 then
some ((I 1 t 9), I)
else none
set_option maxRecDepth 20000 in
theorem R_G_rulesAtFirst (Z : ZT) (t : Nat) (I : Mem) (r : Int) (J : Mem) (hf : f_G_rulesAtFirst t I = some (r, J)) : Runs Z yX1_rulesAtFirst cX1_rulesAtFirst 1 (some .int) 1 [vr Z 1 t] I (some (vi r), J) := by
  refine Runs.of (rv := fun x => some (vi x)) (by decide +kernel) (Nat.le_of_ble_eq_true rfl) hf (fun gr => ?_)
  unfold f_G_rulesAtFirst
  refine WQ.loc [0] (lv' := [(0, vr Z 1 t)]) rfl ?_
  refine wq_grd (fun ht => ?_)
  refine wq_aload_n dX1_rulesAtFirst_0 0 rfl rfl ?_
  refine g_1_9 ht ln_RX1_48 dX1_rulesAtFirst_1 ?_
  exact wq_iret rfl rfl dX1_rulesAtFirst_4

noncomputable def f_Row_many (t : Nat) (I : Mem) : Option ((Int) × Mem) :=
if t < 516 then
some ((I 2 t 1), I)
else none
set_option maxRecDepth 20000 in
theorem R_Row_many (Z : ZT) (t : Nat) (I : Mem) (r : Int) (J : Mem) (hf : f_Row_many t I = some (r, J)) : Runs Z yX5_many cX5_many 1 (some .int) 1 [vr Z 2 t] I (some (vi r), J) := by
  refine Runs.of (rv := fun x => some (vi x)) (by decide +kernel) (Nat.le_of_ble_eq_true rfl) hf (fun gr => ?_)
  unfold f_Row_many
  refine WQ.loc [0] (lv' := [(0, vr Z 2 t)]) rfl ?_
  refine wq_grd (fun ht => ?_)
  refine wq_aload_n dX5_many_0 0 rfl rfl ?_
  refine g_2_1 ht ln_RX5_15 dX5_many_1 ?_
  exact wq_iret rfl rfl dX5_many_4

noncomputable def f_Row_at (t : Nat) (a1 : Int) (I : Mem) : Option ((Int) × Mem) :=
if t < 516 then
if (w32 a1) < 0 then
some ((-1), I)
else
if (w32 a1) < (w32 (I 2 t 1)) then
if 0 ≤ (w32 a1) ∧ (w32 a1) < (I 2 t 2) then
some ((I 12 t (w32 a1).toNat), I)
else none
else
some ((-1), I)
else none
set_option maxRecDepth 20000 in
theorem R_Row_at (Z : ZT) (t : Nat) (a1 : Int) (I : Mem) (r : Int) (J : Mem) (hf : f_Row_at t a1 I = some (r, J)) : Runs Z yX5_at cX5_at 2 (some .int) 1 [vr Z 2 t, vi a1] I (some (vi r), J) := by
  refine Runs.of (rv := fun x => some (vi x)) (by decide +kernel) (Nat.le_of_ble_eq_true rfl) hf (fun gr => ?_)
  unfold f_Row_at
  refine WQ.loc [0, 1] (lv' := [(0, vr Z 2 t), (1, vi a1)]) rfl ?_
  refine wq_grd (fun ht => ?_)
  refine wq_iload_n dX5_at_0 1 rfl rfl ?_
  refine wq_if_lt 21 dX5_at_1 (by decide) rfl (fun c3 => ?_) (fun c3 => ?_)
  · refine wq_iconst dX5_at_21 ?_
    exact wq_iret rfl rfl dX5_at_22
  · refine wq_iload_n dX5_at_4 1 rfl rfl ?_
    refine wq_aload_n dX5_at_5 0 rfl rfl ?_
    refine g_2_1 ht ln_RX5_15 dX5_at_6 ?_
    refine wq_icmp_ge 21 dX5_at_9 (by decide) rfl rfl (fun c2 => ?_) (fun c2 => ?_)
    · refine wq_aload_n dX5_at_12 0 rfl rfl ?_
      refine g_2_0 ht ln_RX5_9 dX5_at_13 ?_
      refine wq_iload_n dX5_at_16 1 rfl rfl ?_
      refine wq_grd (fun g1 => ?_)
      refine wq_iald (k := 12) (i := t) rfl ht rfl rfl (m := (I 2 t 2)) g1 (Nat.le_refl _) dX5_at_17 ?_
      refine wq_goto 22 dX5_at_18 (by decide) ?_
      exact wq_iret rfl rfl dX5_at_22
    · refine wq_iconst dX5_at_21 ?_
      exact wq_iret rfl rfl dX5_at_22

noncomputable def f_Row_clear (t : Nat) (I : Mem) : Option ((Unit) × Mem) :=
if t < 516 then
ltI (sI I 2 t 1 0) fun J1 =>
some ((), J1)
else none
set_option maxRecDepth 20000 in
theorem R_Row_clear (Z : ZT) (t : Nat) (I : Mem) (r : Unit) (J : Mem) (hf : f_Row_clear t I = some (r, J)) : Runs Z yX5_clear cX5_clear 1 (none) 1 [vr Z 2 t] I (none, J) := by
  refine Runs.of (rv := fun _ => none) (by decide +kernel) (Nat.le_of_ble_eq_true rfl) hf (fun gr => ?_)
  unfold f_Row_clear
  refine WQ.loc [0] (lv' := [(0, vr Z 2 t)]) rfl ?_
  refine wq_grd (fun ht => ?_)
  refine wq_aload_n dX5_clear_0 0 rfl rfl ?_
  refine wq_iconst dX5_clear_1 ?_
  refine p_2_1 ht ln_RX5_15 dX5_clear_2 (fun J1 => ?_)
  exact wq_vret rfl rfl dX5_clear_5

noncomputable def f_Row_drop (t : Nat) (a1 : Int) (I : Mem) : Option ((Unit) × Mem) :=
if t < 516 then
if (w32 a1) < (w32 (I 2 t 1)) then
ltI (sI I 2 t 1 ((I 2 t 1) - a1)) fun J2 =>
some ((), J2)
else
ltI (sI I 2 t 1 0) fun J1 =>
some ((), J1)
else none
set_option maxRecDepth 20000 in
theorem R_Row_drop (Z : ZT) (t : Nat) (a1 : Int) (I : Mem) (r : Unit) (J : Mem) (hf : f_Row_drop t a1 I = some (r, J)) : Runs Z yX5_drop cX5_drop 2 (none) 1 [vr Z 2 t, vi a1] I (none, J) := by
  refine Runs.of (rv := fun _ => none) (by decide +kernel) (Nat.le_of_ble_eq_true rfl) hf (fun gr => ?_)
  unfold f_Row_drop
  refine WQ.loc [0, 1] (lv' := [(0, vr Z 2 t), (1, vi a1)]) rfl ?_
  refine wq_grd (fun ht => ?_)
  refine wq_aload_n dX5_drop_0 0 rfl rfl ?_
  refine wq_iload_n dX5_drop_1 1 rfl rfl ?_
  refine wq_aload_n dX5_drop_2 0 rfl rfl ?_
  refine g_2_1 ht ln_RX5_15 dX5_drop_3 ?_
  refine wq_icmp_ge 18 dX5_drop_6 (by decide) rfl rfl (fun c3 => ?_) (fun c3 => ?_)
  · refine wq_aload_n dX5_drop_9 0 rfl rfl ?_
    refine g_2_1 ht ln_RX5_15 dX5_drop_10 ?_
    refine wq_iload_n dX5_drop_13 1 rfl rfl ?_
    refine wq_isub dX5_drop_14 ?_
    refine wq_goto 19 dX5_drop_15 (by decide) ?_
    refine p_2_1 ht ln_RX5_15 dX5_drop_19 (fun J2 => ?_)
    exact wq_vret rfl rfl dX5_drop_22
  · refine wq_iconst dX5_drop_18 ?_
    refine p_2_1 ht ln_RX5_15 dX5_drop_19 (fun J1 => ?_)
    exact wq_vret rfl rfl dX5_drop_22

noncomputable def f_Row_isPair (t : Nat) (a1 : Int) (a2 : Int) (I : Mem) : Option ((Int) × Mem) :=
if t < 516 then
if (w32 (I 2 t 1)) = 2 then
if (0 : Int) ≤ 0 ∧ (0 : Int) < (I 2 t 2) then
if (w32 (I 12 t 0)) = (w32 a1) then
if (0 : Int) ≤ 1 ∧ (1 : Int) < (I 2 t 2) then
if (w32 (I 12 t 1)) = (w32 a2) then
some (1, I)
else
some (0, I)
else none
else
some (0, I)
else none
else
some (0, I)
else none
set_option maxRecDepth 20000 in
theorem R_Row_isPair (Z : ZT) (t : Nat) (a1 : Int) (a2 : Int) (I : Mem) (r : Int) (J : Mem) (hf : f_Row_isPair t a1 a2 I = some (r, J)) : Runs Z yX5_isPair cX5_isPair 3 (some .boolean) 1 [vr Z 2 t, vi a1, vi a2] I (some (vi r), J) := by
  refine Runs.of (rv := fun x => some (vi x)) (by decide +kernel) (Nat.le_of_ble_eq_true rfl) hf (fun gr => ?_)
  unfold f_Row_isPair
  refine WQ.loc [0, 1, 2] (lv' := [(0, vr Z 2 t), (1, vi a1), (2, vi a2)]) rfl ?_
  refine wq_grd (fun ht => ?_)
  refine wq_aload_n dX5_isPair_0 0 rfl rfl ?_
  refine g_2_1 ht ln_RX5_15 dX5_isPair_1 ?_
  refine wq_iconst dX5_isPair_4 ?_
  refine wq_icmp_ne 32 dX5_isPair_5 (by decide) rfl rfl (fun c5 => ?_) (fun c5 => ?_)
  · refine wq_aload_n dX5_isPair_8 0 rfl rfl ?_
    refine g_2_0 ht ln_RX5_9 dX5_isPair_9 ?_
    refine wq_iconst dX5_isPair_12 ?_
    refine wq_grd (fun g1 => ?_)
    refine wq_iald (k := 12) (i := t) rfl ht rfl rfl (m := (I 2 t 2)) g1 (Nat.le_refl _) dX5_isPair_13 ?_
    refine wq_iload_n dX5_isPair_14 1 rfl rfl ?_
    refine wq_icmp_ne 32 dX5_isPair_15 (by decide) rfl rfl (fun c4 => ?_) (fun c4 => ?_)
    · refine wq_aload_n dX5_isPair_18 0 rfl rfl ?_
      refine g_2_0 ht ln_RX5_9 dX5_isPair_19 ?_
      refine wq_iconst dX5_isPair_22 ?_
      refine wq_grd (fun g2 => ?_)
      refine wq_iald (k := 12) (i := t) rfl ht rfl rfl (m := (I 2 t 2)) g2 (Nat.le_refl _) dX5_isPair_23 ?_
      refine wq_iload_n dX5_isPair_24 2 rfl rfl ?_
      refine wq_icmp_ne 32 dX5_isPair_25 (by decide) rfl rfl (fun c3 => ?_) (fun c3 => ?_)
      · refine wq_iconst dX5_isPair_28 ?_
        refine wq_goto 33 dX5_isPair_29 (by decide) ?_
        exact wq_zret rfl (by decide) rfl dX5_isPair_33
      · refine wq_iconst dX5_isPair_32 ?_
        exact wq_zret rfl (by decide) rfl dX5_isPair_33
    · refine wq_iconst dX5_isPair_32 ?_
      exact wq_zret rfl (by decide) rfl dX5_isPair_33
  · refine wq_iconst dX5_isPair_32 ?_
    exact wq_zret rfl (by decide) rfl dX5_isPair_33

noncomputable def f_Row_timesOf_w4 (v0 : Nat) (v1 : Int) (s : Int × Int) (I : Mem) : Option (((Int × Int) ⊕ (Int)) × Mem) :=
if (w32 s.2) < (w32 (I 2 v0 1)) then
if 0 ≤ (w32 s.2) ∧ (w32 s.2) < (I 2 v0 2) then
if (w32 (I 12 v0 (w32 s.2).toNat)) = (w32 v1) then
some (.inl ((s.1 + 1), (s.2 + 1)), I)
else
some (.inl (s.1, (s.2 + 1)), I)
else none
else
some (.inr s.1, I)

noncomputable def f_Row_timesOf (t : Nat) (a1 : Int) (I : Mem) : Option ((Int) × Mem) :=
if t < 516 then
bnd (whl (f_Row_timesOf_w4 t a1) (0, 0) I) fun r14 J15 =>
some (r14, J15)
else none
set_option maxRecDepth 20000 in
theorem R_Row_timesOf (Z : ZT) (t : Nat) (a1 : Int) (I : Mem) (r : Int) (J : Mem) (hf : f_Row_timesOf t a1 I = some (r, J)) : Runs Z yX5_timesOf cX5_timesOf 4 (some .int) 1 [vr Z 2 t, vi a1] I (some (vi r), J) := by
  refine Runs.of (rv := fun x => some (vi x)) (by decide +kernel) (Nat.le_of_ble_eq_true rfl) hf (fun gr => ?_)
  unfold f_Row_timesOf
  refine WQ.loc [0, 1] (lv' := [(0, vr Z 2 t), (1, vi a1)]) rfl ?_
  refine wq_grd (fun ht => ?_)
  refine wq_iconst dX5_timesOf_0 ?_
  refine wq_istore_n (lv' := [(2, vi 0), (0, vr Z 2 t), (1, vi a1)]) dX5_timesOf_1 rfl (by decide) rfl ?_
  refine wq_iconst dX5_timesOf_2 ?_
  refine wq_istore_n (lv' := [(3, vi 0), (2, vi 0), (0, vr Z 2 t), (1, vi a1)]) dX5_timesOf_3 rfl (by decide) rfl ?_
  refine WQ.loc [2, 3, 1, 0] (lv' := [(0, vr Z 2 t), (1, vi a1), (2, vi 0), (3, vi 0)]) rfl ?_
  refine wq_loopS (fun s10 => [(0, vr Z 2 t), (1, vi a1), (2, vi s10.1), (3, vi s10.2)]) 31 (fun r14 => [(2, vi r14)]) (fun κ4 bk5 ex6 gr9 s10 J8 => ?_) (fun gr16 r14 J15 => ?_) gr _ rfl
  · unfold f_Row_timesOf_w4
    refine wq_iload_n dX5_timesOf_4 3 rfl rfl ?_
    refine wq_aload_n dX5_timesOf_5 0 rfl rfl ?_
    refine g_2_1 ht ln_RX5_15 dX5_timesOf_6 ?_
    refine wq_icmp_ge 31 dX5_timesOf_9 (by decide) rfl rfl (fun c13 => ?_) (fun c13 => ?_)
    · refine wq_aload_n dX5_timesOf_12 0 rfl rfl ?_
      refine g_2_0 ht ln_RX5_9 dX5_timesOf_13 ?_
      refine wq_iload_n dX5_timesOf_16 3 rfl rfl ?_
      refine wq_grd (fun g11 => ?_)
      refine wq_iald (k := 12) (i := t) rfl ht rfl rfl (m := (J8 2 t 2)) g11 (Nat.le_refl _) dX5_timesOf_17 ?_
      refine wq_iload_n dX5_timesOf_18 1 rfl rfl ?_
      refine wq_icmp_ne 25 dX5_timesOf_19 (by decide) rfl rfl (fun c12 => ?_) (fun c12 => ?_)
      · refine wq_iinc (lv' := [(2, vi (s10.1 + 1)), (0, vr Z 2 t), (1, vi a1), (3, vi s10.2)]) dX5_timesOf_22 2 rfl (by decide) rfl ?_
        refine wq_iinc (lv' := [(3, vi (s10.2 + 1)), (2, vi (s10.1 + 1)), (0, vr Z 2 t), (1, vi a1)]) dX5_timesOf_25 3 rfl (by decide) rfl ?_
        refine wq_goto 4 dX5_timesOf_28 (by decide) ?_
        exact WQ.loc [2, 3, 1, 0] rfl (bk5 _ _ _)
      · refine wq_iinc (lv' := [(3, vi (s10.2 + 1)), (0, vr Z 2 t), (1, vi a1), (2, vi s10.1)]) dX5_timesOf_25 3 rfl (by decide) rfl ?_
        refine wq_goto 4 dX5_timesOf_28 (by decide) ?_
        exact WQ.loc [1, 2, 3, 0] rfl (bk5 _ _ _)
    · exact WQ.loc [2] rfl (ex6 _ _ _)
  · refine wq_iload_n dX5_timesOf_31 0 rfl rfl ?_
    exact wq_iret rfl rfl dX5_timesOf_32

noncomputable def f_Row_join_j70 (v0 : Nat) (v1 : Int) (v2 : Int) (v3 : Int) (v4 : Int) (v5 : Int) (v6 : Int)   (I : Mem) : Option (((Int × Int × Int) ⊕ (Int × Int)) × Mem) :=
if 0 ≤ (w32 v6) ∧ (w32 v6) < (I 2 v0 2) then
if 0 ≤ (w32 v5) ∧ (w32 v5) < (I 2 v0 2) then
ltI (sI I 12 v0 (w32 v5).toNat (I 12 v0 (w32 v6).toNat)) fun J11 =>
some (.inl (v4, (v5 + 1), (v6 + 1)), J11)
else none
else none

noncomputable def f_Row_join_w9 (v0 : Nat) (v1 : Int) (v2 : Int) (v3 : Int) (s : Int × Int × Int) (I : Mem) : Option (((Int × Int × Int) ⊕ (Int × Int)) × Mem) :=
if (w32 s.2.2) < (w32 (I 2 v0 1)) then
if 0 ≤ (w32 s.2.2) ∧ (w32 s.2.2) < (I 2 v0 2) then
if (w32 (I 12 v0 (w32 s.2.2).toNat)) = (w32 v1) then
if (w32 (s.2.2 + 1)) < (w32 (I 2 v0 1)) then
if 0 ≤ (w32 (s.2.2 + 1)) ∧ (w32 (s.2.2 + 1)) < (I 2 v0 2) then
if (w32 (I 12 v0 (w32 (s.2.2 + 1)).toNat)) = (w32 v2) then
if 0 ≤ (w32 s.2.1) ∧ (w32 s.2.1) < (I 2 v0 2) then
ltI (sI I 12 v0 (w32 s.2.1).toNat v3) fun J5 =>
some (.inl ((s.1 + 1), (s.2.1 + 1), ((s.2.2 + 1) + 1)), J5)
else none
else
f_Row_join_j70 v0 v1 v2 v3 s.1 s.2.1 s.2.2 I
else none
else
f_Row_join_j70 v0 v1 v2 v3 s.1 s.2.1 s.2.2 I
else
f_Row_join_j70 v0 v1 v2 v3 s.1 s.2.1 s.2.2 I
else none
else
some (.inr (s.1, s.2.1), I)

noncomputable def f_Row_join (t : Nat) (a1 : Int) (a2 : Int) (a3 : Int) (I : Mem) : Option ((Int) × Mem) :=
if t < 516 then
bnd (whl (f_Row_join_w9 t a1 a2 a3) (0, 0, 0) I) fun r39 J40 =>
ltI (sI J40 2 t 1 r39.2) fun J42 =>
some (r39.1, J42)
else none
set_option maxRecDepth 20000 in
theorem R_Row_join (Z : ZT) (t : Nat) (a1 : Int) (a2 : Int) (a3 : Int) (I : Mem) (r : Int) (J : Mem) (hf : f_Row_join t a1 a2 a3 I = some (r, J)) : Runs Z yX5_join cX5_join 7 (some .int) 1 [vr Z 2 t, vi a1, vi a2, vi a3] I (some (vi r), J) := by
  refine Runs.of (rv := fun x => some (vi x)) (by decide +kernel) (Nat.le_of_ble_eq_true rfl) hf (fun gr => ?_)
  unfold f_Row_join
  refine WQ.loc [0, 1, 2, 3] (lv' := [(0, vr Z 2 t), (1, vi a1), (2, vi a2), (3, vi a3)]) rfl ?_
  refine wq_grd (fun ht => ?_)
  refine wq_iconst dX5_join_0 ?_
  refine wq_istore (lv' := [(4, vi 0), (0, vr Z 2 t), (1, vi a1), (2, vi a2), (3, vi a3)]) dX5_join_1 (by decide) rfl ?_
  refine wq_iconst dX5_join_3 ?_
  refine wq_istore (lv' := [(5, vi 0), (4, vi 0), (0, vr Z 2 t), (1, vi a1), (2, vi a2), (3, vi a3)]) dX5_join_4 (by decide) rfl ?_
  refine wq_iconst dX5_join_6 ?_
  refine wq_istore (lv' := [(6, vi 0), (5, vi 0), (4, vi 0), (0, vr Z 2 t), (1, vi a1), (2, vi a2), (3, vi a3)]) dX5_join_7 (by decide) rfl ?_
  refine WQ.loc [3, 4, 5, 6, 2, 1, 0] (lv' := [(0, vr Z 2 t), (1, vi a1), (2, vi a2), (3, vi a3), (4, vi 0), (5, vi 0), (6, vi 0)]) rfl ?_
  refine wq_loopS (fun s24 => [(0, vr Z 2 t), (1, vi a1), (2, vi a2), (3, vi a3), (4, vi s24.1), (5, vi s24.2.1), (6, vi s24.2.2)]) 93 (fun r39 => [(0, vr Z 2 t), (4, vi r39.1), (5, vi r39.2)]) (fun κ18 bk19 ex20 gr23 s24 J22 => ?_) (fun gr41 r39 J40 => ?_) gr _ rfl
  · unfold f_Row_join_w9
    refine wq_iload dX5_join_9 6 rfl ?_
    refine wq_aload_n dX5_join_11 0 rfl rfl ?_
    refine g_2_1 ht ln_RX5_15 dX5_join_12 ?_
    refine wq_icmp_ge 93 dX5_join_15 (by decide) rfl rfl (fun c38 => ?_) (fun c38 => ?_)
    · refine wq_aload_n dX5_join_18 0 rfl rfl ?_
      refine g_2_0 ht ln_RX5_9 dX5_join_19 ?_
      refine wq_iload dX5_join_22 6 rfl ?_
      refine wq_grd (fun g25 => ?_)
      refine wq_iald (k := 12) (i := t) rfl ht rfl rfl (m := (J22 2 t 2)) g25 (Nat.le_refl _) dX5_join_24 ?_
      refine wq_iload_n dX5_join_25 1 rfl rfl ?_
      have hj26 : ∀ (gr34 : Nat → Nat)   (J33 : Mem), WQ Z (yX5_join, cX5_join, 7, some .int, 1) I gr34 70 [(0, vr Z 2 t), (1, vi a1), (2, vi a2), (3, vi a3), (4, vi s24.1), (5, vi s24.2.1), (6, vi s24.2.2)] [] J33 (f_Row_join_j70 t a1 a2 a3 s24.1 s24.2.1 s24.2.2 J33) κ18 := by
        intro gr34 J33
        unfold f_Row_join_j70
        refine wq_aload_n dX5_join_70 0 rfl rfl ?_
        refine g_2_0 ht ln_RX5_9 dX5_join_71 ?_
        refine wq_iload dX5_join_74 5 rfl ?_
        refine wq_aload_n dX5_join_76 0 rfl rfl ?_
        refine g_2_0 ht ln_RX5_9 dX5_join_77 ?_
        refine wq_iload dX5_join_80 6 rfl ?_
        refine wq_grd (fun g35 => ?_)
        refine wq_iald (k := 12) (i := t) rfl ht rfl rfl (m := (J33 2 t 2)) g35 (Nat.le_refl _) dX5_join_82 ?_
        refine wq_grd (fun g36 => ?_)
        refine wq_iast (k := 12) (i := t) (fun K hK => by show arI _ (K 2 _ 2).toNat _ = _; rw [hK]) ht rfl rfl (m := (J33 2 t 2)) g36 (Nat.le_refl _) (by decide) (by decide) (by decide) dX5_join_83 (fun J37 => ?_)
        refine wq_iinc (lv' := [(5, vi (s24.2.1 + 1)), (0, vr Z 2 t), (1, vi a1), (2, vi a2), (3, vi a3), (4, vi s24.1), (6, vi s24.2.2)]) dX5_join_84 5 rfl (by decide) rfl ?_
        refine wq_iinc (lv' := [(6, vi (s24.2.2 + 1)), (5, vi (s24.2.1 + 1)), (0, vr Z 2 t), (1, vi a1), (2, vi a2), (3, vi a3), (4, vi s24.1)]) dX5_join_87 6 rfl (by decide) rfl ?_
        refine wq_goto 9 dX5_join_90 (by decide) ?_
        exact WQ.loc [2, 3, 4, 5, 6, 1, 0] rfl (bk19 _ _ _)
      refine wq_icmp_ne 70 dX5_join_26 (by decide) rfl rfl (fun c32 => ?_) (fun c32 => ?_)
      · refine wq_iload dX5_join_29 6 rfl ?_
        refine wq_iconst dX5_join_31 ?_
        refine wq_iadd dX5_join_32 ?_
        refine wq_aload_n dX5_join_33 0 rfl rfl ?_
        refine g_2_1 ht ln_RX5_15 dX5_join_34 ?_
        refine wq_icmp_ge 70 dX5_join_37 (by decide) rfl rfl (fun c31 => ?_) (fun c31 => ?_)
        · refine wq_aload_n dX5_join_40 0 rfl rfl ?_
          refine g_2_0 ht ln_RX5_9 dX5_join_41 ?_
          refine wq_iload dX5_join_44 6 rfl ?_
          refine wq_iconst dX5_join_46 ?_
          refine wq_iadd dX5_join_47 ?_
          refine wq_grd (fun g27 => ?_)
          refine wq_iald (k := 12) (i := t) rfl ht rfl rfl (m := (J22 2 t 2)) g27 (Nat.le_refl _) dX5_join_48 ?_
          refine wq_iload_n dX5_join_49 2 rfl rfl ?_
          refine wq_icmp_ne 70 dX5_join_50 (by decide) rfl rfl (fun c30 => ?_) (fun c30 => ?_)
          · refine wq_aload_n dX5_join_53 0 rfl rfl ?_
            refine g_2_0 ht ln_RX5_9 dX5_join_54 ?_
            refine wq_iload dX5_join_57 5 rfl ?_
            refine wq_iload_n dX5_join_59 3 rfl rfl ?_
            refine wq_grd (fun g28 => ?_)
            refine wq_iast (k := 12) (i := t) (fun K hK => by show arI _ (K 2 _ 2).toNat _ = _; rw [hK]) ht rfl rfl (m := (J22 2 t 2)) g28 (Nat.le_refl _) (by decide) (by decide) (by decide) dX5_join_60 (fun J29 => ?_)
            refine wq_iinc (lv' := [(6, vi (s24.2.2 + 1)), (0, vr Z 2 t), (1, vi a1), (2, vi a2), (3, vi a3), (4, vi s24.1), (5, vi s24.2.1)]) dX5_join_61 6 rfl (by decide) rfl ?_
            refine wq_iinc (lv' := [(4, vi (s24.1 + 1)), (6, vi (s24.2.2 + 1)), (0, vr Z 2 t), (1, vi a1), (2, vi a2), (3, vi a3), (5, vi s24.2.1)]) dX5_join_64 5 rfl (by decide) rfl ?_
            refine wq_goto 84 dX5_join_67 (by decide) ?_
            refine wq_iinc (lv' := [(5, vi (s24.2.1 + 1)), (4, vi (s24.1 + 1)), (6, vi (s24.2.2 + 1)), (0, vr Z 2 t), (1, vi a1), (2, vi a2), (3, vi a3)]) dX5_join_84 6 rfl (by decide) rfl ?_
            refine wq_iinc (lv' := [(6, vi ((s24.2.2 + 1) + 1)), (5, vi (s24.2.1 + 1)), (4, vi (s24.1 + 1)), (0, vr Z 2 t), (1, vi a1), (2, vi a2), (3, vi a3)]) dX5_join_87 2 rfl (by decide) rfl ?_
            refine wq_goto 9 dX5_join_90 (by decide) ?_
            exact WQ.loc [3, 4, 5, 6, 2, 1, 0] rfl (bk19 _ _ _)
          · exact WQ.loc [0, 1, 2, 3, 4, 5, 6] rfl (hj26 _   _)
        · exact WQ.loc [0, 1, 2, 3, 4, 5, 6] rfl (hj26 _   _)
      · exact WQ.loc [0, 1, 2, 3, 4, 5, 6] rfl (hj26 _   _)
    · exact WQ.loc [0, 4, 5] rfl (ex20 _ _ _)
  · refine wq_aload_n dX5_join_93 0 rfl rfl ?_
    refine wq_iload dX5_join_94 2 rfl ?_
    refine p_2_1 ht ln_RX5_15 dX5_join_96 (fun J42 => ?_)
    refine wq_iload dX5_join_99 1 rfl ?_
    exact wq_iret rfl rfl dX5_join_101

theorem ln_RX5_37 : Cond.methodLink RX5 37 Lib.Math.min.name ∈ lw_good := li_2 94 (by decide +kernel) (by decide +kernel)
noncomputable def f_Row_makeRoom_w24 (v0 : Nat) (v1 : Int) (s : Int × Int) (I : Mem) : Option (((Int × Int) ⊕ (Int)) × Mem) :=
if (w32 s.2) < 4 then
if (w32 s.1) < (w32 v1) then
some (.inl ((imn (4 * s.1) 400), (s.2 + 1)), I)
else
some (.inr s.1, I)
else
some (.inr s.1, I)

noncomputable def f_Row_makeRoom (t : Nat) (a1 : Int) (I : Mem) : Option ((Int) × Mem) :=
if t < 516 then
if 0 ≤ (I 2 t 2) then
if (w32 (I 2 t 2)) < (w32 a1) then
if 400 < (w32 a1) then
some (0, I)
else
bnd (whl (f_Row_makeRoom_w24 t a1) (4, 0) I) fun r13 J14 =>
if 0 ≤ (w32 r13) ∧ (w32 r13) ≤ 262144 ∧ 0 ≤ (w32 (J14 2 t 1)) ∧ (w32 (J14 2 t 1)) ≤ (J14 2 t 2) ∧ (w32 (J14 2 t 1)) ≤ (w32 r13) then
ltI (grw J14 12 2 t (w32 r13) (w32 (J14 2 t 1))) fun J17 =>
some (1, J17)
else none
else
some (1, I)
else none
else none
set_option maxRecDepth 20000 in
theorem R_Row_makeRoom (Z : ZT) (t : Nat) (a1 : Int) (I : Mem) (r : Int) (J : Mem) (hf : f_Row_makeRoom t a1 I = some (r, J)) : Runs Z yX5_makeRoom cX5_makeRoom 4 (some .boolean) 1 [vr Z 2 t, vi a1] I (some (vi r), J) := by
  refine Runs.of (rv := fun x => some (vi x)) (by decide +kernel) (Nat.le_of_ble_eq_true rfl) hf (fun gr => ?_)
  unfold f_Row_makeRoom
  refine WQ.loc [0, 1] (lv' := [(0, vr Z 2 t), (1, vi a1)]) rfl ?_
  refine wq_grd (fun ht => ?_)
  refine wq_iload_n dX5_makeRoom_0 1 rfl rfl ?_
  refine wq_aload_n dX5_makeRoom_1 0 rfl rfl ?_
  refine g_2_0 ht ln_RX5_9 dX5_makeRoom_2 ?_
  refine wq_grd (fun g1 => ?_)
  refine wq_alen (k := 12) (i := t) (t0 := 0) rfl rfl ht rfl (alen_ok g1) dX5_makeRoom_5 ?_
  refine wq_icmp_gt 11 dX5_makeRoom_6 (by decide) rfl rfl (fun c20 => ?_) (fun c20 => ?_)
  · refine wq_iload_n dX5_makeRoom_11 1 rfl rfl ?_
    refine wq_sipush dX5_makeRoom_12 (by decide) ?_
    refine wq_icmp_le 20 dX5_makeRoom_15 (by decide) rfl rfl (fun c19 => ?_) (fun c19 => ?_)
    · refine wq_iconst dX5_makeRoom_18 ?_
      exact wq_zret rfl (by decide) rfl dX5_makeRoom_19
    · refine wq_iconst dX5_makeRoom_20 ?_
      refine wq_istore_n (lv' := [(2, vi 4), (0, vr Z 2 t), (1, vi a1)]) dX5_makeRoom_21 rfl (by decide) rfl ?_
      refine wq_iconst dX5_makeRoom_22 ?_
      refine wq_istore_n (lv' := [(3, vi 0), (2, vi 4), (0, vr Z 2 t), (1, vi a1)]) dX5_makeRoom_23 rfl (by decide) rfl ?_
      refine WQ.loc [2, 3, 1, 0] (lv' := [(0, vr Z 2 t), (1, vi a1), (2, vi 4), (3, vi 0)]) rfl ?_
      refine wq_loopS (fun s10 => [(0, vr Z 2 t), (1, vi a1), (2, vi s10.1), (3, vi s10.2)]) 50 (fun r13 => [(0, vr Z 2 t), (2, vi r13)]) (fun κ4 bk5 ex6 gr9 s10 J8 => ?_) (fun gr15 r13 J14 => ?_) gr _ rfl
      · unfold f_Row_makeRoom_w24
        refine wq_iload_n dX5_makeRoom_24 3 rfl rfl ?_
        refine wq_iconst dX5_makeRoom_25 ?_
        refine wq_icmp_ge 50 dX5_makeRoom_26 (by decide) rfl rfl (fun c12 => ?_) (fun c12 => ?_)
        · refine wq_iload_n dX5_makeRoom_29 2 rfl rfl ?_
          refine wq_iload_n dX5_makeRoom_30 1 rfl rfl ?_
          refine wq_icmp_ge 50 dX5_makeRoom_31 (by decide) rfl rfl (fun c11 => ?_) (fun c11 => ?_)
          · refine wq_iconst dX5_makeRoom_34 ?_
            refine wq_iload_n dX5_makeRoom_35 2 rfl rfl ?_
            refine wq_imul dX5_makeRoom_36 ?_
            refine wq_sipush dX5_makeRoom_37 (by decide) ?_
            refine wq_min (by decide) (Nat.le_of_ble_eq_true rfl) ln_RX5_37 mt_min_s mt_i mt_min_c dX5_makeRoom_40 ?_
            refine wq_istore_n (lv' := [(2, vi (imn (4 * s10.1) 400)), (0, vr Z 2 t), (1, vi a1), (3, vi s10.2)]) dX5_makeRoom_43 rfl (by decide) rfl ?_
            refine wq_iinc (lv' := [(3, vi (s10.2 + 1)), (2, vi (imn (4 * s10.1) 400)), (0, vr Z 2 t), (1, vi a1)]) dX5_makeRoom_44 3 rfl (by decide) rfl ?_
            refine wq_goto 24 dX5_makeRoom_47 (by decide) ?_
            exact WQ.loc [2, 3, 1, 0] rfl (bk5 _ _ _)
          · exact WQ.loc [0, 2] rfl (ex6 _ _ _)
        · exact WQ.loc [0, 2] rfl (ex6 _ _ _)
      · refine wq_iload_n dX5_makeRoom_50 1 rfl rfl ?_
        refine WQ.loc [0] (lv' := [(0, vr Z 2 t)]) rfl ?_
        refine wq_grd (fun g16 => ?_)
        refine wq_growR (lv' := [(0, vr Z 2 t)]) ht rfl (by decide) rfl rfl rfl rfl rfl g16 (fun gr18 J17 => ?_)
        refine wq_iconst dX5_makeRoom_73 ?_
        exact wq_zret rfl (by decide) rfl dX5_makeRoom_74
  · refine wq_iconst dX5_makeRoom_9 ?_
    exact wq_zret rfl (by decide) rfl dX5_makeRoom_10

theorem ln_RX9_12 : Cond.fieldLink RX9 12 RX9 "pairs" "LPairRules$PairTable;" ∈ lw_good := li_1 133 (by decide +kernel) (by decide +kernel)
noncomputable def f_Stp_pairs  (I : Mem) : Option ((Nat) × Mem) :=
some (0, I)
set_option maxRecDepth 20000 in
theorem R_Stp_pairs (Z : ZT)  (I : Mem) (r : Nat) (J : Mem) (hf : f_Stp_pairs I = some (r, J)) : Runs Z yX9_pairs cX9_pairs 1 (some (.object RX3)) 1 [vr Z 3 0] I (some (vr Z 4 r), J) := by
  refine Runs.of (rv := fun x => some (vr Z 4 x)) (by decide +kernel) (Nat.le_of_ble_eq_true rfl) hf (fun gr => ?_)
  unfold f_Stp_pairs
  refine WQ.loc [0] (lv' := [(0, vr Z 3 0)]) rfl ?_
  refine wq_aload_n dX9_pairs_0 0 rfl rfl ?_
  refine g_3_0 ln_RX9_12 dX9_pairs_1 ?_
  exact wq_aret rfl (Or.inl ⟨_, rfl⟩) rfl dX9_pairs_4

theorem M_Row_many : MwV yX5_many cX5_many 1 (some .int) 0 := ⟨li_3 48 (by decide +kernel) (by decide +kernel), li_3 46 (by decide +kernel) (by decide +kernel), li_3 47 (by decide +kernel) (by decide +kernel), li_1 3 (by decide +kernel) (by decide +kernel), by decide +kernel⟩
theorem ln_RX9_75 : Cond.methodLink RX9 75 yX5_many ∈ lw_good := li_4 148 (by decide +kernel) (by decide +kernel)
theorem M_Row_at : MwV yX5_at cX5_at 2 (some .int) 1 := ⟨li_3 136 (by decide +kernel) (by decide +kernel), li_3 134 (by decide +kernel) (by decide +kernel), li_3 135 (by decide +kernel) (by decide +kernel), li_1 3 (by decide +kernel) (by decide +kernel), by decide +kernel⟩
theorem ln_RX9_18 : Cond.fieldLink RX9 18 RX9 "uses" "[I" ∈ lw_good := li_1 134 (by decide +kernel) (by decide +kernel)
theorem ln_RX9_80 : Cond.methodLink RX9 80 yX5_at ∈ lw_good := li_4 149 (by decide +kernel) (by decide +kernel)
noncomputable def f_Stp_noteUses_w2 (v1 : Nat) (v2 : Int) (s : Int) (I : Mem) : Option (((Int) ⊕ (Unit)) × Mem) :=
if (w32 s) < (w32 (I 2 v1 1)) then
bnd (f_Row_at v1 s I) fun x4 J3 =>
if (w32 (x4 - 26)) < 0 then
some (.inl (s + 1), J3)
else
if (w32 (x4 - 26)) < 40 then
if 0 ≤ (w32 (x4 - 26)) ∧ (w32 (x4 - 26)) < 40 then
ltI (sI J3 17 0 (w32 (x4 - 26)).toNat ((J3 17 0 (w32 (x4 - 26)).toNat) + v2)) fun J6 =>
some (.inl (s + 1), J6)
else none
else
some (.inl (s + 1), J3)
else
some (.inr (), I)

noncomputable def f_Stp_noteUses (a1 : Nat) (a2 : Int) (I : Mem) : Option ((Unit) × Mem) :=
if a1 < 516 then
bnd (whl (f_Stp_noteUses_w2 a1 a2) 0 I) fun r26 J27 =>
some ((), J27)
else none
set_option maxRecDepth 20000 in
theorem R_Stp_noteUses (Z : ZT) (a1 : Nat) (a2 : Int) (I : Mem) (r : Unit) (J : Mem) (hf : f_Stp_noteUses a1 a2 I = some (r, J)) : Runs Z yX9_noteUses cX9_noteUses 5 (none) 2 [vr Z 3 0, vr Z 2 a1, vi a2] I (none, J) := by
  refine Runs.of (rv := fun _ => none) (by decide +kernel) (Nat.le_of_ble_eq_true rfl) hf (fun gr => ?_)
  unfold f_Stp_noteUses
  refine WQ.loc [0, 1, 2] (lv' := [(0, vr Z 3 0), (1, vr Z 2 a1), (2, vi a2)]) rfl ?_
  refine wq_grd (fun h1 => ?_)
  refine wq_iconst dX9_noteUses_0 ?_
  refine wq_istore_n (lv' := [(3, vi 0), (0, vr Z 3 0), (1, vr Z 2 a1), (2, vi a2)]) dX9_noteUses_1 rfl (by decide) rfl ?_
  refine WQ.loc [1, 2, 3, 0] (lv' := [(0, vr Z 3 0), (1, vr Z 2 a1), (2, vi a2), (3, vi 0)]) rfl ?_
  refine wq_loopS (fun s16 => [(0, vr Z 3 0), (1, vr Z 2 a1), (2, vi a2), (3, vi s16)]) 49 (fun _ => []) (fun κ10 bk11 ex12 gr15 s16 J14 => ?_) (fun gr28 r26 J27 => ?_) gr _ rfl
  · unfold f_Stp_noteUses_w2
    refine wq_iload_n dX9_noteUses_2 3 rfl rfl ?_
    refine wq_aload_n dX9_noteUses_3 1 rfl rfl ?_
    refine wq_pV (v := vi (J14 2 a1 1)) M_Row_many (R_Row_many Z a1 _ _ _ (if_pos h1)) (ob_2 h1) rfl rfl (by decide) (by decide) (Nat.le_of_ble_eq_true rfl) ln_RX9_75 dX9_noteUses_4 (fun gr17 => ?_)
    refine wq_icmp_ge 49 dX9_noteUses_7 (by decide) rfl rfl (fun c25 => ?_) (fun c25 => ?_)
    · refine wq_aload_n dX9_noteUses_10 1 rfl rfl ?_
      refine wq_iload_n dX9_noteUses_11 3 rfl rfl ?_
      refine wq_cVi M_Row_at (R_Row_at Z a1 s16 _) (ob_2 h1) rfl rfl (by decide) (by decide) (Nat.le_of_ble_eq_true rfl) ln_RX9_80 dX9_noteUses_12 (fun gr18 x20 J19 => ?_)
      refine wq_bipush dX9_noteUses_15 (by decide) ?_
      refine wq_isub dX9_noteUses_17 ?_
      refine wq_istore (lv' := [(4, vi (x20 - 26)), (0, vr Z 3 0), (1, vr Z 2 a1), (2, vi a2), (3, vi s16)]) dX9_noteUses_18 (by decide) rfl ?_
      refine wq_iload dX9_noteUses_20 0 rfl ?_
      refine wq_if_lt 43 dX9_noteUses_22 (by decide) rfl (fun c24 => ?_) (fun c24 => ?_)
      · refine wq_iinc (lv' := [(3, vi (s16 + 1)), (4, vi (x20 - 26)), (0, vr Z 3 0), (1, vr Z 2 a1), (2, vi a2)]) dX9_noteUses_43 4 rfl (by decide) rfl ?_
        refine wq_goto 2 dX9_noteUses_46 (by decide) ?_
        exact WQ.loc [2, 3, 4, 0] rfl (bk11 _ _ _)
      · refine wq_iload dX9_noteUses_25 0 rfl ?_
        refine wq_bipush dX9_noteUses_27 (by decide) ?_
        refine wq_icmp_ge 43 dX9_noteUses_29 (by decide) rfl rfl (fun c23 => ?_) (fun c23 => ?_)
        · refine wq_aload_n dX9_noteUses_32 1 rfl rfl ?_
          refine g_3_1 ln_RX9_18 dX9_noteUses_33 ?_
          refine wq_iload dX9_noteUses_36 0 rfl ?_
          refine wq_dup2 dX9_noteUses_38 rfl rfl ?_
          refine wq_grd (fun g21 => ?_)
          refine wq_iald (k := 17) (i := 0) rfl (by decide) rfl rfl (m := 40) g21 (Nat.le_refl _) dX9_noteUses_39 ?_
          refine wq_iload_n dX9_noteUses_40 3 rfl rfl ?_
          refine wq_iadd dX9_noteUses_41 ?_
          refine wq_iast (k := 17) (i := 0) (fun _ _ => rfl) (by decide) rfl rfl (m := 40) g21 (Nat.le_refl _) (by decide) (by decide) (by decide) dX9_noteUses_42 (fun J22 => ?_)
          refine wq_iinc (lv' := [(3, vi (s16 + 1)), (4, vi (x20 - 26)), (0, vr Z 3 0), (1, vr Z 2 a1), (2, vi a2)]) dX9_noteUses_43 4 rfl (by decide) rfl ?_
          refine wq_goto 2 dX9_noteUses_46 (by decide) ?_
          exact WQ.loc [2, 3, 4, 0] rfl (bk11 _ _ _)
        · refine wq_iinc (lv' := [(3, vi (s16 + 1)), (4, vi (x20 - 26)), (0, vr Z 3 0), (1, vr Z 2 a1), (2, vi a2)]) dX9_noteUses_43 4 rfl (by decide) rfl ?_
          refine wq_goto 2 dX9_noteUses_46 (by decide) ?_
          exact WQ.loc [2, 3, 4, 0] rfl (bk11 _ _ _)
    · exact WQ.loc [] rfl (ex12 _ _ _)
  · exact wq_vret rfl rfl dX9_noteUses_49

theorem M_PR_isSymbol : MwS yX12_isSymbol cX12_isSymbol 1 (some .boolean) 1 := ⟨li_4 59 (by decide +kernel) (by decide +kernel), li_4 58 (by decide +kernel) (by decide +kernel), li_1 1 (by decide +kernel) (by decide +kernel), by decide +kernel⟩
theorem ln_RX3_69 : Cond.methodLinkNest RX3 69 yX12_isSymbol RX12 ∈ lw_nw := nw_in 914 (by decide +kernel) (by decide +kernel)
noncomputable def f_PT_pairOf (a1 : Int) (a2 : Int) (I : Mem) : Option ((Int) × Mem) :=
bnd (f_PR_isSymbol a1 I) fun x3 J2 =>
if (w32 x3) = 0 then
some ((-1), J2)
else
bnd (f_PR_isSymbol a2 J2) fun x6 J5 =>
if (w32 x6) = 0 then
some ((-1), J5)
else
some (((a1 * 66) + a2), J5)
set_option maxRecDepth 20000 in
theorem R_PT_pairOf (Z : ZT) (a1 : Int) (a2 : Int) (I : Mem) (r : Int) (J : Mem) (hf : f_PT_pairOf a1 a2 I = some (r, J)) : Runs Z yX3_pairOf cX3_pairOf 3 (some .int) 2 [vr Z 4 0, vi a1, vi a2] I (some (vi r), J) := by
  refine Runs.of (rv := fun x => some (vi x)) (by decide +kernel) (Nat.le_of_ble_eq_true rfl) hf (fun gr => ?_)
  unfold f_PT_pairOf
  refine WQ.loc [0, 1, 2] (lv' := [(0, vr Z 4 0), (1, vi a1), (2, vi a2)]) rfl ?_
  refine wq_iload_n dX3_pairOf_0 1 rfl rfl ?_
  refine wq_cNi M_PR_isSymbol (R_PR_isSymbol Z a1 _) rfl rfl (by decide) (by decide) (Nat.le_of_ble_eq_true rfl) ln_RX3_69 dX3_pairOf_1 (fun gr1 x3 J2 => ?_)
  refine wq_if_eq 23 dX3_pairOf_4 (by decide) rfl (fun c8 => ?_) (fun c8 => ?_)
  · refine wq_iconst dX3_pairOf_23 ?_
    exact wq_iret rfl rfl dX3_pairOf_24
  · refine wq_iload_n dX3_pairOf_7 2 rfl rfl ?_
    refine wq_cNi M_PR_isSymbol (R_PR_isSymbol Z a2 _) rfl rfl (by decide) (by decide) (Nat.le_of_ble_eq_true rfl) ln_RX3_69 dX3_pairOf_8 (fun gr4 x6 J5 => ?_)
    refine wq_if_eq 23 dX3_pairOf_11 (by decide) rfl (fun c7 => ?_) (fun c7 => ?_)
    · refine wq_iconst dX3_pairOf_23 ?_
      exact wq_iret rfl rfl dX3_pairOf_24
    · refine wq_iload_n dX3_pairOf_14 1 rfl rfl ?_
      refine wq_bipush dX3_pairOf_15 (by decide) ?_
      refine wq_imul dX3_pairOf_17 ?_
      refine wq_iload_n dX3_pairOf_18 2 rfl rfl ?_
      refine wq_iadd dX3_pairOf_19 ?_
      refine wq_goto 24 dX3_pairOf_20 (by decide) ?_
      exact wq_iret rfl rfl dX3_pairOf_24

noncomputable def f_PT_firstOf (a1 : Int) (I : Mem) : Option ((Int) × Mem) :=
some ((idv a1 66), I)
set_option maxRecDepth 20000 in
theorem R_PT_firstOf (Z : ZT) (a1 : Int) (I : Mem) (r : Int) (J : Mem) (hf : f_PT_firstOf a1 I = some (r, J)) : Runs Z yX3_firstOf cX3_firstOf 2 (some .int) 1 [vr Z 4 0, vi a1] I (some (vi r), J) := by
  refine Runs.of (rv := fun x => some (vi x)) (by decide +kernel) (Nat.le_of_ble_eq_true rfl) hf (fun gr => ?_)
  unfold f_PT_firstOf
  refine WQ.loc [0, 1] (lv' := [(0, vr Z 4 0), (1, vi a1)]) rfl ?_
  refine wq_iload_n dX3_firstOf_0 1 rfl rfl ?_
  refine wq_bipush dX3_firstOf_1 (by decide) ?_
  refine wq_idiv dX3_firstOf_3 (by decide) ?_
  exact wq_iret rfl rfl dX3_firstOf_4

noncomputable def f_PT_secondOf (a1 : Int) (I : Mem) : Option ((Int) × Mem) :=
some ((irm a1 66), I)
set_option maxRecDepth 20000 in
theorem R_PT_secondOf (Z : ZT) (a1 : Int) (I : Mem) (r : Int) (J : Mem) (hf : f_PT_secondOf a1 I = some (r, J)) : Runs Z yX3_secondOf cX3_secondOf 2 (some .int) 1 [vr Z 4 0, vi a1] I (some (vi r), J) := by
  refine Runs.of (rv := fun x => some (vi x)) (by decide +kernel) (Nat.le_of_ble_eq_true rfl) hf (fun gr => ?_)
  unfold f_PT_secondOf
  refine WQ.loc [0, 1] (lv' := [(0, vr Z 4 0), (1, vi a1)]) rfl ?_
  refine wq_iload_n dX3_secondOf_0 1 rfl rfl ?_
  refine wq_bipush dX3_secondOf_1 (by decide) ?_
  refine wq_irem dX3_secondOf_3 (by decide) ?_
  exact wq_iret rfl rfl dX3_secondOf_4

theorem ln_RX3_11 : Cond.fieldLink RX3 11 RX3 "counts" "[I" ∈ lw_good := li_1 102 (by decide +kernel) (by decide +kernel)
noncomputable def f_PT_countOf (a1 : Int) (I : Mem) : Option ((Int) × Mem) :=
if (w32 a1) < 0 then
some (0, I)
else
if (w32 a1) < 4356 then
if 0 ≤ (w32 a1) ∧ (w32 a1) < 4356 then
some ((I 16 0 (w32 a1).toNat), I)
else none
else
some (0, I)
set_option maxRecDepth 20000 in
theorem R_PT_countOf (Z : ZT) (a1 : Int) (I : Mem) (r : Int) (J : Mem) (hf : f_PT_countOf a1 I = some (r, J)) : Runs Z yX3_countOf cX3_countOf 2 (some .int) 1 [vr Z 4 0, vi a1] I (some (vi r), J) := by
  refine Runs.of (rv := fun x => some (vi x)) (by decide +kernel) (Nat.le_of_ble_eq_true rfl) hf (fun gr => ?_)
  unfold f_PT_countOf
  refine WQ.loc [0, 1] (lv' := [(0, vr Z 4 0), (1, vi a1)]) rfl ?_
  refine wq_iload_n dX3_countOf_0 1 rfl rfl ?_
  refine wq_if_lt 20 dX3_countOf_1 (by decide) rfl (fun c3 => ?_) (fun c3 => ?_)
  · refine wq_iconst dX3_countOf_20 ?_
    exact wq_iret rfl rfl dX3_countOf_21
  · refine wq_iload_n dX3_countOf_4 1 rfl rfl ?_
    refine wq_sipush dX3_countOf_5 (by decide) ?_
    refine wq_icmp_ge 20 dX3_countOf_8 (by decide) rfl rfl (fun c2 => ?_) (fun c2 => ?_)
    · refine wq_aload_n dX3_countOf_11 0 rfl rfl ?_
      refine g_4_0 ln_RX3_11 dX3_countOf_12 ?_
      refine wq_iload_n dX3_countOf_15 1 rfl rfl ?_
      refine wq_grd (fun g1 => ?_)
      refine wq_iald (k := 16) (i := 0) rfl (by decide) rfl rfl (m := 4356) g1 (Nat.le_refl _) dX3_countOf_16 ?_
      refine wq_goto 21 dX3_countOf_17 (by decide) ?_
      exact wq_iret rfl rfl dX3_countOf_21
    · refine wq_iconst dX3_countOf_20 ?_
      exact wq_iret rfl rfl dX3_countOf_21

theorem ln_RX3_18 : Cond.fieldLink RX3 18 RX3 "kepts" "[I" ∈ lw_good := li_1 104 (by decide +kernel) (by decide +kernel)
noncomputable def f_PT_keptOf (a1 : Int) (I : Mem) : Option ((Int) × Mem) :=
if (w32 a1) < 0 then
some ((-1), I)
else
if (w32 a1) < 4356 then
if 0 ≤ (w32 a1) ∧ (w32 a1) < 4356 then
some ((I 16 2 (w32 a1).toNat), I)
else none
else
some ((-1), I)
set_option maxRecDepth 20000 in
theorem R_PT_keptOf (Z : ZT) (a1 : Int) (I : Mem) (r : Int) (J : Mem) (hf : f_PT_keptOf a1 I = some (r, J)) : Runs Z yX3_keptOf cX3_keptOf 2 (some .int) 1 [vr Z 4 0, vi a1] I (some (vi r), J) := by
  refine Runs.of (rv := fun x => some (vi x)) (by decide +kernel) (Nat.le_of_ble_eq_true rfl) hf (fun gr => ?_)
  unfold f_PT_keptOf
  refine WQ.loc [0, 1] (lv' := [(0, vr Z 4 0), (1, vi a1)]) rfl ?_
  refine wq_iload_n dX3_keptOf_0 1 rfl rfl ?_
  refine wq_if_lt 20 dX3_keptOf_1 (by decide) rfl (fun c3 => ?_) (fun c3 => ?_)
  · refine wq_iconst dX3_keptOf_20 ?_
    exact wq_iret rfl rfl dX3_keptOf_21
  · refine wq_iload_n dX3_keptOf_4 1 rfl rfl ?_
    refine wq_sipush dX3_keptOf_5 (by decide) ?_
    refine wq_icmp_ge 20 dX3_keptOf_8 (by decide) rfl rfl (fun c2 => ?_) (fun c2 => ?_)
    · refine wq_aload_n dX3_keptOf_11 0 rfl rfl ?_
      refine g_4_2 ln_RX3_18 dX3_keptOf_12 ?_
      refine wq_iload_n dX3_keptOf_15 1 rfl rfl ?_
      refine wq_grd (fun g1 => ?_)
      refine wq_iald (k := 16) (i := 2) rfl (by decide) rfl rfl (m := 4356) g1 (Nat.le_refl _) dX3_keptOf_16 ?_
      refine wq_goto 21 dX3_keptOf_17 (by decide) ?_
      exact wq_iret rfl rfl dX3_keptOf_21
    · refine wq_iconst dX3_keptOf_20 ?_
      exact wq_iret rfl rfl dX3_keptOf_21

theorem M_PT_keptOf : MwV yX3_keptOf cX3_keptOf 2 (some .int) 1 := ⟨li_4 84 (by decide +kernel) (by decide +kernel), li_4 82 (by decide +kernel) (by decide +kernel), li_4 83 (by decide +kernel) (by decide +kernel), li_1 5 (by decide +kernel) (by decide +kernel), by decide +kernel⟩
theorem ln_RX3_41 : Cond.fieldLink RX3 41 RX3 "free" "Z" ∈ lw_good := li_1 108 (by decide +kernel) (by decide +kernel)
theorem ln_RX3_31 : Cond.fieldLink RX3 31 RX3 "grammar" "LPairRules$Grammar;" ∈ lw_good := li_1 107 (by decide +kernel) (by decide +kernel)
theorem M_PT_countOf : MwV yX3_countOf cX3_countOf 2 (some .int) 1 := ⟨li_4 88 (by decide +kernel) (by decide +kernel), li_4 86 (by decide +kernel) (by decide +kernel), li_4 87 (by decide +kernel) (by decide +kernel), li_1 5 (by decide +kernel) (by decide +kernel), by decide +kernel⟩
theorem M_G_number : MwV yX1_number cX1_number 2 (some .int) 1 := ⟨li_4 92 (by decide +kernel) (by decide +kernel), li_4 90 (by decide +kernel) (by decide +kernel), li_4 91 (by decide +kernel) (by decide +kernel), li_1 2 (by decide +kernel) (by decide +kernel), by decide +kernel⟩
theorem ln_RX3_80 : Cond.methodLink RX3 80 yX1_number ∈ lw_good := li_4 89 (by decide +kernel) (by decide +kernel)
theorem ln_RX3_77 : Cond.methodLink RX3 77 yX3_countOf ∈ lw_good := li_4 85 (by decide +kernel) (by decide +kernel)
theorem ln_RX3_73 : Cond.methodLink RX3 73 yX3_keptOf ∈ lw_good := li_4 81 (by decide +kernel) (by decide +kernel)
noncomputable def f_PT_isWorth (a1 : Int) (I : Mem) : Option ((Int) × Mem) :=
bnd (f_PT_keptOf a1 I) fun x3 J2 =>
if (w32 x3) = (-1) then
if (w32 (J2 4 0 6)) = 0 then
some (0, J2)
else
if (J2 4 0 5) < 0 then
some (0, J2)
else
bnd (f_PT_countOf a1 J2) fun x6 J5 =>
if 0 ≤ (J5 4 0 5) ∧ (J5 4 0 5).toNat < 12 then
bnd (f_G_number ((J5 4 0 5).toNat) 4 J5) fun x10 J9 =>
if (w32 x6) < (w32 x10) then
some (0, J9)
else
some (1, J9)
else none
else
bnd (f_PT_countOf a1 J2) fun x16 J15 =>
if 0 < (w32 x16) then
some (1, J15)
else
some (0, J15)
set_option maxRecDepth 20000 in
theorem R_PT_isWorth (Z : ZT) (a1 : Int) (I : Mem) (r : Int) (J : Mem) (hf : f_PT_isWorth a1 I = some (r, J)) : Runs Z yX3_isWorth cX3_isWorth 2 (some .boolean) 2 [vr Z 4 0, vi a1] I (some (vi r), J) := by
  refine Runs.of (rv := fun x => some (vi x)) (by decide +kernel) (Nat.le_of_ble_eq_true rfl) hf (fun gr => ?_)
  unfold f_PT_isWorth
  refine WQ.loc [0, 1] (lv' := [(0, vr Z 4 0), (1, vi a1)]) rfl ?_
  refine wq_aload_n dX3_isWorth_0 0 rfl rfl ?_
  refine wq_iload_n dX3_isWorth_1 1 rfl rfl ?_
  refine wq_cVi M_PT_keptOf (R_PT_keptOf Z a1 _) ob_4 rfl rfl (by decide) (by decide) (Nat.le_of_ble_eq_true rfl) ln_RX3_73 dX3_isWorth_2 (fun gr1 x3 J2 => ?_)
  refine wq_iconst dX3_isWorth_5 ?_
  refine wq_icmp_eq 23 dX3_isWorth_6 (by decide) rfl rfl (fun c18 => ?_) (fun c18 => ?_)
  · refine wq_aload_n dX3_isWorth_23 0 rfl rfl ?_
    refine g_4_6 ln_RX3_41 dX3_isWorth_24 ?_
    refine wq_if_eq 57 dX3_isWorth_27 (by decide) rfl (fun c13 => ?_) (fun c13 => ?_)
    · refine wq_iconst dX3_isWorth_57 ?_
      exact wq_zret rfl (by decide) rfl dX3_isWorth_58
    · refine wq_aload_n dX3_isWorth_30 0 rfl rfl ?_
      refine g_4_5 ln_RX3_31 dX3_isWorth_31 ?_
      refine wq_ifnull 57 dX3_isWorth_34 (by decide) (fun c12 => ?_) (fun c12 => ?_)
      · refine wq_iconst dX3_isWorth_57 ?_
        exact wq_zret rfl (by decide) rfl dX3_isWorth_58
      · refine wq_aload_n dX3_isWorth_37 0 rfl rfl ?_
        refine wq_iload_n dX3_isWorth_38 1 rfl rfl ?_
        refine wq_cVi M_PT_countOf (R_PT_countOf Z a1 _) ob_4 rfl rfl (by decide) (by decide) (Nat.le_of_ble_eq_true rfl) ln_RX3_77 dX3_isWorth_39 (fun gr4 x6 J5 => ?_)
        refine wq_aload_n dX3_isWorth_42 0 rfl rfl ?_
        refine g_4_5 ln_RX3_31 dX3_isWorth_43 ?_
        refine wq_grd (fun g7 => ?_)
        refine WQ.nn g7.1 ?_
        refine wq_iconst dX3_isWorth_46 ?_
        refine wq_cVi M_G_number (R_G_number Z ((J5 4 0 5).toNat) 4 _) (ob_1 g7.2) rfl rfl (by decide) (by decide) (Nat.le_of_ble_eq_true rfl) ln_RX3_80 dX3_isWorth_47 (fun gr8 x10 J9 => ?_)
        refine wq_icmp_lt 57 dX3_isWorth_50 (by decide) rfl rfl (fun c11 => ?_) (fun c11 => ?_)
        · refine wq_iconst dX3_isWorth_57 ?_
          exact wq_zret rfl (by decide) rfl dX3_isWorth_58
        · refine wq_iconst dX3_isWorth_53 ?_
          refine wq_goto 58 dX3_isWorth_54 (by decide) ?_
          exact wq_zret rfl (by decide) rfl dX3_isWorth_58
  · refine wq_aload_n dX3_isWorth_9 0 rfl rfl ?_
    refine wq_iload_n dX3_isWorth_10 1 rfl rfl ?_
    refine wq_cVi M_PT_countOf (R_PT_countOf Z a1 _) ob_4 rfl rfl (by decide) (by decide) (Nat.le_of_ble_eq_true rfl) ln_RX3_77 dX3_isWorth_11 (fun gr14 x16 J15 => ?_)
    refine wq_if_le 21 dX3_isWorth_14 (by decide) rfl (fun c17 => ?_) (fun c17 => ?_)
    · refine wq_iconst dX3_isWorth_17 ?_
      refine wq_goto 22 dX3_isWorth_18 (by decide) ?_
      exact wq_zret rfl (by decide) rfl dX3_isWorth_22
    · refine wq_iconst dX3_isWorth_21 ?_
      exact wq_zret rfl (by decide) rfl dX3_isWorth_22

theorem ln_RX3_24 : Cond.fieldLink RX3 24 RX3 "best" "I" ∈ lw_good := li_1 109 (by decide +kernel) (by decide +kernel)
noncomputable def f_PT_bestPair  (I : Mem) : Option ((Int) × Mem) :=
some ((I 4 0 7), I)
set_option maxRecDepth 20000 in
theorem R_PT_bestPair (Z : ZT)  (I : Mem) (r : Int) (J : Mem) (hf : f_PT_bestPair I = some (r, J)) : Runs Z yX3_bestPair cX3_bestPair 1 (some .int) 1 [vr Z 4 0] I (some (vi r), J) := by
  refine Runs.of (rv := fun x => some (vi x)) (by decide +kernel) (Nat.le_of_ble_eq_true rfl) hf (fun gr => ?_)
  unfold f_PT_bestPair
  refine WQ.loc [0] (lv' := [(0, vr Z 4 0)]) rfl ?_
  refine wq_aload_n dX3_bestPair_0 0 rfl rfl ?_
  refine g_4_7 ln_RX3_24 dX3_bestPair_1 ?_
  exact wq_iret rfl rfl dX3_bestPair_4

theorem ln_RX3_83 : Cond.fieldLink RX3 83 RX3 "worth" "I" ∈ lw_good := li_1 110 (by decide +kernel) (by decide +kernel)
noncomputable def f_PT_manyWorth  (I : Mem) : Option ((Int) × Mem) :=
some ((I 4 0 8), I)
set_option maxRecDepth 20000 in
theorem R_PT_manyWorth (Z : ZT)  (I : Mem) (r : Int) (J : Mem) (hf : f_PT_manyWorth I = some (r, J)) : Runs Z yX3_manyWorth cX3_manyWorth 1 (some .int) 1 [vr Z 4 0] I (some (vi r), J) := by
  refine Runs.of (rv := fun x => some (vi x)) (by decide +kernel) (Nat.le_of_ble_eq_true rfl) hf (fun gr => ?_)
  unfold f_PT_manyWorth
  refine WQ.loc [0] (lv' := [(0, vr Z 4 0)]) rfl ?_
  refine wq_aload_n dX3_manyWorth_0 0 rfl rfl ?_
  refine g_4_8 ln_RX3_83 dX3_manyWorth_1 ?_
  exact wq_iret rfl rfl dX3_manyWorth_4

theorem ln_RX3_86 : Cond.fieldLink RX3 86 RX3 "alike" "I" ∈ lw_good := li_1 111 (by decide +kernel) (by decide +kernel)
noncomputable def f_PT_manyAsCommonAsBest  (I : Mem) : Option ((Int) × Mem) :=
some ((I 4 0 9), I)
set_option maxRecDepth 20000 in
theorem R_PT_manyAsCommonAsBest (Z : ZT)  (I : Mem) (r : Int) (J : Mem) (hf : f_PT_manyAsCommonAsBest I = some (r, J)) : Runs Z yX3_manyAsCommonAsBest cX3_manyAsCommonAsBest 1 (some .int) 1 [vr Z 4 0] I (some (vi r), J) := by
  refine Runs.of (rv := fun x => some (vi x)) (by decide +kernel) (Nat.le_of_ble_eq_true rfl) hf (fun gr => ?_)
  unfold f_PT_manyAsCommonAsBest
  refine WQ.loc [0] (lv' := [(0, vr Z 4 0)]) rfl ?_
  refine wq_aload_n dX3_manyAsCommonAsBest_0 0 rfl rfl ?_
  refine g_4_9 ln_RX3_86 dX3_manyAsCommonAsBest_1 ?_
  exact wq_iret rfl rfl dX3_manyAsCommonAsBest_4

theorem ln_RX3_89 : Cond.fieldLink RX3 89 RX3 "manyTouched" "I" ∈ lw_good := li_1 106 (by decide +kernel) (by decide +kernel)
theorem ln_RX3_21 : Cond.fieldLink RX3 21 RX3 "touched" "[I" ∈ lw_good := li_1 105 (by decide +kernel) (by decide +kernel)
noncomputable def f_PT_clear_w2  (s : Int) (I : Mem) : Option (((Int) ⊕ (Unit)) × Mem) :=
if (w32 s) < (w32 (I 4 0 4)) then
if 0 ≤ (w32 s) ∧ (w32 s) < 4356 then
if 0 ≤ (w32 (I 16 3 (w32 s).toNat)) ∧ (w32 (I 16 3 (w32 s).toNat)) < 4356 then
ltI (sI I 16 0 (w32 (I 16 3 (w32 s).toNat)).toNat 0) fun J3 =>
if 0 ≤ (w32 (J3 16 3 (w32 s).toNat)) ∧ (w32 (J3 16 3 (w32 s).toNat)) < 4356 then
ltI (sI J3 16 2 (w32 (J3 16 3 (w32 s).toNat)).toNat (-1)) fun J5 =>
some (.inl (s + 1), J5)
else none
else none
else none
else
some (.inr (), I)

noncomputable def f_PT_clear  (I : Mem) : Option ((Unit) × Mem) :=
bnd (whl (f_PT_clear_w2) 0 I) fun r20 J21 =>
ltI (sI J21 4 0 4 0) fun J23 =>
some ((), J23)
set_option maxRecDepth 20000 in
theorem R_PT_clear (Z : ZT)  (I : Mem) (r : Unit) (J : Mem) (hf : f_PT_clear I = some (r, J)) : Runs Z yX3_clear cX3_clear 2 (none) 1 [vr Z 4 0] I (none, J) := by
  refine Runs.of (rv := fun _ => none) (by decide +kernel) (Nat.le_of_ble_eq_true rfl) hf (fun gr => ?_)
  unfold f_PT_clear
  refine WQ.loc [0] (lv' := [(0, vr Z 4 0)]) rfl ?_
  refine wq_iconst dX3_clear_0 ?_
  refine wq_istore_n (lv' := [(1, vi 0), (0, vr Z 4 0)]) dX3_clear_1 rfl (by decide) rfl ?_
  refine WQ.loc [1, 0] (lv' := [(0, vr Z 4 0), (1, vi 0)]) rfl ?_
  refine wq_loopS (fun s13 => [(0, vr Z 4 0), (1, vi s13)]) 40 (fun _ => [(0, vr Z 4 0)]) (fun κ7 bk8 ex9 gr12 s13 J11 => ?_) (fun gr22 r20 J21 => ?_) gr _ rfl
  · unfold f_PT_clear_w2
    refine wq_iload_n dX3_clear_2 1 rfl rfl ?_
    refine wq_aload_n dX3_clear_3 0 rfl rfl ?_
    refine g_4_4 ln_RX3_89 dX3_clear_4 ?_
    refine wq_icmp_ge 40 dX3_clear_7 (by decide) rfl rfl (fun c19 => ?_) (fun c19 => ?_)
    · refine wq_aload_n dX3_clear_10 0 rfl rfl ?_
      refine g_4_0 ln_RX3_11 dX3_clear_11 ?_
      refine wq_aload_n dX3_clear_14 0 rfl rfl ?_
      refine g_4_3 ln_RX3_21 dX3_clear_15 ?_
      refine wq_iload_n dX3_clear_18 1 rfl rfl ?_
      refine wq_grd (fun g14 => ?_)
      refine wq_iald (k := 16) (i := 3) rfl (by decide) rfl rfl (m := 4356) g14 (Nat.le_refl _) dX3_clear_19 ?_
      refine wq_iconst dX3_clear_20 ?_
      refine wq_grd (fun g15 => ?_)
      refine wq_iast (k := 16) (i := 0) (fun _ _ => rfl) (by decide) rfl rfl (m := 4356) g15 (Nat.le_refl _) (by decide) (by decide) (by decide) dX3_clear_21 (fun J16 => ?_)
      refine wq_aload_n dX3_clear_22 0 rfl rfl ?_
      refine g_4_2 ln_RX3_18 dX3_clear_23 ?_
      refine wq_aload_n dX3_clear_26 0 rfl rfl ?_
      refine g_4_3 ln_RX3_21 dX3_clear_27 ?_
      refine wq_iload_n dX3_clear_30 1 rfl rfl ?_
      refine wq_iald (k := 16) (i := 3) rfl (by decide) rfl rfl (m := 4356) g14 (Nat.le_refl _) dX3_clear_31 ?_
      refine wq_iconst dX3_clear_32 ?_
      refine wq_grd (fun g17 => ?_)
      refine wq_iast (k := 16) (i := 2) (fun _ _ => rfl) (by decide) rfl rfl (m := 4356) g17 (Nat.le_refl _) (by decide) (by decide) (by decide) dX3_clear_33 (fun J18 => ?_)
      refine wq_iinc (lv' := [(1, vi (s13 + 1)), (0, vr Z 4 0)]) dX3_clear_34 1 rfl (by decide) rfl ?_
      refine wq_goto 2 dX3_clear_37 (by decide) ?_
      exact WQ.loc [1, 0] rfl (bk8 _ _ _)
    · exact WQ.loc [0] rfl (ex9 _ _ _)
  · refine wq_aload_n dX3_clear_40 0 rfl rfl ?_
    refine wq_iconst dX3_clear_41 ?_
    refine p_4_4 ln_RX3_89 dX3_clear_42 (fun J23 => ?_)
    exact wq_vret rfl rfl dX3_clear_45

noncomputable def f_PT_touch (a1 : Int) (I : Mem) : Option ((Unit) × Mem) :=
if 0 ≤ (w32 a1) ∧ (w32 a1) < 4356 then
if (w32 (I 16 0 (w32 a1).toNat)) = 0 then
if (w32 (I 16 2 (w32 a1).toNat)) = (-1) then
if (w32 (I 4 0 4)) < 4356 then
if 0 ≤ (w32 (I 4 0 4)) ∧ (w32 (I 4 0 4)) < 4356 then
ltI (sI I 16 3 (w32 (I 4 0 4)).toNat a1) fun J3 =>
ltI (sI J3 4 0 4 ((J3 4 0 4) + 1)) fun J4 =>
some ((), J4)
else none
else
some ((), I)
else
some ((), I)
else
some ((), I)
else none
set_option maxRecDepth 20000 in
theorem R_PT_touch (Z : ZT) (a1 : Int) (I : Mem) (r : Unit) (J : Mem) (hf : f_PT_touch a1 I = some (r, J)) : Runs Z yX3_touch cX3_touch 2 (none) 1 [vr Z 4 0, vi a1] I (none, J) := by
  refine Runs.of (rv := fun _ => none) (by decide +kernel) (Nat.le_of_ble_eq_true rfl) hf (fun gr => ?_)
  unfold f_PT_touch
  refine WQ.loc [0, 1] (lv' := [(0, vr Z 4 0), (1, vi a1)]) rfl ?_
  refine wq_aload_n dX3_touch_0 0 rfl rfl ?_
  refine g_4_0 ln_RX3_11 dX3_touch_1 ?_
  refine wq_iload_n dX3_touch_4 1 rfl rfl ?_
  refine wq_grd (fun g1 => ?_)
  refine wq_iald (k := 16) (i := 0) rfl (by decide) rfl rfl (m := 4356) g1 (Nat.le_refl _) dX3_touch_5 ?_
  refine wq_if_ne 49 dX3_touch_6 (by decide) rfl (fun c7 => ?_) (fun c7 => ?_)
  · refine wq_aload_n dX3_touch_9 0 rfl rfl ?_
    refine g_4_2 ln_RX3_18 dX3_touch_10 ?_
    refine wq_iload_n dX3_touch_13 1 rfl rfl ?_
    refine wq_iald (k := 16) (i := 2) rfl (by decide) rfl rfl (m := 4356) g1 (Nat.le_refl _) dX3_touch_14 ?_
    refine wq_iconst dX3_touch_15 ?_
    refine wq_icmp_ne 49 dX3_touch_16 (by decide) rfl rfl (fun c6 => ?_) (fun c6 => ?_)
    · refine wq_aload_n dX3_touch_19 0 rfl rfl ?_
      refine g_4_4 ln_RX3_89 dX3_touch_20 ?_
      refine wq_sipush dX3_touch_23 (by decide) ?_
      refine wq_icmp_ge 49 dX3_touch_26 (by decide) rfl rfl (fun c5 => ?_) (fun c5 => ?_)
      · refine wq_aload_n dX3_touch_29 0 rfl rfl ?_
        refine g_4_3 ln_RX3_21 dX3_touch_30 ?_
        refine wq_aload_n dX3_touch_33 0 rfl rfl ?_
        refine g_4_4 ln_RX3_89 dX3_touch_34 ?_
        refine wq_iload_n dX3_touch_37 1 rfl rfl ?_
        refine wq_grd (fun g2 => ?_)
        refine wq_iast (k := 16) (i := 3) (fun _ _ => rfl) (by decide) rfl rfl (m := 4356) g2 (Nat.le_refl _) (by decide) (by decide) (by decide) dX3_touch_38 (fun J3 => ?_)
        refine wq_aload_n dX3_touch_39 0 rfl rfl ?_
        refine wq_dup dX3_touch_40 rfl ?_
        refine g_4_4 ln_RX3_89 dX3_touch_41 ?_
        refine wq_iconst dX3_touch_44 ?_
        refine wq_iadd dX3_touch_45 ?_
        refine p_4_4 ln_RX3_89 dX3_touch_46 (fun J4 => ?_)
        exact wq_vret rfl rfl dX3_touch_49
      · exact wq_vret rfl rfl dX3_touch_49
    · exact wq_vret rfl rfl dX3_touch_49
  · exact wq_vret rfl rfl dX3_touch_49

theorem M_PT_pairOf : MwV yX3_pairOf cX3_pairOf 3 (some .int) 2 := ⟨li_4 56 (by decide +kernel) (by decide +kernel), li_4 54 (by decide +kernel) (by decide +kernel), li_4 55 (by decide +kernel) (by decide +kernel), li_1 5 (by decide +kernel) (by decide +kernel), by decide +kernel⟩
theorem M_PT_touch : MwV yX3_touch cX3_touch 2 (none) 1 := ⟨li_4 63 (by decide +kernel) (by decide +kernel), li_4 62 (by decide +kernel) (by decide +kernel), lw_in 26 (by decide +kernel) (by decide +kernel), li_1 5 (by decide +kernel) (by decide +kernel), by decide +kernel⟩
theorem ln_RX3_99 : Cond.methodLink RX3 99 yX3_touch ∈ lw_good := li_4 60 (by decide +kernel) (by decide +kernel)
theorem ln_RX3_95 : Cond.methodLink RX3 95 yX3_pairOf ∈ lw_good := li_4 53 (by decide +kernel) (by decide +kernel)
theorem ln_RX3_92 : Cond.methodLink RX3 92 yX5_at ∈ lw_good := li_4 52 (by decide +kernel) (by decide +kernel)
noncomputable def f_PT_noteKept (a1 : Int) (a2 : Nat) (I : Mem) : Option ((Unit) × Mem) :=
if a2 < 516 then
bnd (f_Row_at a2 0 I) fun x3 J2 =>
bnd (f_Row_at a2 1 J2) fun x6 J5 =>
bnd (f_PT_pairOf x3 x6 J5) fun x9 J8 =>
if (w32 x9) = (-1) then
some ((), J8)
else
if 0 ≤ (w32 x9) ∧ (w32 x9) < 4356 then
if (w32 (J8 16 2 (w32 x9).toNat)) = (-1) then
bnd (f_PT_touch x9 J8) fun _ J12 =>
ltI (sI J12 16 2 (w32 x9).toNat a1) fun J14 =>
some ((), J14)
else
some ((), J8)
else none
else none
set_option maxRecDepth 20000 in
theorem R_PT_noteKept (Z : ZT) (a1 : Int) (a2 : Nat) (I : Mem) (r : Unit) (J : Mem) (hf : f_PT_noteKept a1 a2 I = some (r, J)) : Runs Z yX3_noteKept cX3_noteKept 4 (none) 3 [vr Z 4 0, vi a1, vr Z 2 a2] I (none, J) := by
  refine Runs.of (rv := fun _ => none) (by decide +kernel) (Nat.le_of_ble_eq_true rfl) hf (fun gr => ?_)
  unfold f_PT_noteKept
  refine WQ.loc [0, 1, 2] (lv' := [(0, vr Z 4 0), (1, vi a1), (2, vr Z 2 a2)]) rfl ?_
  refine wq_grd (fun h2 => ?_)
  refine wq_aload_n dX3_noteKept_0 0 rfl rfl ?_
  refine wq_aload_n dX3_noteKept_1 2 rfl rfl ?_
  refine wq_iconst dX3_noteKept_2 ?_
  refine wq_cVi M_Row_at (R_Row_at Z a2 0 _) (ob_2 h2) rfl rfl (by decide) (by decide) (Nat.le_of_ble_eq_true rfl) ln_RX3_92 dX3_noteKept_3 (fun gr1 x3 J2 => ?_)
  refine wq_aload_n dX3_noteKept_6 2 rfl rfl ?_
  refine wq_iconst dX3_noteKept_7 ?_
  refine wq_cVi M_Row_at (R_Row_at Z a2 1 _) (ob_2 h2) rfl rfl (by decide) (by decide) (Nat.le_of_ble_eq_true rfl) ln_RX3_92 dX3_noteKept_8 (fun gr4 x6 J5 => ?_)
  refine wq_cVi M_PT_pairOf (R_PT_pairOf Z x3 x6 _) ob_4 rfl rfl (by decide) (by decide) (Nat.le_of_ble_eq_true rfl) ln_RX3_95 dX3_noteKept_11 (fun gr7 x9 J8 => ?_)
  refine wq_istore_n (lv' := [(3, vi x9), (0, vr Z 4 0), (1, vi a1), (2, vr Z 2 a2)]) dX3_noteKept_14 rfl (by decide) rfl ?_
  refine wq_iload_n dX3_noteKept_15 0 rfl rfl ?_
  refine wq_iconst dX3_noteKept_16 ?_
  refine wq_icmp_eq 42 dX3_noteKept_17 (by decide) rfl rfl (fun c16 => ?_) (fun c16 => ?_)
  · exact wq_vret rfl rfl dX3_noteKept_42
  · refine wq_aload_n dX3_noteKept_20 1 rfl rfl ?_
    refine g_4_2 ln_RX3_18 dX3_noteKept_21 ?_
    refine wq_iload_n dX3_noteKept_24 0 rfl rfl ?_
    refine wq_grd (fun g10 => ?_)
    refine wq_iald (k := 16) (i := 2) rfl (by decide) rfl rfl (m := 4356) g10 (Nat.le_refl _) dX3_noteKept_25 ?_
    refine wq_iconst dX3_noteKept_26 ?_
    refine wq_icmp_ne 42 dX3_noteKept_27 (by decide) rfl rfl (fun c15 => ?_) (fun c15 => ?_)
    · refine wq_aload_n dX3_noteKept_30 1 rfl rfl ?_
      refine wq_iload_n dX3_noteKept_31 0 rfl rfl ?_
      refine wq_cVv M_PT_touch (R_PT_touch Z x9 _) ob_4 rfl rfl (by decide) (by decide) (Nat.le_of_ble_eq_true rfl) ln_RX3_99 dX3_noteKept_32 (fun gr11 _ J12 => ?_)
      refine wq_aload_n dX3_noteKept_35 1 rfl rfl ?_
      refine g_4_2 ln_RX3_18 dX3_noteKept_36 ?_
      refine wq_iload_n dX3_noteKept_39 0 rfl rfl ?_
      refine wq_iload_n dX3_noteKept_40 2 rfl rfl ?_
      refine wq_iast (k := 16) (i := 2) (fun _ _ => rfl) (by decide) rfl rfl (m := 4356) g10 (Nat.le_refl _) (by decide) (by decide) (by decide) dX3_noteKept_41 (fun J14 => ?_)
      exact wq_vret rfl rfl dX3_noteKept_42
    · exact wq_vret rfl rfl dX3_noteKept_42

theorem ln_RX3_15 : Cond.fieldLink RX3 15 RX3 "places" "[I" ∈ lw_good := li_1 103 (by decide +kernel) (by decide +kernel)
noncomputable def f_PT_notePair_j27 (v1 : Int)   (I : Mem) : Option ((Unit) × Mem) :=
if 0 ≤ (w32 v1) ∧ (w32 v1) < 4356 then
ltI (sI I 16 0 (w32 v1).toNat ((I 16 0 (w32 v1).toNat) + 1)) fun J9 =>
some ((), J9)
else none

noncomputable def f_PT_notePair (a1 : Int) (a2 : Int) (I : Mem) : Option ((Unit) × Mem) :=
if (w32 a1) = (-1) then
some ((), I)
else
bnd (f_PT_touch a1 I) fun _ J2 =>
if 0 ≤ (w32 a1) ∧ (w32 a1) < 4356 then
if (w32 (J2 16 0 (w32 a1).toNat)) = 0 then
ltI (sI J2 16 1 (w32 a1).toNat a2) fun J6 =>
f_PT_notePair_j27 a1 J6
else
f_PT_notePair_j27 a1 J2
else none
set_option maxRecDepth 20000 in
theorem R_PT_notePair (Z : ZT) (a1 : Int) (a2 : Int) (I : Mem) (r : Unit) (J : Mem) (hf : f_PT_notePair a1 a2 I = some (r, J)) : Runs Z yX3_notePair cX3_notePair 3 (none) 2 [vr Z 4 0, vi a1, vi a2] I (none, J) := by
  refine Runs.of (rv := fun _ => none) (by decide +kernel) (Nat.le_of_ble_eq_true rfl) hf (fun gr => ?_)
  unfold f_PT_notePair
  refine WQ.loc [0, 1, 2] (lv' := [(0, vr Z 4 0), (1, vi a1), (2, vi a2)]) rfl ?_
  refine wq_iload_n dX3_notePair_0 1 rfl rfl ?_
  refine wq_iconst dX3_notePair_1 ?_
  refine wq_icmp_ne 6 dX3_notePair_2 (by decide) rfl rfl (fun c14 => ?_) (fun c14 => ?_)
  · exact wq_vret rfl rfl dX3_notePair_5
  · refine wq_aload_n dX3_notePair_6 0 rfl rfl ?_
    refine wq_iload_n dX3_notePair_7 1 rfl rfl ?_
    refine wq_cVv M_PT_touch (R_PT_touch Z a1 _) ob_4 rfl rfl (by decide) (by decide) (Nat.le_of_ble_eq_true rfl) ln_RX3_99 dX3_notePair_8 (fun gr1 _ J2 => ?_)
    refine wq_aload_n dX3_notePair_11 0 rfl rfl ?_
    refine g_4_0 ln_RX3_11 dX3_notePair_12 ?_
    refine wq_iload_n dX3_notePair_15 1 rfl rfl ?_
    refine wq_grd (fun g4 => ?_)
    refine wq_iald (k := 16) (i := 0) rfl (by decide) rfl rfl (m := 4356) g4 (Nat.le_refl _) dX3_notePair_16 ?_
    have hj5 : ∀ (gr11 : Nat → Nat)   (J10 : Mem), WQ Z (yX3_notePair, cX3_notePair, 3, none, 2) I gr11 27 [(0, vr Z 4 0), (1, vi a1)] [] J10 (f_PT_notePair_j27 a1 J10) (fun b K => some (.inl ((fun _ => none) b), K)) := by
      intro gr11 J10
      unfold f_PT_notePair_j27
      refine wq_aload_n dX3_notePair_27 0 rfl rfl ?_
      refine g_4_0 ln_RX3_11 dX3_notePair_28 ?_
      refine wq_iload_n dX3_notePair_31 1 rfl rfl ?_
      refine wq_dup2 dX3_notePair_32 rfl rfl ?_
      refine wq_grd (fun g12 => ?_)
      refine wq_iald (k := 16) (i := 0) rfl (by decide) rfl rfl (m := 4356) g12 (Nat.le_refl _) dX3_notePair_33 ?_
      refine wq_iconst dX3_notePair_34 ?_
      refine wq_iadd dX3_notePair_35 ?_
      refine wq_iast (k := 16) (i := 0) (fun _ _ => rfl) (by decide) rfl rfl (m := 4356) g12 (Nat.le_refl _) (by decide) (by decide) (by decide) dX3_notePair_36 (fun J13 => ?_)
      exact wq_vret rfl rfl dX3_notePair_37
    refine wq_if_ne 27 dX3_notePair_17 (by decide) rfl (fun c7 => ?_) (fun c7 => ?_)
    · refine wq_aload_n dX3_notePair_20 0 rfl rfl ?_
      refine g_4_1 ln_RX3_15 dX3_notePair_21 ?_
      refine wq_iload_n dX3_notePair_24 1 rfl rfl ?_
      refine wq_iload_n dX3_notePair_25 2 rfl rfl ?_
      refine wq_iast (k := 16) (i := 1) (fun _ _ => rfl) (by decide) rfl rfl (m := 4356) g4 (Nat.le_refl _) (by decide) (by decide) (by decide) dX3_notePair_26 (fun J6 => ?_)
      exact WQ.loc [0, 1] rfl (hj5 _   _)
    · exact WQ.loc [0, 1] rfl (hj5 _   _)

theorem M_PT_firstOf : MwV yX3_firstOf cX3_firstOf 2 (some .int) 1 := ⟨li_4 100 (by decide +kernel) (by decide +kernel), li_4 98 (by decide +kernel) (by decide +kernel), li_4 99 (by decide +kernel) (by decide +kernel), li_1 5 (by decide +kernel) (by decide +kernel), by decide +kernel⟩
theorem ln_RX3_114 : Cond.methodLink RX3 114 yX3_firstOf ∈ lw_good := li_4 97 (by decide +kernel) (by decide +kernel)
theorem M_G_lengthOf : MwV yX1_lengthOf cX1_lengthOf 2 (some .int) 1 := ⟨li_3 57 (by decide +kernel) (by decide +kernel), li_3 55 (by decide +kernel) (by decide +kernel), li_3 56 (by decide +kernel) (by decide +kernel), li_1 2 (by decide +kernel) (by decide +kernel), by decide +kernel⟩
theorem M_PT_secondOf : MwV yX3_secondOf cX3_secondOf 2 (some .int) 1 := ⟨li_4 105 (by decide +kernel) (by decide +kernel), li_4 103 (by decide +kernel) (by decide +kernel), li_4 104 (by decide +kernel) (by decide +kernel), li_1 5 (by decide +kernel) (by decide +kernel), by decide +kernel⟩
theorem ln_RX3_120 : Cond.methodLink RX3 120 yX3_secondOf ∈ lw_good := li_4 102 (by decide +kernel) (by decide +kernel)
theorem ln_RX3_117 : Cond.methodLink RX3 117 yX1_lengthOf ∈ lw_good := li_4 101 (by decide +kernel) (by decide +kernel)
noncomputable def f_PT_isAheadByTie_j18 (v1 : Int) (v2 : Int)   (I : Mem) : Option ((Int) × Mem) :=
if (w32 v1) < (w32 v2) then
some (1, I)
else
some (0, I)

noncomputable def f_PT_isAheadByTie (a1 : Int) (a2 : Int) (I : Mem) : Option ((Int) × Mem) :=
if (I 4 0 5) < 0 then
f_PT_isAheadByTie_j18 a1 a2 I
else
if 0 ≤ (I 4 0 5) ∧ (I 4 0 5).toNat < 12 then
bnd (f_G_number ((I 4 0 5).toNat) 5 I) fun x5 J4 =>
if (w32 x5) = 0 then
f_PT_isAheadByTie_j18 a1 a2 J4
else
if 0 ≤ (J4 4 0 5) ∧ (J4 4 0 5).toNat < 12 then
bnd (f_G_number ((J4 4 0 5).toNat) 5 J4) fun x9 J8 =>
if (w32 x9) = 1 then
if 0 ≤ (w32 a1) ∧ (w32 a1) < 4356 then
if 0 ≤ (w32 a2) ∧ (w32 a2) < 4356 then
if (w32 (J8 16 1 (w32 a1).toNat)) < (w32 (J8 16 1 (w32 a2).toNat)) then
some (1, J8)
else
some (0, J8)
else none
else none
else
if 0 ≤ (J8 4 0 5) ∧ (J8 4 0 5).toNat < 12 then
bnd (f_G_lengthOf ((J8 4 0 5).toNat) (idv a1 66) J8) fun x14 J13 =>
if 0 ≤ (J13 4 0 5) ∧ (J13 4 0 5).toNat < 12 then
bnd (f_G_lengthOf ((J13 4 0 5).toNat) (irm a1 66) J13) fun x19 J18 =>
if 0 ≤ (J18 4 0 5) ∧ (J18 4 0 5).toNat < 12 then
bnd (f_G_lengthOf ((J18 4 0 5).toNat) (idv a2 66) J18) fun x24 J23 =>
if 0 ≤ (J23 4 0 5) ∧ (J23 4 0 5).toNat < 12 then
bnd (f_G_lengthOf ((J23 4 0 5).toNat) (irm a2 66) J23) fun x29 J28 =>
if (w32 (((x14 + x19) - x24) - x29)) = 0 then
if (w32 a1) < (w32 a2) then
some (1, J28)
else
some (0, J28)
else
if 0 < (w32 (((x14 + x19) - x24) - x29)) then
some (1, J28)
else
some (0, J28)
else none
else none
else none
else none
else none
else none
set_option maxRecDepth 20000 in
theorem R_PT_isAheadByTie (Z : ZT) (a1 : Int) (a2 : Int) (I : Mem) (r : Int) (J : Mem) (hf : f_PT_isAheadByTie a1 a2 I = some (r, J)) : Runs Z yX3_isAheadByTie cX3_isAheadByTie 4 (some .boolean) 2 [vr Z 4 0, vi a1, vi a2] I (some (vi r), J) := by
  refine Runs.of (rv := fun x => some (vi x)) (by decide +kernel) (Nat.le_of_ble_eq_true rfl) hf (fun gr => ?_)
  unfold f_PT_isAheadByTie
  refine WQ.loc [0, 1, 2] (lv' := [(0, vr Z 4 0), (1, vi a1), (2, vi a2)]) rfl ?_
  refine wq_aload_n dX3_isAheadByTie_0 0 rfl rfl ?_
  refine g_4_5 ln_RX3_31 dX3_isAheadByTie_1 ?_
  have hj1 : ∀ (gr41 : Nat → Nat)   (J40 : Mem), WQ Z (yX3_isAheadByTie, cX3_isAheadByTie, 4, some .boolean, 2) I gr41 18 [(1, vi a1), (2, vi a2)] [] J40 (f_PT_isAheadByTie_j18 a1 a2 J40) (fun b K => some (.inl ((fun x => some (vi x)) b), K)) := by
    intro gr41 J40
    unfold f_PT_isAheadByTie_j18
    refine wq_iload_n dX3_isAheadByTie_18 0 rfl rfl ?_
    refine wq_iload_n dX3_isAheadByTie_19 1 rfl rfl ?_
    refine wq_icmp_ge 27 dX3_isAheadByTie_20 (by decide) rfl rfl (fun c42 => ?_) (fun c42 => ?_)
    · refine wq_iconst dX3_isAheadByTie_23 ?_
      refine wq_goto 28 dX3_isAheadByTie_24 (by decide) ?_
      exact wq_zret rfl (by decide) rfl dX3_isAheadByTie_28
    · refine wq_iconst dX3_isAheadByTie_27 ?_
      exact wq_zret rfl (by decide) rfl dX3_isAheadByTie_28
  refine wq_ifnull 18 dX3_isAheadByTie_4 (by decide) (fun c38 => ?_) (fun c38 => ?_)
  · exact WQ.loc [1, 2] rfl (hj1 _   _)
  · refine wq_aload_n dX3_isAheadByTie_7 0 rfl rfl ?_
    refine g_4_5 ln_RX3_31 dX3_isAheadByTie_8 ?_
    refine wq_grd (fun g2 => ?_)
    refine WQ.nn g2.1 ?_
    refine wq_iconst dX3_isAheadByTie_11 ?_
    refine wq_cVi M_G_number (R_G_number Z ((I 4 0 5).toNat) 5 _) (ob_1 g2.2) rfl rfl (by decide) (by decide) (Nat.le_of_ble_eq_true rfl) ln_RX3_80 dX3_isAheadByTie_12 (fun gr3 x5 J4 => ?_)
    refine wq_if_ne 29 dX3_isAheadByTie_15 (by decide) rfl (fun c37 => ?_) (fun c37 => ?_)
    · exact WQ.loc [1, 2] rfl (hj1 _   _)
    · refine wq_aload_n dX3_isAheadByTie_29 0 rfl rfl ?_
      refine g_4_5 ln_RX3_31 dX3_isAheadByTie_30 ?_
      refine wq_grd (fun g6 => ?_)
      refine WQ.nn g6.1 ?_
      refine wq_iconst dX3_isAheadByTie_33 ?_
      refine wq_cVi M_G_number (R_G_number Z ((J4 4 0 5).toNat) 5 _) (ob_1 g6.2) rfl rfl (by decide) (by decide) (Nat.le_of_ble_eq_true rfl) ln_RX3_80 dX3_isAheadByTie_34 (fun gr7 x9 J8 => ?_)
      refine wq_iconst dX3_isAheadByTie_37 ?_
      refine wq_icmp_ne 62 dX3_isAheadByTie_38 (by decide) rfl rfl (fun c36 => ?_) (fun c36 => ?_)
      · refine wq_aload_n dX3_isAheadByTie_41 0 rfl rfl ?_
        refine g_4_1 ln_RX3_15 dX3_isAheadByTie_42 ?_
        refine wq_iload_n dX3_isAheadByTie_45 1 rfl rfl ?_
        refine wq_grd (fun g33 => ?_)
        refine wq_iald (k := 16) (i := 1) rfl (by decide) rfl rfl (m := 4356) g33 (Nat.le_refl _) dX3_isAheadByTie_46 ?_
        refine wq_aload_n dX3_isAheadByTie_47 0 rfl rfl ?_
        refine g_4_1 ln_RX3_15 dX3_isAheadByTie_48 ?_
        refine wq_iload_n dX3_isAheadByTie_51 2 rfl rfl ?_
        refine wq_grd (fun g34 => ?_)
        refine wq_iald (k := 16) (i := 1) rfl (by decide) rfl rfl (m := 4356) g34 (Nat.le_refl _) dX3_isAheadByTie_52 ?_
        refine wq_icmp_ge 60 dX3_isAheadByTie_53 (by decide) rfl rfl (fun c35 => ?_) (fun c35 => ?_)
        · refine wq_iconst dX3_isAheadByTie_56 ?_
          refine wq_goto 61 dX3_isAheadByTie_57 (by decide) ?_
          exact wq_zret rfl (by decide) rfl dX3_isAheadByTie_61
        · refine wq_iconst dX3_isAheadByTie_60 ?_
          exact wq_zret rfl (by decide) rfl dX3_isAheadByTie_61
      · refine wq_aload_n dX3_isAheadByTie_62 0 rfl rfl ?_
        refine g_4_5 ln_RX3_31 dX3_isAheadByTie_63 ?_
        refine wq_grd (fun g10 => ?_)
        refine WQ.nn g10.1 ?_
        refine wq_aload_n dX3_isAheadByTie_66 0 rfl rfl ?_
        refine wq_iload_n dX3_isAheadByTie_67 1 rfl rfl ?_
        refine wq_pV (v := vi (idv a1 66)) M_PT_firstOf (R_PT_firstOf Z a1 _ _ _ rfl) ob_4 rfl rfl (by decide) (by decide) (Nat.le_of_ble_eq_true rfl) ln_RX3_114 dX3_isAheadByTie_68 (fun gr11 => ?_)
        refine wq_cVi M_G_lengthOf (R_G_lengthOf Z ((J8 4 0 5).toNat) (idv a1 66) _) (ob_1 g10.2) rfl rfl (by decide) (by decide) (Nat.le_of_ble_eq_true rfl) ln_RX3_117 dX3_isAheadByTie_71 (fun gr12 x14 J13 => ?_)
        refine wq_aload_n dX3_isAheadByTie_74 0 rfl rfl ?_
        refine g_4_5 ln_RX3_31 dX3_isAheadByTie_75 ?_
        refine wq_grd (fun g15 => ?_)
        refine WQ.nn g15.1 ?_
        refine wq_aload_n dX3_isAheadByTie_78 0 rfl rfl ?_
        refine wq_iload_n dX3_isAheadByTie_79 1 rfl rfl ?_
        refine wq_pV (v := vi (irm a1 66)) M_PT_secondOf (R_PT_secondOf Z a1 _ _ _ rfl) ob_4 rfl rfl (by decide) (by decide) (Nat.le_of_ble_eq_true rfl) ln_RX3_120 dX3_isAheadByTie_80 (fun gr16 => ?_)
        refine wq_cVi M_G_lengthOf (R_G_lengthOf Z ((J13 4 0 5).toNat) (irm a1 66) _) (ob_1 g15.2) rfl rfl (by decide) (by decide) (Nat.le_of_ble_eq_true rfl) ln_RX3_117 dX3_isAheadByTie_83 (fun gr17 x19 J18 => ?_)
        refine wq_iadd dX3_isAheadByTie_86 ?_
        refine wq_aload_n dX3_isAheadByTie_87 0 rfl rfl ?_
        refine g_4_5 ln_RX3_31 dX3_isAheadByTie_88 ?_
        refine wq_grd (fun g20 => ?_)
        refine WQ.nn g20.1 ?_
        refine wq_aload_n dX3_isAheadByTie_91 0 rfl rfl ?_
        refine wq_iload_n dX3_isAheadByTie_92 2 rfl rfl ?_
        refine wq_pV (v := vi (idv a2 66)) M_PT_firstOf (R_PT_firstOf Z a2 _ _ _ rfl) ob_4 rfl rfl (by decide) (by decide) (Nat.le_of_ble_eq_true rfl) ln_RX3_114 dX3_isAheadByTie_93 (fun gr21 => ?_)
        refine wq_cVi M_G_lengthOf (R_G_lengthOf Z ((J18 4 0 5).toNat) (idv a2 66) _) (ob_1 g20.2) rfl rfl (by decide) (by decide) (Nat.le_of_ble_eq_true rfl) ln_RX3_117 dX3_isAheadByTie_96 (fun gr22 x24 J23 => ?_)
        refine wq_isub dX3_isAheadByTie_99 ?_
        refine wq_aload_n dX3_isAheadByTie_100 0 rfl rfl ?_
        refine g_4_5 ln_RX3_31 dX3_isAheadByTie_101 ?_
        refine wq_grd (fun g25 => ?_)
        refine WQ.nn g25.1 ?_
        refine wq_aload_n dX3_isAheadByTie_104 0 rfl rfl ?_
        refine wq_iload_n dX3_isAheadByTie_105 2 rfl rfl ?_
        refine wq_pV (v := vi (irm a2 66)) M_PT_secondOf (R_PT_secondOf Z a2 _ _ _ rfl) ob_4 rfl rfl (by decide) (by decide) (Nat.le_of_ble_eq_true rfl) ln_RX3_120 dX3_isAheadByTie_106 (fun gr26 => ?_)
        refine wq_cVi M_G_lengthOf (R_G_lengthOf Z ((J23 4 0 5).toNat) (irm a2 66) _) (ob_1 g25.2) rfl rfl (by decide) (by decide) (Nat.le_of_ble_eq_true rfl) ln_RX3_117 dX3_isAheadByTie_109 (fun gr27 x29 J28 => ?_)
        refine wq_isub dX3_isAheadByTie_112 ?_
        refine wq_istore_n (lv' := [(3, vi (((x14 + x19) - x24) - x29)), (0, vr Z 4 0), (1, vi a1), (2, vi a2)]) dX3_isAheadByTie_113 rfl (by decide) rfl ?_
        refine wq_iload_n dX3_isAheadByTie_114 0 rfl rfl ?_
        refine wq_if_ne 131 dX3_isAheadByTie_115 (by decide) rfl (fun c32 => ?_) (fun c32 => ?_)
        · refine wq_iload_n dX3_isAheadByTie_118 2 rfl rfl ?_
          refine wq_iload_n dX3_isAheadByTie_119 3 rfl rfl ?_
          refine wq_icmp_ge 127 dX3_isAheadByTie_120 (by decide) rfl rfl (fun c31 => ?_) (fun c31 => ?_)
          · refine wq_iconst dX3_isAheadByTie_123 ?_
            refine wq_goto 140 dX3_isAheadByTie_124 (by decide) ?_
            exact wq_zret rfl (by decide) rfl dX3_isAheadByTie_140
          · refine wq_iconst dX3_isAheadByTie_127 ?_
            refine wq_goto 140 dX3_isAheadByTie_128 (by decide) ?_
            exact wq_zret rfl (by decide) rfl dX3_isAheadByTie_140
        · refine wq_iload_n dX3_isAheadByTie_131 0 rfl rfl ?_
          refine wq_if_le 139 dX3_isAheadByTie_132 (by decide) rfl (fun c30 => ?_) (fun c30 => ?_)
          · refine wq_iconst dX3_isAheadByTie_135 ?_
            refine wq_goto 140 dX3_isAheadByTie_136 (by decide) ?_
            exact wq_zret rfl (by decide) rfl dX3_isAheadByTie_140
          · refine wq_iconst dX3_isAheadByTie_139 ?_
            exact wq_zret rfl (by decide) rfl dX3_isAheadByTie_140

theorem ln_RX10_15 : Cond.fieldLink RX10 15 RX10 "depths" "[I" ∈ lw_good := li_1 147 (by decide +kernel) (by decide +kernel)
noncomputable def f_Sv_depthOf (a1 : Int) (I : Mem) : Option ((Int) × Mem) :=
if (w32 a1) < 26 then
some (0, I)
else
if (w32 a1) < 66 then
if 0 ≤ (w32 (a1 - 26)) ∧ (w32 (a1 - 26)) < 40 then
some ((I 18 1 (w32 (a1 - 26)).toNat), I)
else none
else
some (0, I)
set_option maxRecDepth 20000 in
theorem R_Sv_depthOf (Z : ZT) (a1 : Int) (I : Mem) (r : Int) (J : Mem) (hf : f_Sv_depthOf a1 I = some (r, J)) : Runs Z yX10_depthOf cX10_depthOf 2 (some .int) 1 [vr Z 5 0, vi a1] I (some (vi r), J) := by
  refine Runs.of (rv := fun x => some (vi x)) (by decide +kernel) (Nat.le_of_ble_eq_true rfl) hf (fun gr => ?_)
  unfold f_Sv_depthOf
  refine WQ.loc [0, 1] (lv' := [(0, vr Z 5 0), (1, vi a1)]) rfl ?_
  refine wq_iload_n dX10_depthOf_0 1 rfl rfl ?_
  refine wq_bipush dX10_depthOf_1 (by decide) ?_
  refine wq_icmp_lt 24 dX10_depthOf_3 (by decide) rfl rfl (fun c3 => ?_) (fun c3 => ?_)
  · refine wq_iconst dX10_depthOf_24 ?_
    exact wq_iret rfl rfl dX10_depthOf_25
  · refine wq_iload_n dX10_depthOf_6 1 rfl rfl ?_
    refine wq_bipush dX10_depthOf_7 (by decide) ?_
    refine wq_icmp_ge 24 dX10_depthOf_9 (by decide) rfl rfl (fun c2 => ?_) (fun c2 => ?_)
    · refine wq_aload_n dX10_depthOf_12 0 rfl rfl ?_
      refine g_5_1 ln_RX10_15 dX10_depthOf_13 ?_
      refine wq_iload_n dX10_depthOf_16 1 rfl rfl ?_
      refine wq_bipush dX10_depthOf_17 (by decide) ?_
      refine wq_isub dX10_depthOf_19 ?_
      refine wq_grd (fun g1 => ?_)
      refine wq_iald (k := 18) (i := 1) rfl (by decide) rfl rfl (m := 40) g1 (by decide) dX10_depthOf_20 ?_
      refine wq_goto 25 dX10_depthOf_21 (by decide) ?_
      exact wq_iret rfl rfl dX10_depthOf_25
    · refine wq_iconst dX10_depthOf_24 ?_
      exact wq_iret rfl rfl dX10_depthOf_25

theorem ln_RX10_56 : Cond.methodLink RX10 56 yX5_many ∈ lw_good := li_5 18 (by decide +kernel) (by decide +kernel)
theorem M_Sv_depthOf : MwV yX10_depthOf cX10_depthOf 2 (some .int) 1 := ⟨li_5 165 (by decide +kernel) (by decide +kernel), li_5 163 (by decide +kernel) (by decide +kernel), li_5 164 (by decide +kernel) (by decide +kernel), li_1 6 (by decide +kernel) (by decide +kernel), by decide +kernel⟩
theorem ln_RX10_69 : Cond.methodLink RX10 69 Lib.Math.max.name ∈ lw_good := li_5 20 (by decide +kernel) (by decide +kernel)
theorem ln_RX10_66 : Cond.methodLink RX10 66 yX10_depthOf ∈ lw_good := li_5 162 (by decide +kernel) (by decide +kernel)
theorem ln_RX10_62 : Cond.methodLink RX10 62 yX5_at ∈ lw_good := li_3 133 (by decide +kernel) (by decide +kernel)
noncomputable def f_Sv_deepestIn_w4 (v1 : Nat) (s : Int × Int) (I : Mem) : Option (((Int × Int) ⊕ (Int)) × Mem) :=
if (w32 s.2) < (w32 (I 2 v1 1)) then
bnd (f_Row_at v1 s.2 I) fun x4 J3 =>
bnd (f_Sv_depthOf x4 J3) fun x7 J6 =>
some (.inl ((imx s.1 x7), (s.2 + 1)), J6)
else
some (.inr s.1, I)

noncomputable def f_Sv_deepestIn (a1 : Nat) (I : Mem) : Option ((Int) × Mem) :=
if a1 < 516 then
bnd (whl (f_Sv_deepestIn_w4 a1) (0, 0) I) fun r24 J25 =>
some (r24, J25)
else none
set_option maxRecDepth 20000 in
theorem R_Sv_deepestIn (Z : ZT) (a1 : Nat) (I : Mem) (r : Int) (J : Mem) (hf : f_Sv_deepestIn a1 I = some (r, J)) : Runs Z yX10_deepestIn cX10_deepestIn 4 (some .int) 2 [vr Z 5 0, vr Z 2 a1] I (some (vi r), J) := by
  refine Runs.of (rv := fun x => some (vi x)) (by decide +kernel) (Nat.le_of_ble_eq_true rfl) hf (fun gr => ?_)
  unfold f_Sv_deepestIn
  refine WQ.loc [0, 1] (lv' := [(0, vr Z 5 0), (1, vr Z 2 a1)]) rfl ?_
  refine wq_grd (fun h1 => ?_)
  refine wq_iconst dX10_deepestIn_0 ?_
  refine wq_istore_n (lv' := [(2, vi 0), (0, vr Z 5 0), (1, vr Z 2 a1)]) dX10_deepestIn_1 rfl (by decide) rfl ?_
  refine wq_iconst dX10_deepestIn_2 ?_
  refine wq_istore_n (lv' := [(3, vi 0), (2, vi 0), (0, vr Z 5 0), (1, vr Z 2 a1)]) dX10_deepestIn_3 rfl (by decide) rfl ?_
  refine WQ.loc [2, 3, 1, 0] (lv' := [(0, vr Z 5 0), (1, vr Z 2 a1), (2, vi 0), (3, vi 0)]) rfl ?_
  refine wq_loopS (fun s15 => [(0, vr Z 5 0), (1, vr Z 2 a1), (2, vi s15.1), (3, vi s15.2)]) 32 (fun r24 => [(2, vi r24)]) (fun κ9 bk10 ex11 gr14 s15 J13 => ?_) (fun gr26 r24 J25 => ?_) gr _ rfl
  · unfold f_Sv_deepestIn_w4
    refine wq_iload_n dX10_deepestIn_4 3 rfl rfl ?_
    refine wq_aload_n dX10_deepestIn_5 1 rfl rfl ?_
    refine wq_pV (v := vi (J13 2 a1 1)) M_Row_many (R_Row_many Z a1 _ _ _ (if_pos h1)) (ob_2 h1) rfl rfl (by decide) (by decide) (Nat.le_of_ble_eq_true rfl) ln_RX10_56 dX10_deepestIn_6 (fun gr16 => ?_)
    refine wq_icmp_ge 32 dX10_deepestIn_9 (by decide) rfl rfl (fun c23 => ?_) (fun c23 => ?_)
    · refine wq_iload_n dX10_deepestIn_12 2 rfl rfl ?_
      refine wq_aload_n dX10_deepestIn_13 0 rfl rfl ?_
      refine wq_aload_n dX10_deepestIn_14 1 rfl rfl ?_
      refine wq_iload_n dX10_deepestIn_15 3 rfl rfl ?_
      refine wq_cVi M_Row_at (R_Row_at Z a1 s15.2 _) (ob_2 h1) rfl rfl (by decide) (by decide) (Nat.le_of_ble_eq_true rfl) ln_RX10_62 dX10_deepestIn_16 (fun gr17 x19 J18 => ?_)
      refine wq_cVi M_Sv_depthOf (R_Sv_depthOf Z x19 _) ob_5 rfl rfl (by decide) (by decide) (Nat.le_of_ble_eq_true rfl) ln_RX10_66 dX10_deepestIn_19 (fun gr20 x22 J21 => ?_)
      refine wq_max (by decide) (Nat.le_of_ble_eq_true rfl) ln_RX10_69 mt_max_s mt_i mt_max_c dX10_deepestIn_22 ?_
      refine wq_istore_n (lv' := [(2, vi (imx s15.1 x22)), (0, vr Z 5 0), (1, vr Z 2 a1), (3, vi s15.2)]) dX10_deepestIn_25 rfl (by decide) rfl ?_
      refine wq_iinc (lv' := [(3, vi (s15.2 + 1)), (2, vi (imx s15.1 x22)), (0, vr Z 5 0), (1, vr Z 2 a1)]) dX10_deepestIn_26 3 rfl (by decide) rfl ?_
      refine wq_goto 4 dX10_deepestIn_29 (by decide) ?_
      exact WQ.loc [2, 3, 1, 0] rfl (bk10 _ _ _)
    · exact WQ.loc [2] rfl (ex11 _ _ _)
  · refine wq_iload_n dX10_deepestIn_32 0 rfl rfl ?_
    exact wq_iret rfl rfl dX10_deepestIn_33

theorem ln_RX10_18 : Cond.fieldLink RX10 18 RX10 "comings" "[I" ∈ lw_good := li_1 148 (by decide +kernel) (by decide +kernel)
noncomputable def f_Sv_comingsOf (a1 : Int) (I : Mem) : Option ((Int) × Mem) :=
if (w32 a1) < 0 then
some (0, I)
else
if (w32 a1) < 40 then
if 0 ≤ (w32 a1) ∧ (w32 a1) < 40 then
some ((I 18 2 (w32 a1).toNat), I)
else none
else
some (0, I)
set_option maxRecDepth 20000 in
theorem R_Sv_comingsOf (Z : ZT) (a1 : Int) (I : Mem) (r : Int) (J : Mem) (hf : f_Sv_comingsOf a1 I = some (r, J)) : Runs Z yX10_comingsOf cX10_comingsOf 2 (some .int) 1 [vr Z 5 0, vi a1] I (some (vi r), J) := by
  refine Runs.of (rv := fun x => some (vi x)) (by decide +kernel) (Nat.le_of_ble_eq_true rfl) hf (fun gr => ?_)
  unfold f_Sv_comingsOf
  refine WQ.loc [0, 1] (lv' := [(0, vr Z 5 0), (1, vi a1)]) rfl ?_
  refine wq_iload_n dX10_comingsOf_0 1 rfl rfl ?_
  refine wq_if_lt 19 dX10_comingsOf_1 (by decide) rfl (fun c3 => ?_) (fun c3 => ?_)
  · refine wq_iconst dX10_comingsOf_19 ?_
    exact wq_iret rfl rfl dX10_comingsOf_20
  · refine wq_iload_n dX10_comingsOf_4 1 rfl rfl ?_
    refine wq_bipush dX10_comingsOf_5 (by decide) ?_
    refine wq_icmp_ge 19 dX10_comingsOf_7 (by decide) rfl rfl (fun c2 => ?_) (fun c2 => ?_)
    · refine wq_aload_n dX10_comingsOf_10 0 rfl rfl ?_
      refine g_5_2 ln_RX10_18 dX10_comingsOf_11 ?_
      refine wq_iload_n dX10_comingsOf_14 1 rfl rfl ?_
      refine wq_grd (fun g1 => ?_)
      refine wq_iald (k := 18) (i := 2) rfl (by decide) rfl rfl (m := 40) g1 (by decide) dX10_comingsOf_15 ?_
      refine wq_goto 20 dX10_comingsOf_16 (by decide) ?_
      exact wq_iret rfl rfl dX10_comingsOf_20
    · refine wq_iconst dX10_comingsOf_19 ?_
      exact wq_iret rfl rfl dX10_comingsOf_20
