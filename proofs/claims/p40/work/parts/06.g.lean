section
theorem ln_RX12_72 : Cond.fieldLink RX12 72 RX12 "errorAt" "I" ∈ lw_good := li_2 109 (by decide +kernel) (by decide +kernel)
noncomputable def f_PR_errorPosition  (I : Mem) : Option ((Int) × Mem) :=
some ((I 0 0 9), I)
set_option maxRecDepth 20000 in
theorem R_PR_errorPosition (Z : ZT)  (I : Mem) (r : Int) (J : Mem) (hf : f_PR_errorPosition I = some (r, J)) : Runs Z yX12_errorPosition cX12_errorPosition 1 (some .int) 1 [vr Z 0 0] I (some (vi r), J) := by
  refine Runs.of (rv := fun x => some (vi x)) (by decide +kernel) (Nat.le_of_ble_eq_true rfl) hf (fun gr => ?_)
  unfold f_PR_errorPosition
  refine WQ.loc [0] (lv' := [(0, vr Z 0 0)]) rfl ?_
  refine wq_aload_n dX12_errorPosition_0 0 rfl rfl ?_
  refine g_0_9 ln_RX12_72 dX12_errorPosition_1 ?_
  exact wq_iret rfl rfl dX12_errorPosition_4

noncomputable def f_PR_isLetter (a0 : Int) (I : Mem) : Option ((Int) × Mem) :=
if (w32 a0) < 0 then
some (0, I)
else
if (w32 a0) < 26 then
some (1, I)
else
some (0, I)
set_option maxRecDepth 20000 in
theorem R_PR_isLetter (Z : ZT) (a0 : Int) (I : Mem) (r : Int) (J : Mem) (hf : f_PR_isLetter a0 I = some (r, J)) : Runs Z yX12_isLetter cX12_isLetter 1 (some .boolean) 1 [vi a0] I (some (vi r), J) := by
  refine Runs.of (rv := fun x => some (vi x)) (by decide +kernel) (Nat.le_of_ble_eq_true rfl) hf (fun gr => ?_)
  unfold f_PR_isLetter
  refine WQ.loc [0] (lv' := [(0, vi a0)]) rfl ?_
  refine wq_iload_n dX12_isLetter_0 0 rfl rfl ?_
  refine wq_if_lt 14 dX12_isLetter_1 (by decide) rfl (fun c2 => ?_) (fun c2 => ?_)
  · refine wq_iconst dX12_isLetter_14 ?_
    exact wq_zret rfl (by decide) rfl dX12_isLetter_15
  · refine wq_iload_n dX12_isLetter_4 0 rfl rfl ?_
    refine wq_bipush dX12_isLetter_5 (by decide) ?_
    refine wq_icmp_ge 14 dX12_isLetter_7 (by decide) rfl rfl (fun c1 => ?_) (fun c1 => ?_)
    · refine wq_iconst dX12_isLetter_10 ?_
      refine wq_goto 15 dX12_isLetter_11 (by decide) ?_
      exact wq_zret rfl (by decide) rfl dX12_isLetter_15
    · refine wq_iconst dX12_isLetter_14 ?_
      exact wq_zret rfl (by decide) rfl dX12_isLetter_15

noncomputable def f_PR_isSymbol (a0 : Int) (I : Mem) : Option ((Int) × Mem) :=
if (w32 a0) < 0 then
some (0, I)
else
if (w32 a0) < 66 then
some (1, I)
else
some (0, I)
set_option maxRecDepth 20000 in
theorem R_PR_isSymbol (Z : ZT) (a0 : Int) (I : Mem) (r : Int) (J : Mem) (hf : f_PR_isSymbol a0 I = some (r, J)) : Runs Z yX12_isSymbol cX12_isSymbol 1 (some .boolean) 1 [vi a0] I (some (vi r), J) := by
  refine Runs.of (rv := fun x => some (vi x)) (by decide +kernel) (Nat.le_of_ble_eq_true rfl) hf (fun gr => ?_)
  unfold f_PR_isSymbol
  refine WQ.loc [0] (lv' := [(0, vi a0)]) rfl ?_
  refine wq_iload_n dX12_isSymbol_0 0 rfl rfl ?_
  refine wq_if_lt 14 dX12_isSymbol_1 (by decide) rfl (fun c2 => ?_) (fun c2 => ?_)
  · refine wq_iconst dX12_isSymbol_14 ?_
    exact wq_zret rfl (by decide) rfl dX12_isSymbol_15
  · refine wq_iload_n dX12_isSymbol_4 0 rfl rfl ?_
    refine wq_bipush dX12_isSymbol_5 (by decide) ?_
    refine wq_icmp_ge 14 dX12_isSymbol_7 (by decide) rfl rfl (fun c1 => ?_) (fun c1 => ?_)
    · refine wq_iconst dX12_isSymbol_10 ?_
      refine wq_goto 15 dX12_isSymbol_11 (by decide) ?_
      exact wq_zret rfl (by decide) rfl dX12_isSymbol_15
    · refine wq_iconst dX12_isSymbol_14 ?_
      exact wq_zret rfl (by decide) rfl dX12_isSymbol_15

noncomputable def f_PR_lowest (a0 : Int) (I : Mem) : Option ((Int) × Mem) :=
if (w32 a0) = 4 then
some (2, I)
else
some (0, I)
set_option maxRecDepth 20000 in
theorem R_PR_lowest (Z : ZT) (a0 : Int) (I : Mem) (r : Int) (J : Mem) (hf : f_PR_lowest a0 I = some (r, J)) : Runs Z yX12_lowest cX12_lowest 1 (some .int) 1 [vi a0] I (some (vi r), J) := by
  refine Runs.of (rv := fun x => some (vi x)) (by decide +kernel) (Nat.le_of_ble_eq_true rfl) hf (fun gr => ?_)
  unfold f_PR_lowest
  refine WQ.loc [0] (lv' := [(0, vi a0)]) rfl ?_
  refine wq_iload_n dX12_lowest_0 0 rfl rfl ?_
  refine wq_iconst dX12_lowest_1 ?_
  refine wq_icmp_ne 9 dX12_lowest_2 (by decide) rfl rfl (fun c1 => ?_) (fun c1 => ?_)
  · refine wq_iconst dX12_lowest_5 ?_
    refine wq_goto 10 dX12_lowest_6 (by decide) ?_
    exact wq_iret rfl rfl dX12_lowest_10
  · refine wq_iconst dX12_lowest_9 ?_
    exact wq_iret rfl rfl dX12_lowest_10

noncomputable def f_PR_highest (a0 : Int) (I : Mem) : Option ((Int) × Mem) :=
if (w32 a0) = 4 then
some (9, I)
else if (w32 a0) = 5 then
some (2, I)
else some (1, I)
set_option maxRecDepth 20000 in
theorem R_PR_highest (Z : ZT) (a0 : Int) (I : Mem) (r : Int) (J : Mem) (hf : f_PR_highest a0 I = some (r, J)) : Runs Z yX12_highest cX12_highest 1 (some .int) 1 [vi a0] I (some (vi r), J) := by
  refine Runs.of (rv := fun x => some (vi x)) (by decide +kernel) (Nat.le_of_ble_eq_true rfl) hf (fun gr => ?_)
  unfold f_PR_highest
  refine WQ.loc [0] (lv' := [(0, vi a0)]) rfl ?_
  refine wq_iload_n dX12_highest_0 0 rfl rfl ?_
  refine WQ.split (fun c1 => ?_) (fun c1 => ?_)
  · refine wq_look (off := 27) 28 dX12_highest_1 rfl (by decide) (by generalize (w32 a0) = z at c1 ⊢; simp [Op.lookupswitch.offset, c1]) (by decide) ?_
    refine wq_bipush dX12_highest_28 (by decide) ?_
    exact wq_iret rfl rfl dX12_highest_30
  · skip
    refine WQ.split (fun c2 => ?_) (fun c2 => ?_)
    · refine wq_look (off := 30) 31 dX12_highest_1 rfl (by decide) (by generalize (w32 a0) = z at c2 ⊢; simp [Op.lookupswitch.offset, c2]) (by decide) ?_
      refine wq_iconst dX12_highest_31 ?_
      exact wq_iret rfl rfl dX12_highest_32
    · skip
      refine wq_look (off := 32) 33 dX12_highest_1 rfl (by decide) (by generalize (w32 a0) = z at c1 c2 ⊢; simp [Op.lookupswitch.offset, Ne.symm c1, Ne.symm c2]) (by decide) ?_
      refine wq_iconst dX12_highest_33 ?_
      exact wq_iret rfl rfl dX12_highest_34

theorem ln_RX1_12 : Cond.fieldLink RX1 12 RX1 "start" "LPairRules$Row;" ∈ lw_good := li_1 59 (by decide +kernel) (by decide +kernel)
noncomputable def f_G_startRow (t : Nat) (I : Mem) : Option ((Nat) × Mem) :=
if t < 12 then
some ((43 * t), I)
else none
set_option maxRecDepth 20000 in
theorem R_G_startRow (Z : ZT) (t : Nat) (I : Mem) (r : Nat) (J : Mem) (hf : f_G_startRow t I = some (r, J)) : Runs Z yX1_startRow cX1_startRow 1 (some (.object RX5)) 1 [vr Z 1 t] I (some (vr Z 2 r), J) := by
  refine Runs.of (rv := fun x => some (vr Z 2 x)) (by decide +kernel) (Nat.le_of_ble_eq_true rfl) hf (fun gr => ?_)
  unfold f_G_startRow
  refine WQ.loc [0] (lv' := [(0, vr Z 1 t)]) rfl ?_
  refine wq_grd (fun ht => ?_)
  refine wq_aload_n dX1_startRow_0 0 rfl rfl ?_
  refine g_1_0 ht ln_RX1_12 dX1_startRow_1 ?_
  exact wq_aret rfl (Or.inl ⟨_, rfl⟩) rfl dX1_startRow_4

theorem ln_RX1_18 : Cond.fieldLink RX1 18 RX1 "told" "LPairRules$Row;" ∈ lw_good := li_1 60 (by decide +kernel) (by decide +kernel)
noncomputable def f_G_toldText (t : Nat) (I : Mem) : Option ((Nat) × Mem) :=
if t < 12 then
some ((43 * t + 1), I)
else none
set_option maxRecDepth 20000 in
theorem R_G_toldText (Z : ZT) (t : Nat) (I : Mem) (r : Nat) (J : Mem) (hf : f_G_toldText t I = some (r, J)) : Runs Z yX1_toldText cX1_toldText 1 (some (.object RX5)) 1 [vr Z 1 t] I (some (vr Z 2 r), J) := by
  refine Runs.of (rv := fun x => some (vr Z 2 x)) (by decide +kernel) (Nat.le_of_ble_eq_true rfl) hf (fun gr => ?_)
  unfold f_G_toldText
  refine WQ.loc [0] (lv' := [(0, vr Z 1 t)]) rfl ?_
  refine wq_grd (fun ht => ?_)
  refine wq_aload_n dX1_toldText_0 0 rfl rfl ?_
  refine g_1_1 ht ln_RX1_18 dX1_toldText_1 ?_
  exact wq_aret rfl (Or.inl ⟨_, rfl⟩) rfl dX1_toldText_4

theorem ln_RX1_25 : Cond.fieldLink RX1 25 RX1 "nothing" "LPairRules$Row;" ∈ lw_good := li_1 62 (by decide +kernel) (by decide +kernel)
theorem ln_RX1_21 : Cond.fieldLink RX1 21 RX1 "bodies" "[LPairRules$Row;" ∈ lw_good := li_1 61 (by decide +kernel) (by decide +kernel)
noncomputable def f_G_body (t : Nat) (a1 : Int) (I : Mem) : Option ((Nat) × Mem) :=
if t < 12 then
if (w32 a1) < 0 then
some ((43 * t + 2), I)
else
if (w32 a1) < 40 then
if 0 ≤ (w32 a1) ∧ (w32 a1) < 40 then
some ((43 * t + 3 + (w32 a1).toNat), I)
else none
else
some ((43 * t + 2), I)
else none
set_option maxRecDepth 20000 in
theorem R_G_body (Z : ZT) (t : Nat) (a1 : Int) (I : Mem) (r : Nat) (J : Mem) (hf : f_G_body t a1 I = some (r, J)) : Runs Z yX1_body cX1_body 2 (some (.object RX5)) 1 [vr Z 1 t, vi a1] I (some (vr Z 2 r), J) := by
  refine Runs.of (rv := fun x => some (vr Z 2 x)) (by decide +kernel) (Nat.le_of_ble_eq_true rfl) hf (fun gr => ?_)
  unfold f_G_body
  refine WQ.loc [0, 1] (lv' := [(0, vr Z 1 t), (1, vi a1)]) rfl ?_
  refine wq_grd (fun ht => ?_)
  refine wq_iload_n dX1_body_0 1 rfl rfl ?_
  refine wq_if_lt 19 dX1_body_1 (by decide) rfl (fun c4 => ?_) (fun c4 => ?_)
  · refine wq_aload_n dX1_body_19 0 rfl rfl ?_
    refine g_1_3 ht ln_RX1_25 dX1_body_20 ?_
    exact wq_aret rfl (Or.inl ⟨_, rfl⟩) rfl dX1_body_23
  · refine wq_iload_n dX1_body_4 1 rfl rfl ?_
    refine wq_bipush dX1_body_5 (by decide) ?_
    refine wq_icmp_ge 19 dX1_body_7 (by decide) rfl rfl (fun c3 => ?_) (fun c3 => ?_)
    · refine wq_aload_n dX1_body_10 0 rfl rfl ?_
      refine g_1_2 ht ln_RX1_21 dX1_body_11 ?_
      refine wq_iload_n dX1_body_14 1 rfl rfl ?_
      refine wq_grd (fun g1 => ?_)
      refine wq_aald (k := 13) (i := t) (t0 := 4) rfl rfl ht rfl rfl (m := 40) g1 (Nat.le_refl _) dX1_body_15 ?_
      have hb2 : (43 * t + 3 + (w32 a1).toNat) < 516 := by omega
      refine wq_goto 23 dX1_body_16 (by decide) ?_
      exact wq_aret rfl (Or.inl ⟨_, rfl⟩) rfl dX1_body_23
    · refine wq_aload_n dX1_body_19 0 rfl rfl ?_
      refine g_1_3 ht ln_RX1_25 dX1_body_20 ?_
      exact wq_aret rfl (Or.inl ⟨_, rfl⟩) rfl dX1_body_23

theorem ln_RX1_28 : Cond.fieldLink RX1 28 RX1 "lengths" "[I" ∈ lw_good := li_1 63 (by decide +kernel) (by decide +kernel)
noncomputable def f_G_lengthOf (t : Nat) (a1 : Int) (I : Mem) : Option ((Int) × Mem) :=
if t < 12 then
if (w32 a1) < 0 then
some (0, I)
else
if (w32 a1) < 66 then
if (w32 a1) < 26 then
some (1, I)
else
if 0 ≤ (w32 (a1 - 26)) ∧ (w32 (a1 - 26)) < 40 then
some ((I 14 t (w32 (a1 - 26)).toNat), I)
else none
else
some (0, I)
else none
set_option maxRecDepth 20000 in
theorem R_G_lengthOf (Z : ZT) (t : Nat) (a1 : Int) (I : Mem) (r : Int) (J : Mem) (hf : f_G_lengthOf t a1 I = some (r, J)) : Runs Z yX1_lengthOf cX1_lengthOf 2 (some .int) 1 [vr Z 1 t, vi a1] I (some (vi r), J) := by
  refine Runs.of (rv := fun x => some (vi x)) (by decide +kernel) (Nat.le_of_ble_eq_true rfl) hf (fun gr => ?_)
  unfold f_G_lengthOf
  refine WQ.loc [0, 1] (lv' := [(0, vr Z 1 t), (1, vi a1)]) rfl ?_
  refine wq_grd (fun ht => ?_)
  refine wq_iload_n dX1_lengthOf_0 1 rfl rfl ?_
  refine wq_if_lt 10 dX1_lengthOf_1 (by decide) rfl (fun c4 => ?_) (fun c4 => ?_)
  · refine wq_iconst dX1_lengthOf_10 ?_
    exact wq_iret rfl rfl dX1_lengthOf_11
  · refine wq_iload_n dX1_lengthOf_4 1 rfl rfl ?_
    refine wq_bipush dX1_lengthOf_5 (by decide) ?_
    refine wq_icmp_lt 12 dX1_lengthOf_7 (by decide) rfl rfl (fun c3 => ?_) (fun c3 => ?_)
    · refine wq_iload_n dX1_lengthOf_12 1 rfl rfl ?_
      refine wq_bipush dX1_lengthOf_13 (by decide) ?_
      refine wq_icmp_ge 22 dX1_lengthOf_15 (by decide) rfl rfl (fun c2 => ?_) (fun c2 => ?_)
      · refine wq_iconst dX1_lengthOf_18 ?_
        refine wq_goto 31 dX1_lengthOf_19 (by decide) ?_
        exact wq_iret rfl rfl dX1_lengthOf_31
      · refine wq_aload_n dX1_lengthOf_22 0 rfl rfl ?_
        refine g_1_4 ht ln_RX1_28 dX1_lengthOf_23 ?_
        refine wq_iload_n dX1_lengthOf_26 1 rfl rfl ?_
        refine wq_bipush dX1_lengthOf_27 (by decide) ?_
        refine wq_isub dX1_lengthOf_29 ?_
        refine wq_grd (fun g1 => ?_)
        refine wq_iald (k := 14) (i := t) rfl ht rfl rfl (m := 40) g1 (Nat.le_refl _) dX1_lengthOf_30 ?_
        exact wq_iret rfl rfl dX1_lengthOf_31
    · refine wq_iconst dX1_lengthOf_10 ?_
      exact wq_iret rfl rfl dX1_lengthOf_11

noncomputable def f_G_putLength (t : Nat) (a1 : Int) (a2 : Int) (I : Mem) : Option ((Unit) × Mem) :=
if t < 12 then
if (w32 a1) < 0 then
some ((), I)
else
if (w32 a1) < 40 then
if 0 ≤ (w32 a1) ∧ (w32 a1) < 40 then
ltI (sI I 14 t (w32 a1).toNat a2) fun J2 =>
some ((), J2)
else none
else
some ((), I)
else none
set_option maxRecDepth 20000 in
theorem R_G_putLength (Z : ZT) (t : Nat) (a1 : Int) (a2 : Int) (I : Mem) (r : Unit) (J : Mem) (hf : f_G_putLength t a1 a2 I = some (r, J)) : Runs Z yX1_putLength cX1_putLength 3 (none) 1 [vr Z 1 t, vi a1, vi a2] I (none, J) := by
  refine Runs.of (rv := fun _ => none) (by decide +kernel) (Nat.le_of_ble_eq_true rfl) hf (fun gr => ?_)
  unfold f_G_putLength
  refine WQ.loc [0, 1, 2] (lv' := [(0, vr Z 1 t), (1, vi a1), (2, vi a2)]) rfl ?_
  refine wq_grd (fun ht => ?_)
  refine wq_iload_n dX1_putLength_0 1 rfl rfl ?_
  refine wq_if_lt 17 dX1_putLength_1 (by decide) rfl (fun c4 => ?_) (fun c4 => ?_)
  · exact wq_vret rfl rfl dX1_putLength_17
  · refine wq_iload_n dX1_putLength_4 1 rfl rfl ?_
    refine wq_bipush dX1_putLength_5 (by decide) ?_
    refine wq_icmp_ge 17 dX1_putLength_7 (by decide) rfl rfl (fun c3 => ?_) (fun c3 => ?_)
    · refine wq_aload_n dX1_putLength_10 0 rfl rfl ?_
      refine g_1_4 ht ln_RX1_28 dX1_putLength_11 ?_
      refine wq_iload_n dX1_putLength_14 1 rfl rfl ?_
      refine wq_iload_n dX1_putLength_15 2 rfl rfl ?_
      refine wq_grd (fun g1 => ?_)
      refine wq_iast (k := 14) (i := t) (fun _ _ => rfl) ht rfl rfl (m := 40) g1 (Nat.le_refl _) (by decide) (by decide) (by decide) dX1_putLength_16 (fun J2 => ?_)
      exact wq_vret rfl rfl dX1_putLength_17
    · exact wq_vret rfl rfl dX1_putLength_17

theorem ln_RX1_35 : Cond.fieldLink RX1 35 RX1 "least" "I" ∈ lw_good := li_1 65 (by decide +kernel) (by decide +kernel)
theorem ln_RX1_45 : Cond.fieldLink RX1 45 RX1 "tie" "I" ∈ lw_good := li_1 66 (by decide +kernel) (by decide +kernel)
theorem ln_RX1_39 : Cond.fieldLink RX1 39 RX1 "inlines" "I" ∈ lw_good := li_1 67 (by decide +kernel) (by decide +kernel)
noncomputable def f_G_number (t : Nat) (a1 : Int) (I : Mem) : Option ((Int) × Mem) :=
if t < 12 then
if (w32 a1) = 4 then
some ((I 1 t 6), I)
else if (w32 a1) = 5 then
some ((I 1 t 7), I)
else some ((I 1 t 8), I)
else none
set_option maxRecDepth 20000 in
theorem R_G_number (Z : ZT) (t : Nat) (a1 : Int) (I : Mem) (r : Int) (J : Mem) (hf : f_G_number t a1 I = some (r, J)) : Runs Z yX1_number cX1_number 2 (some .int) 1 [vr Z 1 t, vi a1] I (some (vi r), J) := by
  refine Runs.of (rv := fun x => some (vi x)) (by decide +kernel) (Nat.le_of_ble_eq_true rfl) hf (fun gr => ?_)
  unfold f_G_number
  refine WQ.loc [0, 1] (lv' := [(0, vr Z 1 t), (1, vi a1)]) rfl ?_
  refine wq_grd (fun ht => ?_)
  refine wq_iload_n dX1_number_0 1 rfl rfl ?_
  refine WQ.split (fun c1 => ?_) (fun c1 => ?_)
  · refine wq_look (off := 27) 28 dX1_number_1 rfl (by decide) (by generalize (w32 a1) = z at c1 ⊢; simp [Op.lookupswitch.offset, c1]) (by decide) ?_
    refine wq_aload_n dX1_number_28 0 rfl rfl ?_
    refine g_1_6 ht ln_RX1_35 dX1_number_29 ?_
    exact wq_iret rfl rfl dX1_number_32
  · skip
    refine WQ.split (fun c2 => ?_) (fun c2 => ?_)
    · refine wq_look (off := 32) 33 dX1_number_1 rfl (by decide) (by generalize (w32 a1) = z at c2 ⊢; simp [Op.lookupswitch.offset, c2]) (by decide) ?_
      refine wq_aload_n dX1_number_33 0 rfl rfl ?_
      refine g_1_7 ht ln_RX1_45 dX1_number_34 ?_
      exact wq_iret rfl rfl dX1_number_37
    · skip
      refine wq_look (off := 37) 38 dX1_number_1 rfl (by decide) (by generalize (w32 a1) = z at c1 c2 ⊢; simp [Op.lookupswitch.offset, Ne.symm c1, Ne.symm c2]) (by decide) ?_
      refine wq_aload_n dX1_number_38 0 rfl rfl ?_
      refine g_1_8 ht ln_RX1_39 dX1_number_39 ?_
      exact wq_iret rfl rfl dX1_number_42

noncomputable def f_G_putNumber (t : Nat) (a1 : Int) (a2 : Int) (I : Mem) : Option ((Unit) × Mem) :=
if t < 12 then
if (w32 a1) = 4 then
ltI (sI I 1 t 6 a2) fun J1 =>
some ((), J1)
else if (w32 a1) = 5 then
ltI (sI I 1 t 7 a2) fun J3 =>
some ((), J3)
else ltI (sI I 1 t 8 a2) fun J5 =>
some ((), J5)
else none
set_option maxRecDepth 20000 in
theorem R_G_putNumber (Z : ZT) (t : Nat) (a1 : Int) (a2 : Int) (I : Mem) (r : Unit) (J : Mem) (hf : f_G_putNumber t a1 a2 I = some (r, J)) : Runs Z yX1_putNumber cX1_putNumber 3 (none) 1 [vr Z 1 t, vi a1, vi a2] I (none, J) := by
  refine Runs.of (rv := fun _ => none) (by decide +kernel) (Nat.le_of_ble_eq_true rfl) hf (fun gr => ?_)
  unfold f_G_putNumber
  refine WQ.loc [0, 1, 2] (lv' := [(0, vr Z 1 t), (1, vi a1), (2, vi a2)]) rfl ?_
  refine wq_grd (fun ht => ?_)
  refine wq_iload_n dX1_putNumber_0 1 rfl rfl ?_
  refine WQ.split (fun c2 => ?_) (fun c2 => ?_)
  · refine wq_look (off := 27) 28 dX1_putNumber_1 rfl (by decide) (by generalize (w32 a1) = z at c2 ⊢; simp [Op.lookupswitch.offset, c2]) (by decide) ?_
    refine wq_aload_n dX1_putNumber_28 0 rfl rfl ?_
    refine wq_iload_n dX1_putNumber_29 2 rfl rfl ?_
    refine p_1_6 ht ln_RX1_35 dX1_putNumber_30 (fun J1 => ?_)
    refine wq_goto 49 dX1_putNumber_33 (by decide) ?_
    exact wq_vret rfl rfl dX1_putNumber_49
  · skip
    refine WQ.split (fun c4 => ?_) (fun c4 => ?_)
    · refine wq_look (off := 35) 36 dX1_putNumber_1 rfl (by decide) (by generalize (w32 a1) = z at c4 ⊢; simp [Op.lookupswitch.offset, c4]) (by decide) ?_
      refine wq_aload_n dX1_putNumber_36 0 rfl rfl ?_
      refine wq_iload_n dX1_putNumber_37 2 rfl rfl ?_
      refine p_1_7 ht ln_RX1_45 dX1_putNumber_38 (fun J3 => ?_)
      refine wq_goto 49 dX1_putNumber_41 (by decide) ?_
      exact wq_vret rfl rfl dX1_putNumber_49
    · skip
      refine wq_look (off := 43) 44 dX1_putNumber_1 rfl (by decide) (by generalize (w32 a1) = z at c2 c4 ⊢; simp [Op.lookupswitch.offset, Ne.symm c2, Ne.symm c4]) (by decide) ?_
      refine wq_aload_n dX1_putNumber_44 0 rfl rfl ?_
      refine wq_iload_n dX1_putNumber_45 2 rfl rfl ?_
      refine p_1_8 ht ln_RX1_39 dX1_putNumber_46 (fun J5 => ?_)
      exact wq_vret rfl rfl dX1_putNumber_49

theorem ln_RX1_32 : Cond.fieldLink RX1 32 RX1 "accounts" "[I" ∈ lw_good := li_1 64 (by decide +kernel) (by decide +kernel)
noncomputable def f_G_accountOf (t : Nat) (a1 : Int) (I : Mem) : Option ((Int) × Mem) :=
if t < 12 then
if (w32 a1) < 0 then
some (0, I)
else
if (w32 a1) < 9 then
if 0 ≤ (w32 a1) ∧ (w32 a1) < 9 then
some ((I 15 t (w32 a1).toNat), I)
else none
else
some (0, I)
else none
set_option maxRecDepth 20000 in
theorem R_G_accountOf (Z : ZT) (t : Nat) (a1 : Int) (I : Mem) (r : Int) (J : Mem) (hf : f_G_accountOf t a1 I = some (r, J)) : Runs Z yX1_accountOf cX1_accountOf 2 (some .int) 1 [vr Z 1 t, vi a1] I (some (vi r), J) := by
  refine Runs.of (rv := fun x => some (vi x)) (by decide +kernel) (Nat.le_of_ble_eq_true rfl) hf (fun gr => ?_)
  unfold f_G_accountOf
  refine WQ.loc [0, 1] (lv' := [(0, vr Z 1 t), (1, vi a1)]) rfl ?_
  refine wq_grd (fun ht => ?_)
  refine wq_iload_n dX1_accountOf_0 1 rfl rfl ?_
  refine wq_if_lt 19 dX1_accountOf_1 (by decide) rfl (fun c3 => ?_) (fun c3 => ?_)
  · refine wq_iconst dX1_accountOf_19 ?_
    exact wq_iret rfl rfl dX1_accountOf_20
  · refine wq_iload_n dX1_accountOf_4 1 rfl rfl ?_
    refine wq_bipush dX1_accountOf_5 (by decide) ?_
    refine wq_icmp_ge 19 dX1_accountOf_7 (by decide) rfl rfl (fun c2 => ?_) (fun c2 => ?_)
    · refine wq_aload_n dX1_accountOf_10 0 rfl rfl ?_
      refine g_1_5 ht ln_RX1_32 dX1_accountOf_11 ?_
      refine wq_iload_n dX1_accountOf_14 1 rfl rfl ?_
      refine wq_grd (fun g1 => ?_)
      refine wq_iald (k := 15) (i := t) rfl ht rfl rfl (m := 9) g1 (Nat.le_refl _) dX1_accountOf_15 ?_
      refine wq_goto 20 dX1_accountOf_16 (by decide) ?_
      exact wq_iret rfl rfl dX1_accountOf_20
    · refine wq_iconst dX1_accountOf_19 ?_
      exact wq_iret rfl rfl dX1_accountOf_20

noncomputable def f_G_addTo (t : Nat) (a1 : Int) (a2 : Int) (I : Mem) : Option ((Unit) × Mem) :=
if t < 12 then
if (w32 a1) < 0 then
some ((), I)
else
if (w32 a1) < 9 then
if 0 ≤ (w32 a1) ∧ (w32 a1) < 9 then
ltI (sI I 15 t (w32 a1).toNat ((I 15 t (w32 a1).toNat) + a2)) fun J2 =>
some ((), J2)
else none
else
some ((), I)
else none
set_option maxRecDepth 20000 in
theorem R_G_addTo (Z : ZT) (t : Nat) (a1 : Int) (a2 : Int) (I : Mem) (r : Unit) (J : Mem) (hf : f_G_addTo t a1 a2 I = some (r, J)) : Runs Z yX1_addTo cX1_addTo 3 (none) 1 [vr Z 1 t, vi a1, vi a2] I (none, J) := by
  refine Runs.of (rv := fun _ => none) (by decide +kernel) (Nat.le_of_ble_eq_true rfl) hf (fun gr => ?_)
  unfold f_G_addTo
  refine WQ.loc [0, 1, 2] (lv' := [(0, vr Z 1 t), (1, vi a1), (2, vi a2)]) rfl ?_
  refine wq_grd (fun ht => ?_)
  refine wq_iload_n dX1_addTo_0 1 rfl rfl ?_
  refine wq_if_lt 20 dX1_addTo_1 (by decide) rfl (fun c4 => ?_) (fun c4 => ?_)
  · exact wq_vret rfl rfl dX1_addTo_20
  · refine wq_iload_n dX1_addTo_4 1 rfl rfl ?_
    refine wq_bipush dX1_addTo_5 (by decide) ?_
    refine wq_icmp_ge 20 dX1_addTo_7 (by decide) rfl rfl (fun c3 => ?_) (fun c3 => ?_)
    · refine wq_aload_n dX1_addTo_10 0 rfl rfl ?_
      refine g_1_5 ht ln_RX1_32 dX1_addTo_11 ?_
      refine wq_iload_n dX1_addTo_14 1 rfl rfl ?_
      refine wq_dup2 dX1_addTo_15 rfl rfl ?_
      refine wq_grd (fun g1 => ?_)
      refine wq_iald (k := 15) (i := t) rfl ht rfl rfl (m := 9) g1 (Nat.le_refl _) dX1_addTo_16 ?_
      refine wq_iload_n dX1_addTo_17 2 rfl rfl ?_
      refine wq_iadd dX1_addTo_18 ?_
      refine wq_iast (k := 15) (i := t) (fun _ _ => rfl) ht rfl rfl (m := 9) g1 (Nat.le_refl _) (by decide) (by decide) (by decide) dX1_addTo_19 (fun J2 => ?_)
      exact wq_vret rfl rfl dX1_addTo_20
    · exact wq_vret rfl rfl dX1_addTo_20

theorem ln_RX1_48 : Cond.fieldLink RX1 48 RX1 "rulesAtFirst" "I" ∈ lw_good := li_1 68 (by decide +kernel) (by decide +kernel)
noncomputable def f_G_rulesAtFirst (t : Nat) (I : Mem) : Option ((Int) × Mem) :=
if t < 12 then
some ((I 1 t 9), I)
else none
set_option maxRecDepth 20000 in
theorem R_G_rulesAtFirst (Z : ZT) (t : Nat) (I : Mem) (r : Int) (J : Mem) (hf : f_G_rulesAtFirst t I = some (r, J)) : Runs Z yX1_rulesAtFirst cX1_rulesAtFirst 1 (some .int) 1 [vr Z 1 t] I (some (vi r), J) := by
  refine Runs.of (rv := fun x => some (vi x)) (by decide +kernel) (Nat.le_of_ble_eq_true rfl) hf (fun gr => ?_)
  unfold f_G_rulesAtFirst
  refine WQ.loc [0] (lv' := [(0, vr Z 1 t)]) rfl ?_
  refine wq_grd (fun ht => ?_)
  refine wq_aload_n dX1_rulesAtFirst_0 0 rfl rfl ?_
  refine g_1_9 ht ln_RX1_48 dX1_rulesAtFirst_1 ?_
  exact wq_iret rfl rfl dX1_rulesAtFirst_4

noncomputable def f_Row_many (t : Nat) (I : Mem) : Option ((Int) × Mem) :=
if t < 516 then
some ((I 2 t 1), I)
else none
set_option maxRecDepth 20000 in
theorem R_Row_many (Z : ZT) (t : Nat) (I : Mem) (r : Int) (J : Mem) (hf : f_Row_many t I = some (r, J)) : Runs Z yX5_many cX5_many 1 (some .int) 1 [vr Z 2 t] I (some (vi r), J) := by
  refine Runs.of (rv := fun x => some (vi x)) (by decide +kernel) (Nat.le_of_ble_eq_true rfl) hf (fun gr => ?_)
  unfold f_Row_many
  refine WQ.loc [0] (lv' := [(0, vr Z 2 t)]) rfl ?_
  refine wq_grd (fun ht => ?_)
  refine wq_aload_n dX5_many_0 0 rfl rfl ?_
  refine g_2_1 ht ln_RX5_15 dX5_many_1 ?_
  exact wq_iret rfl rfl dX5_many_4

noncomputable def f_Row_at (t : Nat) (a1 : Int) (I : Mem) : Option ((Int) × Mem) :=
if t < 516 then
if (w32 a1) < 0 then
some ((-1), I)
else
if (w32 a1) < (w32 (I 2 t 1)) then
if 0 ≤ (w32 a1) ∧ (w32 a1) < (I 2 t 2) then
some ((I 12 t (w32 a1).toNat), I)
else none
else
some ((-1), I)
else none
set_option maxRecDepth 20000 in
theorem R_Row_at (Z : ZT) (t : Nat) (a1 : Int) (I : Mem) (r : Int) (J : Mem) (hf : f_Row_at t a1 I = some (r, J)) : Runs Z yX5_at cX5_at 2 (some .int) 1 [vr Z 2 t, vi a1] I (some (vi r), J) := by
  refine Runs.of (rv := fun x => some (vi x)) (by decide +kernel) (Nat.le_of_ble_eq_true rfl) hf (fun gr => ?_)
  unfold f_Row_at
  refine WQ.loc [0, 1] (lv' := [(0, vr Z 2 t), (1, vi a1)]) rfl ?_
  refine wq_grd (fun ht => ?_)
  refine wq_iload_n dX5_at_0 1 rfl rfl ?_
  refine wq_if_lt 21 dX5_at_1 (by decide) rfl (fun c3 => ?_) (fun c3 => ?_)
  · refine wq_iconst dX5_at_21 ?_
    exact wq_iret rfl rfl dX5_at_22
  · refine wq_iload_n dX5_at_4 1 rfl rfl ?_
    refine wq_aload_n dX5_at_5 0 rfl rfl ?_
    refine g_2_1 ht ln_RX5_15 dX5_at_6 ?_
    refine wq_icmp_ge 21 dX5_at_9 (by decide) rfl rfl (fun c2 => ?_) (fun c2 => ?_)
    · refine wq_aload_n dX5_at_12 0 rfl rfl ?_
      refine g_2_0 ht ln_RX5_9 dX5_at_13 ?_
      refine wq_iload_n dX5_at_16 1 rfl rfl ?_
      refine wq_grd (fun g1 => ?_)
      refine wq_iald (k := 12) (i := t) rfl ht rfl rfl (m := (I 2 t 2)) g1 (Nat.le_refl _) dX5_at_17 ?_
      refine wq_goto 22 dX5_at_18 (by decide) ?_
      exact wq_iret rfl rfl dX5_at_22
    · refine wq_iconst dX5_at_21 ?_
      exact wq_iret rfl rfl dX5_at_22

noncomputable def f_Row_clear (t : Nat) (I : Mem) : Option ((Unit) × Mem) :=
if t < 516 then
ltI (sI I 2 t 1 0) fun J1 =>
some ((), J1)
else none
set_option maxRecDepth 20000 in
theorem R_Row_clear (Z : ZT) (t : Nat) (I : Mem) (r : Unit) (J : Mem) (hf : f_Row_clear t I = some (r, J)) : Runs Z yX5_clear cX5_clear 1 (none) 1 [vr Z 2 t] I (none, J) := by
  refine Runs.of (rv := fun _ => none) (by decide +kernel) (Nat.le_of_ble_eq_true rfl) hf (fun gr => ?_)
  unfold f_Row_clear
  refine WQ.loc [0] (lv' := [(0, vr Z 2 t)]) rfl ?_
  refine wq_grd (fun ht => ?_)
  refine wq_aload_n dX5_clear_0 0 rfl rfl ?_
  refine wq_iconst dX5_clear_1 ?_
  refine p_2_1 ht ln_RX5_15 dX5_clear_2 (fun J1 => ?_)
  exact wq_vret rfl rfl dX5_clear_5

noncomputable def f_Row_drop (t : Nat) (a1 : Int) (I : Mem) : Option ((Unit) × Mem) :=
if t < 516 then
if (w32 a1) < (w32 (I 2 t 1)) then
ltI (sI I 2 t 1 ((I 2 t 1) - a1)) fun J2 =>
some ((), J2)
else
ltI (sI I 2 t 1 0) fun J1 =>
some ((), J1)
else none
set_option maxRecDepth 20000 in
theorem R_Row_drop (Z : ZT) (t : Nat) (a1 : Int) (I : Mem) (r : Unit) (J : Mem) (hf : f_Row_drop t a1 I = some (r, J)) : Runs Z yX5_drop cX5_drop 2 (none) 1 [vr Z 2 t, vi a1] I (none, J) := by
  refine Runs.of (rv := fun _ => none) (by decide +kernel) (Nat.le_of_ble_eq_true rfl) hf (fun gr => ?_)
  unfold f_Row_drop
  refine WQ.loc [0, 1] (lv' := [(0, vr Z 2 t), (1, vi a1)]) rfl ?_
  refine wq_grd (fun ht => ?_)
  refine wq_aload_n dX5_drop_0 0 rfl rfl ?_
  refine wq_iload_n dX5_drop_1 1 rfl rfl ?_
  refine wq_aload_n dX5_drop_2 0 rfl rfl ?_
  refine g_2_1 ht ln_RX5_15 dX5_drop_3 ?_
  refine wq_icmp_ge 18 dX5_drop_6 (by decide) rfl rfl (fun c3 => ?_) (fun c3 => ?_)
  · refine wq_aload_n dX5_drop_9 0 rfl rfl ?_
    refine g_2_1 ht ln_RX5_15 dX5_drop_10 ?_
    refine wq_iload_n dX5_drop_13 1 rfl rfl ?_
    refine wq_isub dX5_drop_14 ?_
    refine wq_goto 19 dX5_drop_15 (by decide) ?_
    refine p_2_1 ht ln_RX5_15 dX5_drop_19 (fun J2 => ?_)
    exact wq_vret rfl rfl dX5_drop_22
  · refine wq_iconst dX5_drop_18 ?_
    refine p_2_1 ht ln_RX5_15 dX5_drop_19 (fun J1 => ?_)
    exact wq_vret rfl rfl dX5_drop_22

noncomputable def f_Row_isPair (t : Nat) (a1 : Int) (a2 : Int) (I : Mem) : Option ((Int) × Mem) :=
if t < 516 then
if (w32 (I 2 t 1)) = 2 then
if (0 : Int) ≤ 0 ∧ (0 : Int) < (I 2 t 2) then
if (w32 (I 12 t 0)) = (w32 a1) then
if (0 : Int) ≤ 1 ∧ (1 : Int) < (I 2 t 2) then
if (w32 (I 12 t 1)) = (w32 a2) then
some (1, I)
else
some (0, I)
else none
else
some (0, I)
else none
else
some (0, I)
else none
set_option maxRecDepth 20000 in
theorem R_Row_isPair (Z : ZT) (t : Nat) (a1 : Int) (a2 : Int) (I : Mem) (r : Int) (J : Mem) (hf : f_Row_isPair t a1 a2 I = some (r, J)) : Runs Z yX5_isPair cX5_isPair 3 (some .boolean) 1 [vr Z 2 t, vi a1, vi a2] I (some (vi r), J) := by
  refine Runs.of (rv := fun x => some (vi x)) (by decide +kernel) (Nat.le_of_ble_eq_true rfl) hf (fun gr => ?_)
  unfold f_Row_isPair
  refine WQ.loc [0, 1, 2] (lv' := [(0, vr Z 2 t), (1, vi a1), (2, vi a2)]) rfl ?_
  refine wq_grd (fun ht => ?_)
  refine wq_aload_n dX5_isPair_0 0 rfl rfl ?_
  refine g_2_1 ht ln_RX5_15 dX5_isPair_1 ?_
  refine wq_iconst dX5_isPair_4 ?_
  refine wq_icmp_ne 32 dX5_isPair_5 (by decide) rfl rfl (fun c5 => ?_) (fun c5 => ?_)
  · refine wq_aload_n dX5_isPair_8 0 rfl rfl ?_
    refine g_2_0 ht ln_RX5_9 dX5_isPair_9 ?_
    refine wq_iconst dX5_isPair_12 ?_
    refine wq_grd (fun g1 => ?_)
    refine wq_iald (k := 12) (i := t) rfl ht rfl rfl (m := (I 2 t 2)) g1 (Nat.le_refl _) dX5_isPair_13 ?_
    refine wq_iload_n dX5_isPair_14 1 rfl rfl ?_
    refine wq_icmp_ne 32 dX5_isPair_15 (by decide) rfl rfl (fun c4 => ?_) (fun c4 => ?_)
    · refine wq_aload_n dX5_isPair_18 0 rfl rfl ?_
      refine g_2_0 ht ln_RX5_9 dX5_isPair_19 ?_
      refine wq_iconst dX5_isPair_22 ?_
      refine wq_grd (fun g2 => ?_)
      refine wq_iald (k := 12) (i := t) rfl ht rfl rfl (m := (I 2 t 2)) g2 (Nat.le_refl _) dX5_isPair_23 ?_
      refine wq_iload_n dX5_isPair_24 2 rfl rfl ?_
      refine wq_icmp_ne 32 dX5_isPair_25 (by decide) rfl rfl (fun c3 => ?_) (fun c3 => ?_)
      · refine wq_iconst dX5_isPair_28 ?_
        refine wq_goto 33 dX5_isPair_29 (by decide) ?_
        exact wq_zret rfl (by decide) rfl dX5_isPair_33
      · refine wq_iconst dX5_isPair_32 ?_
        exact wq_zret rfl (by decide) rfl dX5_isPair_33
    · refine wq_iconst dX5_isPair_32 ?_
      exact wq_zret rfl (by decide) rfl dX5_isPair_33
  · refine wq_iconst dX5_isPair_32 ?_
    exact wq_zret rfl (by decide) rfl dX5_isPair_33

noncomputable def f_Row_timesOf_w4 (v0 : Nat) (v1 : Int) (s : Int × Int) (I : Mem) : Option (((Int × Int) ⊕ (Int)) × Mem) :=
if (w32 s.2) < (w32 (I 2 v0 1)) then
if 0 ≤ (w32 s.2) ∧ (w32 s.2) < (I 2 v0 2) then
if (w32 (I 12 v0 (w32 s.2).toNat)) = (w32 v1) then
some (.inl ((s.1 + 1), (s.2 + 1)), I)
else
some (.inl (s.1, (s.2 + 1)), I)
else none
else
some (.inr s.1, I)

noncomputable def f_Row_timesOf (t : Nat) (a1 : Int) (I : Mem) : Option ((Int) × Mem) :=
if t < 516 then
bnd (whl (f_Row_timesOf_w4 t a1) (0, 0) I) fun r14 J15 =>
some (r14, J15)
else none
set_option maxRecDepth 20000 in
theorem R_Row_timesOf (Z : ZT) (t : Nat) (a1 : Int) (I : Mem) (r : Int) (J : Mem) (hf : f_Row_timesOf t a1 I = some (r, J)) : Runs Z yX5_timesOf cX5_timesOf 4 (some .int) 1 [vr Z 2 t, vi a1] I (some (vi r), J) := by
  refine Runs.of (rv := fun x => some (vi x)) (by decide +kernel) (Nat.le_of_ble_eq_true rfl) hf (fun gr => ?_)
  unfold f_Row_timesOf
  refine WQ.loc [0, 1] (lv' := [(0, vr Z 2 t), (1, vi a1)]) rfl ?_
  refine wq_grd (fun ht => ?_)
  refine wq_iconst dX5_timesOf_0 ?_
  refine wq_istore_n (lv' := [(2, vi 0), (0, vr Z 2 t), (1, vi a1)]) dX5_timesOf_1 rfl (by decide) rfl ?_
  refine wq_iconst dX5_timesOf_2 ?_
  refine wq_istore_n (lv' := [(3, vi 0), (2, vi 0), (0, vr Z 2 t), (1, vi a1)]) dX5_timesOf_3 rfl (by decide) rfl ?_
  refine WQ.loc [2, 3, 1, 0] (lv' := [(0, vr Z 2 t), (1, vi a1), (2, vi 0), (3, vi 0)]) rfl ?_
  refine wq_loopS (fun s10 => [(0, vr Z 2 t), (1, vi a1), (2, vi s10.1), (3, vi s10.2)]) 31 (fun r14 => [(2, vi r14)]) (fun κ4 bk5 ex6 gr9 s10 J8 => ?_) (fun gr16 r14 J15 => ?_) gr _ rfl
  · unfold f_Row_timesOf_w4
    refine wq_iload_n dX5_timesOf_4 3 rfl rfl ?_
    refine wq_aload_n dX5_timesOf_5 0 rfl rfl ?_
    refine g_2_1 ht ln_RX5_15 dX5_timesOf_6 ?_
    refine wq_icmp_ge 31 dX5_timesOf_9 (by decide) rfl rfl (fun c13 => ?_) (fun c13 => ?_)
    · refine wq_aload_n dX5_timesOf_12 0 rfl rfl ?_
      refine g_2_0 ht ln_RX5_9 dX5_timesOf_13 ?_
      refine wq_iload_n dX5_timesOf_16 3 rfl rfl ?_
      refine wq_grd (fun g11 => ?_)
      refine wq_iald (k := 12) (i := t) rfl ht rfl rfl (m := (J8 2 t 2)) g11 (Nat.le_refl _) dX5_timesOf_17 ?_
      refine wq_iload_n dX5_timesOf_18 1 rfl rfl ?_
      refine wq_icmp_ne 25 dX5_timesOf_19 (by decide) rfl rfl (fun c12 => ?_) (fun c12 => ?_)
      · refine wq_iinc (lv' := [(2, vi (s10.1 + 1)), (0, vr Z 2 t), (1, vi a1), (3, vi s10.2)]) dX5_timesOf_22 2 rfl (by decide) rfl ?_
        refine wq_iinc (lv' := [(3, vi (s10.2 + 1)), (2, vi (s10.1 + 1)), (0, vr Z 2 t), (1, vi a1)]) dX5_timesOf_25 3 rfl (by decide) rfl ?_
        refine wq_goto 4 dX5_timesOf_28 (by decide) ?_
        exact WQ.loc [2, 3, 1, 0] rfl (bk5 _ _ _)
      · refine wq_iinc (lv' := [(3, vi (s10.2 + 1)), (0, vr Z 2 t), (1, vi a1), (2, vi s10.1)]) dX5_timesOf_25 3 rfl (by decide) rfl ?_
        refine wq_goto 4 dX5_timesOf_28 (by decide) ?_
        exact WQ.loc [1, 2, 3, 0] rfl (bk5 _ _ _)
    · exact WQ.loc [2] rfl (ex6 _ _ _)
  · refine wq_iload_n dX5_timesOf_31 0 rfl rfl ?_
    exact wq_iret rfl rfl dX5_timesOf_32

noncomputable def f_Row_join_j70 (v0 : Nat) (v1 : Int) (v2 : Int) (v3 : Int) (v4 : Int) (v5 : Int) (v6 : Int)   (I : Mem) : Option (((Int × Int × Int) ⊕ (Int × Int)) × Mem) :=
if 0 ≤ (w32 v6) ∧ (w32 v6) < (I 2 v0 2) then
if 0 ≤ (w32 v5) ∧ (w32 v5) < (I 2 v0 2) then
ltI (sI I 12 v0 (w32 v5).toNat (I 12 v0 (w32 v6).toNat)) fun J11 =>
some (.inl (v4, (v5 + 1), (v6 + 1)), J11)
else none
else none

noncomputable def f_Row_join_w9 (v0 : Nat) (v1 : Int) (v2 : Int) (v3 : Int) (s : Int × Int × Int) (I : Mem) : Option (((Int × Int × Int) ⊕ (Int × Int)) × Mem) :=
if (w32 s.2.2) < (w32 (I 2 v0 1)) then
if 0 ≤ (w32 s.2.2) ∧ (w32 s.2.2) < (I 2 v0 2) then
if (w32 (I 12 v0 (w32 s.2.2).toNat)) = (w32 v1) then
if (w32 (s.2.2 + 1)) < (w32 (I 2 v0 1)) then
if 0 ≤ (w32 (s.2.2 + 1)) ∧ (w32 (s.2.2 + 1)) < (I 2 v0 2) then
if (w32 (I 12 v0 (w32 (s.2.2 + 1)).toNat)) = (w32 v2) then
if 0 ≤ (w32 s.2.1) ∧ (w32 s.2.1) < (I 2 v0 2) then
ltI (sI I 12 v0 (w32 s.2.1).toNat v3) fun J5 =>
some (.inl ((s.1 + 1), (s.2.1 + 1), ((s.2.2 + 1) + 1)), J5)
else none
else
f_Row_join_j70 v0 v1 v2 v3 s.1 s.2.1 s.2.2 I
else none
else
f_Row_join_j70 v0 v1 v2 v3 s.1 s.2.1 s.2.2 I
else
f_Row_join_j70 v0 v1 v2 v3 s.1 s.2.1 s.2.2 I
else none
else
some (.inr (s.1, s.2.1), I)

noncomputable def f_Row_join (t : Nat) (a1 : Int) (a2 : Int) (a3 : Int) (I : Mem) : Option ((Int) × Mem) :=
if t < 516 then
bnd (whl (f_Row_join_w9 t a1 a2 a3) (0, 0, 0) I) fun r39 J40 =>
ltI (sI J40 2 t 1 r39.2) fun J42 =>
some (r39.1, J42)
else none
set_option maxRecDepth 20000 in
theorem R_Row_join (Z : ZT) (t : Nat) (a1 : Int) (a2 : Int) (a3 : Int) (I : Mem) (r : Int) (J : Mem) (hf : f_Row_join t a1 a2 a3 I = some (r, J)) : Runs Z yX5_join cX5_join 7 (some .int) 1 [vr Z 2 t, vi a1, vi a2, vi a3] I (some (vi r), J) := by
  refine Runs.of (rv := fun x => some (vi x)) (by decide +kernel) (Nat.le_of_ble_eq_true rfl) hf (fun gr => ?_)
  unfold f_Row_join
  refine WQ.loc [0, 1, 2, 3] (lv' := [(0, vr Z 2 t), (1, vi a1), (2, vi a2), (3, vi a3)]) rfl ?_
  refine wq_grd (fun ht => ?_)
  refine wq_iconst dX5_join_0 ?_
  refine wq_istore (lv' := [(4, vi 0), (0, vr Z 2 t), (1, vi a1), (2, vi a2), (3, vi a3)]) dX5_join_1 (by decide) rfl ?_
  refine wq_iconst dX5_join_3 ?_
  refine wq_istore (lv' := [(5, vi 0), (4, vi 0), (0, vr Z 2 t), (1, vi a1), (2, vi a2), (3, vi a3)]) dX5_join_4 (by decide) rfl ?_
  refine wq_iconst dX5_join_6 ?_
  refine wq_istore (lv' := [(6, vi 0), (5, vi 0), (4, vi 0), (0, vr Z 2 t), (1, vi a1), (2, vi a2), (3, vi a3)]) dX5_join_7 (by decide) rfl ?_
  refine WQ.loc [3, 4, 5, 6, 2, 1, 0] (lv' := [(0, vr Z 2 t), (1, vi a1), (2, vi a2), (3, vi a3), (4, vi 0), (5, vi 0), (6, vi 0)]) rfl ?_
  refine wq_loopS (fun s24 => [(0, vr Z 2 t), (1, vi a1), (2, vi a2), (3, vi a3), (4, vi s24.1), (5, vi s24.2.1), (6, vi s24.2.2)]) 93 (fun r39 => [(0, vr Z 2 t), (4, vi r39.1), (5, vi r39.2)]) (fun κ18 bk19 ex20 gr23 s24 J22 => ?_) (fun gr41 r39 J40 => ?_) gr _ rfl
  · unfold f_Row_join_w9
    refine wq_iload dX5_join_9 6 rfl ?_
    refine wq_aload_n dX5_join_11 0 rfl rfl ?_
    refine g_2_1 ht ln_RX5_15 dX5_join_12 ?_
    refine wq_icmp_ge 93 dX5_join_15 (by decide) rfl rfl (fun c38 => ?_) (fun c38 => ?_)
    · refine wq_aload_n dX5_join_18 0 rfl rfl ?_
      refine g_2_0 ht ln_RX5_9 dX5_join_19 ?_
      refine wq_iload dX5_join_22 6 rfl ?_
      refine wq_grd (fun g25 => ?_)
      refine wq_iald (k := 12) (i := t) rfl ht rfl rfl (m := (J22 2 t 2)) g25 (Nat.le_refl _) dX5_join_24 ?_
      refine wq_iload_n dX5_join_25 1 rfl rfl ?_
      have hj26 : ∀ (gr34 : Nat → Nat)   (J33 : Mem), WQ Z (yX5_join, cX5_join, 7, some .int, 1) I gr34 70 [(0, vr Z 2 t), (1, vi a1), (2, vi a2), (3, vi a3), (4, vi s24.1), (5, vi s24.2.1), (6, vi s24.2.2)] [] J33 (f_Row_join_j70 t a1 a2 a3 s24.1 s24.2.1 s24.2.2 J33) κ18 := by
        intro gr34 J33
        unfold f_Row_join_j70
        refine wq_aload_n dX5_join_70 0 rfl rfl ?_
        refine g_2_0 ht ln_RX5_9 dX5_join_71 ?_
        refine wq_iload dX5_join_74 5 rfl ?_
        refine wq_aload_n dX5_join_76 0 rfl rfl ?_
        refine g_2_0 ht ln_RX5_9 dX5_join_77 ?_
        refine wq_iload dX5_join_80 6 rfl ?_
        refine wq_grd (fun g35 => ?_)
        refine wq_iald (k := 12) (i := t) rfl ht rfl rfl (m := (J33 2 t 2)) g35 (Nat.le_refl _) dX5_join_82 ?_
        refine wq_grd (fun g36 => ?_)
        refine wq_iast (k := 12) (i := t) (fun K hK => by show arI _ (K 2 _ 2).toNat _ = _; rw [hK]) ht rfl rfl (m := (J33 2 t 2)) g36 (Nat.le_refl _) (by decide) (by decide) (by decide) dX5_join_83 (fun J37 => ?_)
        refine wq_iinc (lv' := [(5, vi (s24.2.1 + 1)), (0, vr Z 2 t), (1, vi a1), (2, vi a2), (3, vi a3), (4, vi s24.1), (6, vi s24.2.2)]) dX5_join_84 5 rfl (by decide) rfl ?_
        refine wq_iinc (lv' := [(6, vi (s24.2.2 + 1)), (5, vi (s24.2.1 + 1)), (0, vr Z 2 t), (1, vi a1), (2, vi a2), (3, vi a3), (4, vi s24.1)]) dX5_join_87 6 rfl (by decide) rfl ?_
        refine wq_goto 9 dX5_join_90 (by decide) ?_
        exact WQ.loc [2, 3, 4, 5, 6, 1, 0] rfl (bk19 _ _ _)
      refine wq_icmp_ne 70 dX5_join_26 (by decide) rfl rfl (fun c32 => ?_) (fun c32 => ?_)
      · refine wq_iload dX5_join_29 6 rfl ?_
        refine wq_iconst dX5_join_31 ?_
        refine wq_iadd dX5_join_32 ?_
        refine wq_aload_n dX5_join_33 0 rfl rfl ?_
        refine g_2_1 ht ln_RX5_15 dX5_join_34 ?_
        refine wq_icmp_ge 70 dX5_join_37 (by decide) rfl rfl (fun c31 => ?_) (fun c31 => ?_)
        · refine wq_aload_n dX5_join_40 0 rfl rfl ?_
          refine g_2_0 ht ln_RX5_9 dX5_join_41 ?_
          refine wq_iload dX5_join_44 6 rfl ?_
          refine wq_iconst dX5_join_46 ?_
          refine wq_iadd dX5_join_47 ?_
          refine wq_grd (fun g27 => ?_)
          refine wq_iald (k := 12) (i := t) rfl ht rfl rfl (m := (J22 2 t 2)) g27 (Nat.le_refl _) dX5_join_48 ?_
          refine wq_iload_n dX5_join_49 2 rfl rfl ?_
          refine wq_icmp_ne 70 dX5_join_50 (by decide) rfl rfl (fun c30 => ?_) (fun c30 => ?_)
          · refine wq_aload_n dX5_join_53 0 rfl rfl ?_
            refine g_2_0 ht ln_RX5_9 dX5_join_54 ?_
            refine wq_iload dX5_join_57 5 rfl ?_
            refine wq_iload_n dX5_join_59 3 rfl rfl ?_
            refine wq_grd (fun g28 => ?_)
            refine wq_iast (k := 12) (i := t) (fun K hK => by show arI _ (K 2 _ 2).toNat _ = _; rw [hK]) ht rfl rfl (m := (J22 2 t 2)) g28 (Nat.le_refl _) (by decide) (by decide) (by decide) dX5_join_60 (fun J29 => ?_)
            refine wq_iinc (lv' := [(6, vi (s24.2.2 + 1)), (0, vr Z 2 t), (1, vi a1), (2, vi a2), (3, vi a3), (4, vi s24.1), (5, vi s24.2.1)]) dX5_join_61 6 rfl (by decide) rfl ?_
            refine wq_iinc (lv' := [(4, vi (s24.1 + 1)), (6, vi (s24.2.2 + 1)), (0, vr Z 2 t), (1, vi a1), (2, vi a2), (3, vi a3), (5, vi s24.2.1)]) dX5_join_64 5 rfl (by decide) rfl ?_
            refine wq_goto 84 dX5_join_67 (by decide) ?_
            refine wq_iinc (lv' := [(5, vi (s24.2.1 + 1)), (4, vi (s24.1 + 1)), (6, vi (s24.2.2 + 1)), (0, vr Z 2 t), (1, vi a1), (2, vi a2), (3, vi a3)]) dX5_join_84 6 rfl (by decide) rfl ?_
            refine wq_iinc (lv' := [(6, vi ((s24.2.2 + 1) + 1)), (5, vi (s24.2.1 + 1)), (4, vi (s24.1 + 1)), (0, vr Z 2 t), (1, vi a1), (2, vi a2), (3, vi a3)]) dX5_join_87 2 rfl (by decide) rfl ?_
            refine wq_goto 9 dX5_join_90 (by decide) ?_
            exact WQ.loc [3, 4, 5, 6, 2, 1, 0] rfl (bk19 _ _ _)
          · exact WQ.loc [0, 1, 2, 3, 4, 5, 6] rfl (hj26 _   _)
        · exact WQ.loc [0, 1, 2, 3, 4, 5, 6] rfl (hj26 _   _)
      · exact WQ.loc [0, 1, 2, 3, 4, 5, 6] rfl (hj26 _   _)
    · exact WQ.loc [0, 4, 5] rfl (ex20 _ _ _)
  · refine wq_aload_n dX5_join_93 0 rfl rfl ?_
    refine wq_iload dX5_join_94 2 rfl ?_
    refine p_2_1 ht ln_RX5_15 dX5_join_96 (fun J42 => ?_)
    refine wq_iload dX5_join_99 1 rfl ?_
    exact wq_iret rfl rfl dX5_join_101

theorem ln_RX5_37 : Cond.methodLink RX5 37 Lib.Math.min.name ∈ lw_good := li_2 94 (by decide +kernel) (by decide +kernel)
noncomputable def f_Row_makeRoom_w24 (v0 : Nat) (v1 : Int) (s : Int × Int) (I : Mem) : Option (((Int × Int) ⊕ (Int)) × Mem) :=
if (w32 s.2) < 4 then
if (w32 s.1) < (w32 v1) then
some (.inl ((imn (4 * s.1) 400), (s.2 + 1)), I)
else
some (.inr s.1, I)
else
some (.inr s.1, I)

noncomputable def f_Row_makeRoom (t : Nat) (a1 : Int) (I : Mem) : Option ((Int) × Mem) :=
if t < 516 then
if 0 ≤ (I 2 t 2) then
if (w32 (I 2 t 2)) < (w32 a1) then
if 400 < (w32 a1) then
some (0, I)
else
bnd (whl (f_Row_makeRoom_w24 t a1) (4, 0) I) fun r13 J14 =>
if 0 ≤ (w32 r13) ∧ (w32 r13) ≤ 262144 ∧ 0 ≤ (w32 (J14 2 t 1)) ∧ (w32 (J14 2 t 1)) ≤ (J14 2 t 2) ∧ (w32 (J14 2 t 1)) ≤ (w32 r13) then
ltI (grw J14 12 2 t (w32 r13) (w32 (J14 2 t 1))) fun J17 =>
some (1, J17)
else none
else
some (1, I)
else none
else none
set_option maxRecDepth 20000 in
theorem R_Row_makeRoom (Z : ZT) (t : Nat) (a1 : Int) (I : Mem) (r : Int) (J : Mem) (hf : f_Row_makeRoom t a1 I = some (r, J)) : Runs Z yX5_makeRoom cX5_makeRoom 4 (some .boolean) 1 [vr Z 2 t, vi a1] I (some (vi r), J) := by
  refine Runs.of (rv := fun x => some (vi x)) (by decide +kernel) (Nat.le_of_ble_eq_true rfl) hf (fun gr => ?_)
  unfold f_Row_makeRoom
  refine WQ.loc [0, 1] (lv' := [(0, vr Z 2 t), (1, vi a1)]) rfl ?_
  refine wq_grd (fun ht => ?_)
  refine wq_iload_n dX5_makeRoom_0 1 rfl rfl ?_
  refine wq_aload_n dX5_makeRoom_1 0 rfl rfl ?_
  refine g_2_0 ht ln_RX5_9 dX5_makeRoom_2 ?_
  refine wq_grd (fun g1 => ?_)
  refine wq_alen (k := 12) (i := t) (t0 := 0) rfl rfl ht rfl (alen_ok g1) dX5_makeRoom_5 ?_
  refine wq_icmp_gt 11 dX5_makeRoom_6 (by decide) rfl rfl (fun c20 => ?_) (fun c20 => ?_)
  · refine wq_iload_n dX5_makeRoom_11 1 rfl rfl ?_
    refine wq_sipush dX5_makeRoom_12 (by decide) ?_
    refine wq_icmp_le 20 dX5_makeRoom_15 (by decide) rfl rfl (fun c19 => ?_) (fun c19 => ?_)
    · refine wq_iconst dX5_makeRoom_18 ?_
      exact wq_zret rfl (by decide) rfl dX5_makeRoom_19
    · refine wq_iconst dX5_makeRoom_20 ?_
      refine wq_istore_n (lv' := [(2, vi 4), (0, vr Z 2 t), (1, vi a1)]) dX5_makeRoom_21 rfl (by decide) rfl ?_
      refine wq_iconst dX5_makeRoom_22 ?_
      refine wq_istore_n (lv' := [(3, vi 0), (2, vi 4), (0, vr Z 2 t), (1, vi a1)]) dX5_makeRoom_23 rfl (by decide) rfl ?_
      refine WQ.loc [2, 3, 1, 0] (lv' := [(0, vr Z 2 t), (1, vi a1), (2, vi 4), (3, vi 0)]) rfl ?_
      refine wq_loopS (fun s10 => [(0, vr Z 2 t), (1, vi a1), (2, vi s10.1), (3, vi s10.2)]) 50 (fun r13 => [(0, vr Z 2 t), (2, vi r13)]) (fun κ4 bk5 ex6 gr9 s10 J8 => ?_) (fun gr15 r13 J14 => ?_) gr _ rfl
      · unfold f_Row_makeRoom_w24
        refine wq_iload_n dX5_makeRoom_24 3 rfl rfl ?_
        refine wq_iconst dX5_makeRoom_25 ?_
        refine wq_icmp_ge 50 dX5_makeRoom_26 (by decide) rfl rfl (fun c12 => ?_) (fun c12 => ?_)
        · refine wq_iload_n dX5_makeRoom_29 2 rfl rfl ?_
          refine wq_iload_n dX5_makeRoom_30 1 rfl rfl ?_
          refine wq_icmp_ge 50 dX5_makeRoom_31 (by decide) rfl rfl (fun c11 => ?_) (fun c11 => ?_)
          · refine wq_iconst dX5_makeRoom_34 ?_
            refine wq_iload_n dX5_makeRoom_35 2 rfl rfl ?_
            refine wq_imul dX5_makeRoom_36 ?_
            refine wq_sipush dX5_makeRoom_37 (by decide) ?_
            refine wq_min (by decide) (Nat.le_of_ble_eq_true rfl) ln_RX5_37 mt_min_s mt_i mt_min_c dX5_makeRoom_40 ?_
            refine wq_istore_n (lv' := [(2, vi (imn (4 * s10.1) 400)), (0, vr Z 2 t), (1, vi a1), (3, vi s10.2)]) dX5_makeRoom_43 rfl (by decide) rfl ?_
            refine wq_iinc (lv' := [(3, vi (s10.2 + 1)), (2, vi (imn (4 * s10.1) 400)), (0, vr Z 2 t), (1, vi a1)]) dX5_makeRoom_44 3 rfl (by decide) rfl ?_
            refine wq_goto 24 dX5_makeRoom_47 (by decide) ?_
            exact WQ.loc [2, 3, 1, 0] rfl (bk5 _ _ _)
          · exact WQ.loc [0, 2] rfl (ex6 _ _ _)
        · exact WQ.loc [0, 2] rfl (ex6 _ _ _)
      · refine wq_iload_n dX5_makeRoom_50 1 rfl rfl ?_
        refine WQ.loc [0] (lv' := [(0, vr Z 2 t)]) rfl ?_
        refine wq_grd (fun g16 => ?_)
        refine wq_growR (lv' := [(0, vr Z 2 t)]) ht rfl (by decide) rfl rfl rfl rfl rfl g16 (fun gr18 J17 => ?_)
        refine wq_iconst dX5_makeRoom_73 ?_
        exact wq_zret rfl (by decide) rfl dX5_makeRoom_74
  · refine wq_iconst dX5_makeRoom_9 ?_
    exact wq_zret rfl (by decide) rfl dX5_makeRoom_10

theorem ln_RX9_12 : Cond.fieldLink RX9 12 RX9 "pairs" "LPairRules$PairTable;" ∈ lw_good := li_1 133 (by decide +kernel) (by decide +kernel)
noncomputable def f_Stp_pairs  (I : Mem) : Option ((Nat) × Mem) :=
some (0, I)
set_option maxRecDepth 20000 in
theorem R_Stp_pairs (Z : ZT)  (I : Mem) (r : Nat) (J : Mem) (hf : f_Stp_pairs I = some (r, J)) : Runs Z yX9_pairs cX9_pairs 1 (some (.object RX3)) 1 [vr Z 3 0] I (some (vr Z 4 r), J) := by
  refine Runs.of (rv := fun x => some (vr Z 4 x)) (by decide +kernel) (Nat.le_of_ble_eq_true rfl) hf (fun gr => ?_)
  unfold f_Stp_pairs
  refine WQ.loc [0] (lv' := [(0, vr Z 3 0)]) rfl ?_
  refine wq_aload_n dX9_pairs_0 0 rfl rfl ?_
  refine g_3_0 ln_RX9_12 dX9_pairs_1 ?_
  exact wq_aret rfl (Or.inl ⟨_, rfl⟩) rfl dX9_pairs_4

theorem M_Row_many : MwV yX5_many cX5_many 1 (some .int) 0 := ⟨li_3 48 (by decide +kernel) (by decide +kernel), li_3 46 (by decide +kernel) (by decide +kernel), li_3 47 (by decide +kernel) (by decide +kernel), li_1 3 (by decide +kernel) (by decide +kernel), by decide +kernel⟩
theorem ln_RX9_75 : Cond.methodLink RX9 75 yX5_many ∈ lw_good := li_4 148 (by decide +kernel) (by decide +kernel)
theorem M_Row_at : MwV yX5_at cX5_at 2 (some .int) 1 := ⟨li_3 136 (by decide +kernel) (by decide +kernel), li_3 134 (by decide +kernel) (by decide +kernel), li_3 135 (by decide +kernel) (by decide +kernel), li_1 3 (by decide +kernel) (by decide +kernel), by decide +kernel⟩
theorem ln_RX9_18 : Cond.fieldLink RX9 18 RX9 "uses" "[I" ∈ lw_good := li_1 134 (by decide +kernel) (by decide +kernel)
theorem ln_RX9_80 : Cond.methodLink RX9 80 yX5_at ∈ lw_good := li_4 149 (by decide +kernel) (by decide +kernel)
noncomputable def f_Stp_noteUses_w2 (v1 : Nat) (v2 : Int) (s : Int) (I : Mem) : Option (((Int) ⊕ (Unit)) × Mem) :=
if (w32 s) < (w32 (I 2 v1 1)) then
bnd (f_Row_at v1 s I) fun x4 J3 =>
if (w32 (x4 - 26)) < 0 then
some (.inl (s + 1), J3)
else
if (w32 (x4 - 26)) < 40 then
if 0 ≤ (w32 (x4 - 26)) ∧ (w32 (x4 - 26)) < 40 then
ltI (sI J3 17 0 (w32 (x4 - 26)).toNat ((J3 17 0 (w32 (x4 - 26)).toNat) + v2)) fun J6 =>
some (.inl (s + 1), J6)
else none
else
some (.inl (s + 1), J3)
else
some (.inr (), I)

noncomputable def f_Stp_noteUses (a1 : Nat) (a2 : Int) (I : Mem) : Option ((Unit) × Mem) :=
if a1 < 516 then
bnd (whl (f_Stp_noteUses_w2 a1 a2) 0 I) fun r26 J27 =>
some ((), J27)
else none
set_option maxRecDepth 20000 in
theorem R_Stp_noteUses (Z : ZT) (a1 : Nat) (a2 : Int) (I : Mem) (r : Unit) (J : Mem) (hf : f_Stp_noteUses a1 a2 I = some (r, J)) : Runs Z yX9_noteUses cX9_noteUses 5 (none) 2 [vr Z 3 0, vr Z 2 a1, vi a2] I (none, J) := by
  refine Runs.of (rv := fun _ => none) (by decide +kernel) (Nat.le_of_ble_eq_true rfl) hf (fun gr => ?_)
  unfold f_Stp_noteUses
  refine WQ.loc [0, 1, 2] (lv' := [(0, vr Z 3 0), (1, vr Z 2 a1), (2, vi a2)]) rfl ?_
  refine wq_grd (fun h1 => ?_)
  refine wq_iconst dX9_noteUses_0 ?_
  refine wq_istore_n (lv' := [(3, vi 0), (0, vr Z 3 0), (1, vr Z 2 a1), (2, vi a2)]) dX9_noteUses_1 rfl (by decide) rfl ?_
  refine WQ.loc [1, 2, 3, 0] (lv' := [(0, vr Z 3 0), (1, vr Z 2 a1), (2, vi a2), (3, vi 0)]) rfl ?_
  refine wq_loopS (fun s16 => [(0, vr Z 3 0), (1, vr Z 2 a1), (2, vi a2), (3, vi s16)]) 49 (fun _ => []) (fun κ10 bk11 ex12 gr15 s16 J14 => ?_) (fun gr28 r26 J27 => ?_) gr _ rfl
  · unfold f_Stp_noteUses_w2
    refine wq_iload_n dX9_noteUses_2 3 rfl rfl ?_
    refine wq_aload_n dX9_noteUses_3 1 rfl rfl ?_
    refine wq_pV (v := vi (J14 2 a1 1)) M_Row_many (R_Row_many Z a1 _ _ _ (if_pos h1)) (ob_2 h1) rfl rfl (by decide) (by decide) (Nat.le_of_ble_eq_true rfl) ln_RX9_75 dX9_noteUses_4 (fun gr17 => ?_)
    refine wq_icmp_ge 49 dX9_noteUses_7 (by decide) rfl rfl (fun c25 => ?_) (fun c25 => ?_)
    · refine wq_aload_n dX9_noteUses_10 1 rfl rfl ?_
      refine wq_iload_n dX9_noteUses_11 3 rfl rfl ?_
      refine wq_cVi M_Row_at (R_Row_at Z a1 s16 _) (ob_2 h1) rfl rfl (by decide) (by decide) (Nat.le_of_ble_eq_true rfl) ln_RX9_80 dX9_noteUses_12 (fun gr18 x20 J19 => ?_)
      refine wq_bipush dX9_noteUses_15 (by decide) ?_
      refine wq_isub dX9_noteUses_17 ?_
      refine wq_istore (lv' := [(4, vi (x20 - 26)), (0, vr Z 3 0), (1, vr Z 2 a1), (2, vi a2), (3, vi s16)]) dX9_noteUses_18 (by decide) rfl ?_
      refine wq_iload dX9_noteUses_20 0 rfl ?_
      refine wq_if_lt 43 dX9_noteUses_22 (by decide) rfl (fun c24 => ?_) (fun c24 => ?_)
      · refine wq_iinc (lv' := [(3, vi (s16 + 1)), (4, vi (x20 - 26)), (0, vr Z 3 0), (1, vr Z 2 a1), (2, vi a2)]) dX9_noteUses_43 4 rfl (by decide) rfl ?_
        refine wq_goto 2 dX9_noteUses_46 (by decide) ?_
        exact WQ.loc [2, 3, 4, 0] rfl (bk11 _ _ _)
      · refine wq_iload dX9_noteUses_25 0 rfl ?_
        refine wq_bipush dX9_noteUses_27 (by decide) ?_
        refine wq_icmp_ge 43 dX9_noteUses_29 (by decide) rfl rfl (fun c23 => ?_) (fun c23 => ?_)
        · refine wq_aload_n dX9_noteUses_32 1 rfl rfl ?_
          refine g_3_1 ln_RX9_18 dX9_noteUses_33 ?_
          refine wq_iload dX9_noteUses_36 0 rfl ?_
          refine wq_dup2 dX9_noteUses_38 rfl rfl ?_
          refine wq_grd (fun g21 => ?_)
          refine wq_iald (k := 17) (i := 0) rfl (by decide) rfl rfl (m := 40) g21 (Nat.le_refl _) dX9_noteUses_39 ?_
          refine wq_iload_n dX9_noteUses_40 3 rfl rfl ?_
          refine wq_iadd dX9_noteUses_41 ?_
          refine wq_iast (k := 17) (i := 0) (fun _ _ => rfl) (by decide) rfl rfl (m := 40) g21 (Nat.le_refl _) (by decide) (by decide) (by decide) dX9_noteUses_42 (fun J22 => ?_)
          refine wq_iinc (lv' := [(3, vi (s16 + 1)), (4, vi (x20 - 26)), (0, vr Z 3 0), (1, vr Z 2 a1), (2, vi a2)]) dX9_noteUses_43 4 rfl (by decide) rfl ?_
          refine wq_goto 2 dX9_noteUses_46 (by decide) ?_
          exact WQ.loc [2, 3, 4, 0] rfl (bk11 _ _ _)
        · refine wq_iinc (lv' := [(3, vi (s16 + 1)), (4, vi (x20 - 26)), (0, vr Z 3 0), (1, vr Z 2 a1), (2, vi a2)]) dX9_noteUses_43 4 rfl (by decide) rfl ?_
          refine wq_goto 2 dX9_noteUses_46 (by decide) ?_
          exact WQ.loc [2, 3, 4, 0] rfl (bk11 _ _ _)
    · exact WQ.loc [] rfl (ex12 _ _ _)
  · exact wq_vret rfl rfl dX9_noteUses_49

theorem M_PR_isSymbol : MwS yX12_isSymbol cX12_isSymbol 1 (some .boolean) 1 := ⟨li_4 59 (by decide +kernel) (by decide +kernel), li_4 58 (by decide +kernel) (by decide +kernel), li_1 1 (by decide +kernel) (by decide +kernel), by decide +kernel⟩
theorem ln_RX3_69 : Cond.methodLinkNest RX3 69 yX12_isSymbol RX12 ∈ lw_nw := nw_in 914 (by decide +kernel) (by decide +kernel)
noncomputable def f_PT_pairOf (a1 : Int) (a2 : Int) (I : Mem) : Option ((Int) × Mem) :=
bnd (f_PR_isSymbol a1 I) fun x3 J2 =>
if (w32 x3) = 0 then
some ((-1), J2)
else
bnd (f_PR_isSymbol a2 J2) fun x6 J5 =>
if (w32 x6) = 0 then
some ((-1), J5)
else
some (((a1 * 66) + a2), J5)
set_option maxRecDepth 20000 in
theorem R_PT_pairOf (Z : ZT) (a1 : Int) (a2 : Int) (I : Mem) (r : Int) (J : Mem) (hf : f_PT_pairOf a1 a2 I = some (r, J)) : Runs Z yX3_pairOf cX3_pairOf 3 (some .int) 2 [vr Z 4 0, vi a1, vi a2] I (some (vi r), J) := by
  refine Runs.of (rv := fun x => some (vi x)) (by decide +kernel) (Nat.le_of_ble_eq_true rfl) hf (fun gr => ?_)
  unfold f_PT_pairOf
  refine WQ.loc [0, 1, 2] (lv' := [(0, vr Z 4 0), (1, vi a1), (2, vi a2)]) rfl ?_
  refine wq_iload_n dX3_pairOf_0 1 rfl rfl ?_
  refine wq_cNi M_PR_isSymbol (R_PR_isSymbol Z a1 _) rfl rfl (by decide) (by decide) (Nat.le_of_ble_eq_true rfl) ln_RX3_69 dX3_pairOf_1 (fun gr1 x3 J2 => ?_)
  refine wq_if_eq 23 dX3_pairOf_4 (by decide) rfl (fun c8 => ?_) (fun c8 => ?_)
  · refine wq_iconst dX3_pairOf_23 ?_
    exact wq_iret rfl rfl dX3_pairOf_24
  · refine wq_iload_n dX3_pairOf_7 2 rfl rfl ?_
    refine wq_cNi M_PR_isSymbol (R_PR_isSymbol Z a2 _) rfl rfl (by decide) (by decide) (Nat.le_of_ble_eq_true rfl) ln_RX3_69 dX3_pairOf_8 (fun gr4 x6 J5 => ?_)
    refine wq_if_eq 23 dX3_pairOf_11 (by decide) rfl (fun c7 => ?_) (fun c7 => ?_)
    · refine wq_iconst dX3_pairOf_23 ?_
      exact wq_iret rfl rfl dX3_pairOf_24
    · refine wq_iload_n dX3_pairOf_14 1 rfl rfl ?_
      refine wq_bipush dX3_pairOf_15 (by decide) ?_
      refine wq_imul dX3_pairOf_17 ?_
      refine wq_iload_n dX3_pairOf_18 2 rfl rfl ?_
      refine wq_iadd dX3_pairOf_19 ?_
      refine wq_goto 24 dX3_pairOf_20 (by decide) ?_
      exact wq_iret rfl rfl dX3_pairOf_24

noncomputable def f_PT_firstOf (a1 : Int) (I : Mem) : Option ((Int) × Mem) :=
some ((idv a1 66), I)
set_option maxRecDepth 20000 in
theorem R_PT_firstOf (Z : ZT) (a1 : Int) (I : Mem) (r : Int) (J : Mem) (hf : f_PT_firstOf a1 I = some (r, J)) : Runs Z yX3_firstOf cX3_firstOf 2 (some .int) 1 [vr Z 4 0, vi a1] I (some (vi r), J) := by
  refine Runs.of (rv := fun x => some (vi x)) (by decide +kernel) (Nat.le_of_ble_eq_true rfl) hf (fun gr => ?_)
  unfold f_PT_firstOf
  refine WQ.loc [0, 1] (lv' := [(0, vr Z 4 0), (1, vi a1)]) rfl ?_
  refine wq_iload_n dX3_firstOf_0 1 rfl rfl ?_
  refine wq_bipush dX3_firstOf_1 (by decide) ?_
  refine wq_idiv dX3_firstOf_3 (by decide) ?_
  exact wq_iret rfl rfl dX3_firstOf_4

noncomputable def f_PT_secondOf (a1 : Int) (I : Mem) : Option ((Int) × Mem) :=
some ((irm a1 66), I)
set_option maxRecDepth 20000 in
theorem R_PT_secondOf (Z : ZT) (a1 : Int) (I : Mem) (r : Int) (J : Mem) (hf : f_PT_secondOf a1 I = some (r, J)) : Runs Z yX3_secondOf cX3_secondOf 2 (some .int) 1 [vr Z 4 0, vi a1] I (some (vi r), J) := by
  refine Runs.of (rv := fun x => some (vi x)) (by decide +kernel) (Nat.le_of_ble_eq_true rfl) hf (fun gr => ?_)
  unfold f_PT_secondOf
  refine WQ.loc [0, 1] (lv' := [(0, vr Z 4 0), (1, vi a1)]) rfl ?_
  refine wq_iload_n dX3_secondOf_0 1 rfl rfl ?_
  refine wq_bipush dX3_secondOf_1 (by decide) ?_
  refine wq_irem dX3_secondOf_3 (by decide) ?_
  exact wq_iret rfl rfl dX3_secondOf_4

theorem ln_RX3_11 : Cond.fieldLink RX3 11 RX3 "counts" "[I" ∈ lw_good := li_1 102 (by decide +kernel) (by decide +kernel)
noncomputable def f_PT_countOf (a1 : Int) (I : Mem) : Option ((Int) × Mem) :=
if (w32 a1) < 0 then
some (0, I)
else
if (w32 a1) < 4356 then
if 0 ≤ (w32 a1) ∧ (w32 a1) < 4356 then
some ((I 16 0 (w32 a1).toNat), I)
else none
else
some (0, I)
set_option maxRecDepth 20000 in
theorem R_PT_countOf (Z : ZT) (a1 : Int) (I : Mem) (r : Int) (J : Mem) (hf : f_PT_countOf a1 I = some (r, J)) : Runs Z yX3_countOf cX3_countOf 2 (some .int) 1 [vr Z 4 0, vi a1] I (some (vi r), J) := by
  refine Runs.of (rv := fun x => some (vi x)) (by decide +kernel) (Nat.le_of_ble_eq_true rfl) hf (fun gr => ?_)
  unfold f_PT_countOf
  refine WQ.loc [0, 1] (lv' := [(0, vr Z 4 0), (1, vi a1)]) rfl ?_
  refine wq_iload_n dX3_countOf_0 1 rfl rfl ?_
  refine wq_if_lt 20 dX3_countOf_1 (by decide) rfl (fun c3 => ?_) (fun c3 => ?_)
  · refine wq_iconst dX3_countOf_20 ?_
    exact wq_iret rfl rfl dX3_countOf_21
  · refine wq_iload_n dX3_countOf_4 1 rfl rfl ?_
    refine wq_sipush dX3_countOf_5 (by decide) ?_
    refine wq_icmp_ge 20 dX3_countOf_8 (by decide) rfl rfl (fun c2 => ?_) (fun c2 => ?_)
    · refine wq_aload_n dX3_countOf_11 0 rfl rfl ?_
      refine g_4_0 ln_RX3_11 dX3_countOf_12 ?_
      refine wq_iload_n dX3_countOf_15 1 rfl rfl ?_
      refine wq_grd (fun g1 => ?_)
      refine wq_iald (k := 16) (i := 0) rfl (by decide) rfl rfl (m := 4356) g1 (Nat.le_refl _) dX3_countOf_16 ?_
      refine wq_goto 21 dX3_countOf_17 (by decide) ?_
      exact wq_iret rfl rfl dX3_countOf_21
    · refine wq_iconst dX3_countOf_20 ?_
      exact wq_iret rfl rfl dX3_countOf_21

theorem ln_RX3_18 : Cond.fieldLink RX3 18 RX3 "kepts" "[I" ∈ lw_good := li_1 104 (by decide +kernel) (by decide +kernel)
noncomputable def f_PT_keptOf (a1 : Int) (I : Mem) : Option ((Int) × Mem) :=
if (w32 a1) < 0 then
some ((-1), I)
else
if (w32 a1) < 4356 then
if 0 ≤ (w32 a1) ∧ (w32 a1) < 4356 then
some ((I 16 2 (w32 a1).toNat), I)
else none
else
some ((-1), I)
set_option maxRecDepth 20000 in
theorem R_PT_keptOf (Z : ZT) (a1 : Int) (I : Mem) (r : Int) (J : Mem) (hf : f_PT_keptOf a1 I = some (r, J)) : Runs Z yX3_keptOf cX3_keptOf 2 (some .int) 1 [vr Z 4 0, vi a1] I (some (vi r), J) := by
  refine Runs.of (rv := fun x => some (vi x)) (by decide +kernel) (Nat.le_of_ble_eq_true rfl) hf (fun gr => ?_)
  unfold f_PT_keptOf
  refine WQ.loc [0, 1] (lv' := [(0, vr Z 4 0), (1, vi a1)]) rfl ?_
  refine wq_iload_n dX3_keptOf_0 1 rfl rfl ?_
  refine wq_if_lt 20 dX3_keptOf_1 (by decide) rfl (fun c3 => ?_) (fun c3 => ?_)
  · refine wq_iconst dX3_keptOf_20 ?_
    exact wq_iret rfl rfl dX3_keptOf_21
  · refine wq_iload_n dX3_keptOf_4 1 rfl rfl ?_
    refine wq_sipush dX3_keptOf_5 (by decide) ?_
    refine wq_icmp_ge 20 dX3_keptOf_8 (by decide) rfl rfl (fun c2 => ?_) (fun c2 => ?_)
    · refine wq_aload_n dX3_keptOf_11 0 rfl rfl ?_
      refine g_4_2 ln_RX3_18 dX3_keptOf_12 ?_
      refine wq_iload_n dX3_keptOf_15 1 rfl rfl ?_
      refine wq_grd (fun g1 => ?_)
      refine wq_iald (k := 16) (i := 2) rfl (by decide) rfl rfl (m := 4356) g1 (Nat.le_refl _) dX3_keptOf_16 ?_
      refine wq_goto 21 dX3_keptOf_17 (by decide) ?_
      exact wq_iret rfl rfl dX3_keptOf_21
    · refine wq_iconst dX3_keptOf_20 ?_
      exact wq_iret rfl rfl dX3_keptOf_21

theorem M_PT_keptOf : MwV yX3_keptOf cX3_keptOf 2 (some .int) 1 := ⟨li_4 84 (by decide +kernel) (by decide +kernel), li_4 82 (by decide +kernel) (by decide +kernel), li_4 83 (by decide +kernel) (by decide +kernel), li_1 5 (by decide +kernel) (by decide +kernel), by decide +kernel⟩
theorem ln_RX3_41 : Cond.fieldLink RX3 41 RX3 "free" "Z" ∈ lw_good := li_1 108 (by decide +kernel) (by decide +kernel)
theorem ln_RX3_31 : Cond.fieldLink RX3 31 RX3 "grammar" "LPairRules$Grammar;" ∈ lw_good := li_1 107 (by decide +kernel) (by decide +kernel)
theorem M_PT_countOf : MwV yX3_countOf cX3_countOf 2 (some .int) 1 := ⟨li_4 88 (by decide +kernel) (by decide +kernel), li_4 86 (by decide +kernel) (by decide +kernel), li_4 87 (by decide +kernel) (by decide +kernel), li_1 5 (by decide +kernel) (by decide +kernel), by decide +kernel⟩
theorem M_G_number : MwV yX1_number cX1_number 2 (some .int) 1 := ⟨li_4 92 (by decide +kernel) (by decide +kernel), li_4 90 (by decide +kernel) (by decide +kernel), li_4 91 (by decide +kernel) (by decide +kernel), li_1 2 (by decide +kernel) (by decide +kernel), by decide +kernel⟩
theorem ln_RX3_80 : Cond.methodLink RX3 80 yX1_number ∈ lw_good := li_4 89 (by decide +kernel) (by decide +kernel)
theorem ln_RX3_77 : Cond.methodLink RX3 77 yX3_countOf ∈ lw_good := li_4 85 (by decide +kernel) (by decide +kernel)
theorem ln_RX3_73 : Cond.methodLink RX3 73 yX3_keptOf ∈ lw_good := li_4 81 (by decide +kernel) (by decide +kernel)
noncomputable def f_PT_isWorth (a1 : Int) (I : Mem) : Option ((Int) × Mem) :=
bnd (f_PT_keptOf a1 I) fun x3 J2 =>
if (w32 x3) = (-1) then
if (w32 (J2 4 0 6)) = 0 then
some (0, J2)
else
if (J2 4 0 5) < 0 then
some (0, J2)
else
bnd (f_PT_countOf a1 J2) fun x6 J5 =>
if 0 ≤ (J5 4 0 5) ∧ (J5 4 0 5).toNat < 12 then
bnd (f_G_number ((J5 4 0 5).toNat) 4 J5) fun x10 J9 =>
if (w32 x6) < (w32 x10) then
some (0, J9)
else
some (1, J9)
else none
else
bnd (f_PT_countOf a1 J2) fun x16 J15 =>
if 0 < (w32 x16) then
some (1, J15)
else
some (0, J15)
set_option maxRecDepth 20000 in
theorem R_PT_isWorth (Z : ZT) (a1 : Int) (I : Mem) (r : Int) (J : Mem) (hf : f_PT_isWorth a1 I = some (r, J)) : Runs Z yX3_isWorth cX3_isWorth 2 (some .boolean) 2 [vr Z 4 0, vi a1] I (some (vi r), J) := by
  refine Runs.of (rv := fun x => some (vi x)) (by decide +kernel) (Nat.le_of_ble_eq_true rfl) hf (fun gr => ?_)
  unfold f_PT_isWorth
  refine WQ.loc [0, 1] (lv' := [(0, vr Z 4 0), (1, vi a1)]) rfl ?_
  refine wq_aload_n dX3_isWorth_0 0 rfl rfl ?_
  refine wq_iload_n dX3_isWorth_1 1 rfl rfl ?_
  refine wq_cVi M_PT_keptOf (R_PT_keptOf Z a1 _) ob_4 rfl rfl (by decide) (by decide) (Nat.le_of_ble_eq_true rfl) ln_RX3_73 dX3_isWorth_2 (fun gr1 x3 J2 => ?_)
  refine wq_iconst dX3_isWorth_5 ?_
  refine wq_icmp_eq 23 dX3_isWorth_6 (by decide) rfl rfl (fun c18 => ?_) (fun c18 => ?_)
  · refine wq_aload_n dX3_isWorth_23 0 rfl rfl ?_
    refine g_4_6 ln_RX3_41 dX3_isWorth_24 ?_
    refine wq_if_eq 57 dX3_isWorth_27 (by decide) rfl (fun c13 => ?_) (fun c13 => ?_)
    · refine wq_iconst dX3_isWorth_57 ?_
      exact wq_zret rfl (by decide) rfl dX3_isWorth_58
    · refine wq_aload_n dX3_isWorth_30 0 rfl rfl ?_
      refine g_4_5 ln_RX3_31 dX3_isWorth_31 ?_
      refine wq_ifnull 57 dX3_isWorth_34 (by decide) (fun c12 => ?_) (fun c12 => ?_)
      · refine wq_iconst dX3_isWorth_57 ?_
        exact wq_zret rfl (by decide) rfl dX3_isWorth_58
      · refine wq_aload_n dX3_isWorth_37 0 rfl rfl ?_
        refine wq_iload_n dX3_isWorth_38 1 rfl rfl ?_
        refine wq_cVi M_PT_countOf (R_PT_countOf Z a1 _) ob_4 rfl rfl (by decide) (by decide) (Nat.le_of_ble_eq_true rfl) ln_RX3_77 dX3_isWorth_39 (fun gr4 x6 J5 => ?_)
        refine wq_aload_n dX3_isWorth_42 0 rfl rfl ?_
        refine g_4_5 ln_RX3_31 dX3_isWorth_43 ?_
        refine wq_grd (fun g7 => ?_)
        refine WQ.nn g7.1 ?_
        refine wq_iconst dX3_isWorth_46 ?_
        refine wq_cVi M_G_number (R_G_number Z ((J5 4 0 5).toNat) 4 _) (ob_1 g7.2) rfl rfl (by decide) (by decide) (Nat.le_of_ble_eq_true rfl) ln_RX3_80 dX3_isWorth_47 (fun gr8 x10 J9 => ?_)
        refine wq_icmp_lt 57 dX3_isWorth_50 (by decide) rfl rfl (fun c11 => ?_) (fun c11 => ?_)
        · refine wq_iconst dX3_isWorth_57 ?_
          exact wq_zret rfl (by decide) rfl dX3_isWorth_58
        · refine wq_iconst dX3_isWorth_53 ?_
          refine wq_goto 58 dX3_isWorth_54 (by decide) ?_
          exact wq_zret rfl (by decide) rfl dX3_isWorth_58
  · refine wq_aload_n dX3_isWorth_9 0 rfl rfl ?_
    refine wq_iload_n dX3_isWorth_10 1 rfl rfl ?_
    refine wq_cVi M_PT_countOf (R_PT_countOf Z a1 _) ob_4 rfl rfl (by decide) (by decide) (Nat.le_of_ble_eq_true rfl) ln_RX3_77 dX3_isWorth_11 (fun gr14 x16 J15 => ?_)
    refine wq_if_le 21 dX3_isWorth_14 (by decide) rfl (fun c17 => ?_) (fun c17 => ?_)
    · refine wq_iconst dX3_isWorth_17 ?_
      refine wq_goto 22 dX3_isWorth_18 (by decide) ?_
      exact wq_zret rfl (by decide) rfl dX3_isWorth_22
    · refine wq_iconst dX3_isWorth_21 ?_
      exact wq_zret rfl (by decide) rfl dX3_isWorth_22

theorem ln_RX3_24 : Cond.fieldLink RX3 24 RX3 "best" "I" ∈ lw_good := li_1 109 (by decide +kernel) (by decide +kernel)
noncomputable def f_PT_bestPair  (I : Mem) : Option ((Int) × Mem) :=
some ((I 4 0 7), I)
set_option maxRecDepth 20000 in
theorem R_PT_bestPair (Z : ZT)  (I : Mem) (r : Int) (J : Mem) (hf : f_PT_bestPair I = some (r, J)) : Runs Z yX3_bestPair cX3_bestPair 1 (some .int) 1 [vr Z 4 0] I (some (vi r), J) := by
  refine Runs.of (rv := fun x => some (vi x)) (by decide +kernel) (Nat.le_of_ble_eq_true rfl) hf (fun gr => ?_)
  unfold f_PT_bestPair
  refine WQ.loc [0] (lv' := [(0, vr Z 4 0)]) rfl ?_
  refine wq_aload_n dX3_bestPair_0 0 rfl rfl ?_
  refine g_4_7 ln_RX3_24 dX3_bestPair_1 ?_
  exact wq_iret rfl rfl dX3_bestPair_4

theorem ln_RX3_83 : Cond.fieldLink RX3 83 RX3 "worth" "I" ∈ lw_good := li_1 110 (by decide +kernel) (by decide +kernel)
noncomputable def f_PT_manyWorth  (I : Mem) : Option ((Int) × Mem) :=
some ((I 4 0 8), I)
set_option maxRecDepth 20000 in
theorem R_PT_manyWorth (Z : ZT)  (I : Mem) (r : Int) (J : Mem) (hf : f_PT_manyWorth I = some (r, J)) : Runs Z yX3_manyWorth cX3_manyWorth 1 (some .int) 1 [vr Z 4 0] I (some (vi r), J) := by
  refine Runs.of (rv := fun x => some (vi x)) (by decide +kernel) (Nat.le_of_ble_eq_true rfl) hf (fun gr => ?_)
  unfold f_PT_manyWorth
  refine WQ.loc [0] (lv' := [(0, vr Z 4 0)]) rfl ?_
  refine wq_aload_n dX3_manyWorth_0 0 rfl rfl ?_
  refine g_4_8 ln_RX3_83 dX3_manyWorth_1 ?_
  exact wq_iret rfl rfl dX3_manyWorth_4

theorem ln_RX3_86 : Cond.fieldLink RX3 86 RX3 "alike" "I" ∈ lw_good := li_1 111 (by decide +kernel) (by decide +kernel)
noncomputable def f_PT_manyAsCommonAsBest  (I : Mem) : Option ((Int) × Mem) :=
some ((I 4 0 9), I)
set_option maxRecDepth 20000 in
theorem R_PT_manyAsCommonAsBest (Z : ZT)  (I : Mem) (r : Int) (J : Mem) (hf : f_PT_manyAsCommonAsBest I = some (r, J)) : Runs Z yX3_manyAsCommonAsBest cX3_manyAsCommonAsBest 1 (some .int) 1 [vr Z 4 0] I (some (vi r), J) := by
  refine Runs.of (rv := fun x => some (vi x)) (by decide +kernel) (Nat.le_of_ble_eq_true rfl) hf (fun gr => ?_)
  unfold f_PT_manyAsCommonAsBest
  refine WQ.loc [0] (lv' := [(0, vr Z 4 0)]) rfl ?_
  refine wq_aload_n dX3_manyAsCommonAsBest_0 0 rfl rfl ?_
  refine g_4_9 ln_RX3_86 dX3_manyAsCommonAsBest_1 ?_
  exact wq_iret rfl rfl dX3_manyAsCommonAsBest_4

theorem ln_RX3_89 : Cond.fieldLink RX3 89 RX3 "manyTouched" "I" ∈ lw_good := li_1 106 (by decide +kernel) (by decide +kernel)
theorem ln_RX3_21 : Cond.fieldLink RX3 21 RX3 "touched" "[I" ∈ lw_good := li_1 105 (by decide +kernel) (by decide +kernel)
noncomputable def f_PT_clear_w2  (s : Int) (I : Mem) : Option (((Int) ⊕ (Unit)) × Mem) :=
if (w32 s) < (w32 (I 4 0 4)) then
if 0 ≤ (w32 s) ∧ (w32 s) < 4356 then
if 0 ≤ (w32 (I 16 3 (w32 s).toNat)) ∧ (w32 (I 16 3 (w32 s).toNat)) < 4356 then
ltI (sI I 16 0 (w32 (I 16 3 (w32 s).toNat)).toNat 0) fun J3 =>
if 0 ≤ (w32 (J3 16 3 (w32 s).toNat)) ∧ (w32 (J3 16 3 (w32 s).toNat)) < 4356 then
ltI (sI J3 16 2 (w32 (J3 16 3 (w32 s).toNat)).toNat (-1)) fun J5 =>
some (.inl (s + 1), J5)
else none
else none
else none
else
some (.inr (), I)

noncomputable def f_PT_clear  (I : Mem) : Option ((Unit) × Mem) :=
bnd (whl (f_PT_clear_w2) 0 I) fun r20 J21 =>
ltI (sI J21 4 0 4 0) fun J23 =>
some ((), J23)
set_option maxRecDepth 20000 in
theorem R_PT_clear (Z : ZT)  (I : Mem) (r : Unit) (J : Mem) (hf : f_PT_clear I = some (r, J)) : Runs Z yX3_clear cX3_clear 2 (none) 1 [vr Z 4 0] I (none, J) := by
  refine Runs.of (rv := fun _ => none) (by decide +kernel) (Nat.le_of_ble_eq_true rfl) hf (fun gr => ?_)
  unfold f_PT_clear
  refine WQ.loc [0] (lv' := [(0, vr Z 4 0)]) rfl ?_
  refine wq_iconst dX3_clear_0 ?_
  refine wq_istore_n (lv' := [(1, vi 0), (0, vr Z 4 0)]) dX3_clear_1 rfl (by decide) rfl ?_
  refine WQ.loc [1, 0] (lv' := [(0, vr Z 4 0), (1, vi 0)]) rfl ?_
  refine wq_loopS (fun s13 => [(0, vr Z 4 0), (1, vi s13)]) 40 (fun _ => [(0, vr Z 4 0)]) (fun κ7 bk8 ex9 gr12 s13 J11 => ?_) (fun gr22 r20 J21 => ?_) gr _ rfl
  · unfold f_PT_clear_w2
    refine wq_iload_n dX3_clear_2 1 rfl rfl ?_
    refine wq_aload_n dX3_clear_3 0 rfl rfl ?_
    refine g_4_4 ln_RX3_89 dX3_clear_4 ?_
    refine wq_icmp_ge 40 dX3_clear_7 (by decide) rfl rfl (fun c19 => ?_) (fun c19 => ?_)
    · refine wq_aload_n dX3_clear_10 0 rfl rfl ?_
      refine g_4_0 ln_RX3_11 dX3_clear_11 ?_
      refine wq_aload_n dX3_clear_14 0 rfl rfl ?_
      refine g_4_3 ln_RX3_21 dX3_clear_15 ?_
      refine wq_iload_n dX3_clear_18 1 rfl rfl ?_
      refine wq_grd (fun g14 => ?_)
      refine wq_iald (k := 16) (i := 3) rfl (by decide) rfl rfl (m := 4356) g14 (Nat.le_refl _) dX3_clear_19 ?_
      refine wq_iconst dX3_clear_20 ?_
      refine wq_grd (fun g15 => ?_)
      refine wq_iast (k := 16) (i := 0) (fun _ _ => rfl) (by decide) rfl rfl (m := 4356) g15 (Nat.le_refl _) (by decide) (by decide) (by decide) dX3_clear_21 (fun J16 => ?_)
      refine wq_aload_n dX3_clear_22 0 rfl rfl ?_
      refine g_4_2 ln_RX3_18 dX3_clear_23 ?_
      refine wq_aload_n dX3_clear_26 0 rfl rfl ?_
      refine g_4_3 ln_RX3_21 dX3_clear_27 ?_
      refine wq_iload_n dX3_clear_30 1 rfl rfl ?_
      refine wq_iald (k := 16) (i := 3) rfl (by decide) rfl rfl (m := 4356) g14 (Nat.le_refl _) dX3_clear_31 ?_
      refine wq_iconst dX3_clear_32 ?_
      refine wq_grd (fun g17 => ?_)
      refine wq_iast (k := 16) (i := 2) (fun _ _ => rfl) (by decide) rfl rfl (m := 4356) g17 (Nat.le_refl _) (by decide) (by decide) (by decide) dX3_clear_33 (fun J18 => ?_)
      refine wq_iinc (lv' := [(1, vi (s13 + 1)), (0, vr Z 4 0)]) dX3_clear_34 1 rfl (by decide) rfl ?_
      refine wq_goto 2 dX3_clear_37 (by decide) ?_
      exact WQ.loc [1, 0] rfl (bk8 _ _ _)
    · exact WQ.loc [0] rfl (ex9 _ _ _)
  · refine wq_aload_n dX3_clear_40 0 rfl rfl ?_
    refine wq_iconst dX3_clear_41 ?_
    refine p_4_4 ln_RX3_89 dX3_clear_42 (fun J23 => ?_)
    exact wq_vret rfl rfl dX3_clear_45

noncomputable def f_PT_touch (a1 : Int) (I : Mem) : Option ((Unit) × Mem) :=
if 0 ≤ (w32 a1) ∧ (w32 a1) < 4356 then
if (w32 (I 16 0 (w32 a1).toNat)) = 0 then
if (w32 (I 16 2 (w32 a1).toNat)) = (-1) then
if (w32 (I 4 0 4)) < 4356 then
if 0 ≤ (w32 (I 4 0 4)) ∧ (w32 (I 4 0 4)) < 4356 then
ltI (sI I 16 3 (w32 (I 4 0 4)).toNat a1) fun J3 =>
ltI (sI J3 4 0 4 ((J3 4 0 4) + 1)) fun J4 =>
some ((), J4)
else none
else
some ((), I)
else
some ((), I)
else
some ((), I)
else none
set_option maxRecDepth 20000 in
theorem R_PT_touch (Z : ZT) (a1 : Int) (I : Mem) (r : Unit) (J : Mem) (hf : f_PT_touch a1 I = some (r, J)) : Runs Z yX3_touch cX3_touch 2 (none) 1 [vr Z 4 0, vi a1] I (none, J) := by
  refine Runs.of (rv := fun _ => none) (by decide +kernel) (Nat.le_of_ble_eq_true rfl) hf (fun gr => ?_)
  unfold f_PT_touch
  refine WQ.loc [0, 1] (lv' := [(0, vr Z 4 0), (1, vi a1)]) rfl ?_
  refine wq_aload_n dX3_touch_0 0 rfl rfl ?_
  refine g_4_0 ln_RX3_11 dX3_touch_1 ?_
  refine wq_iload_n dX3_touch_4 1 rfl rfl ?_
  refine wq_grd (fun g1 => ?_)
  refine wq_iald (k := 16) (i := 0) rfl (by decide) rfl rfl (m := 4356) g1 (Nat.le_refl _) dX3_touch_5 ?_
  refine wq_if_ne 49 dX3_touch_6 (by decide) rfl (fun c7 => ?_) (fun c7 => ?_)
  · refine wq_aload_n dX3_touch_9 0 rfl rfl ?_
    refine g_4_2 ln_RX3_18 dX3_touch_10 ?_
    refine wq_iload_n dX3_touch_13 1 rfl rfl ?_
    refine wq_iald (k := 16) (i := 2) rfl (by decide) rfl rfl (m := 4356) g1 (Nat.le_refl _) dX3_touch_14 ?_
    refine wq_iconst dX3_touch_15 ?_
    refine wq_icmp_ne 49 dX3_touch_16 (by decide) rfl rfl (fun c6 => ?_) (fun c6 => ?_)
    · refine wq_aload_n dX3_touch_19 0 rfl rfl ?_
      refine g_4_4 ln_RX3_89 dX3_touch_20 ?_
      refine wq_sipush dX3_touch_23 (by decide) ?_
      refine wq_icmp_ge 49 dX3_touch_26 (by decide) rfl rfl (fun c5 => ?_) (fun c5 => ?_)
      · refine wq_aload_n dX3_touch_29 0 rfl rfl ?_
        refine g_4_3 ln_RX3_21 dX3_touch_30 ?_
        refine wq_aload_n dX3_touch_33 0 rfl rfl ?_
        refine g_4_4 ln_RX3_89 dX3_touch_34 ?_
        refine wq_iload_n dX3_touch_37 1 rfl rfl ?_
        refine wq_grd (fun g2 => ?_)
        refine wq_iast (k := 16) (i := 3) (fun _ _ => rfl) (by decide) rfl rfl (m := 4356) g2 (Nat.le_refl _) (by decide) (by decide) (by decide) dX3_touch_38 (fun J3 => ?_)
        refine wq_aload_n dX3_touch_39 0 rfl rfl ?_
        refine wq_dup dX3_touch_40 rfl ?_
        refine g_4_4 ln_RX3_89 dX3_touch_41 ?_
        refine wq_iconst dX3_touch_44 ?_
        refine wq_iadd dX3_touch_45 ?_
        refine p_4_4 ln_RX3_89 dX3_touch_46 (fun J4 => ?_)
        exact wq_vret rfl rfl dX3_touch_49
      · exact wq_vret rfl rfl dX3_touch_49
    · exact wq_vret rfl rfl dX3_touch_49
  · exact wq_vret rfl rfl dX3_touch_49

theorem M_PT_pairOf : MwV yX3_pairOf cX3_pairOf 3 (some .int) 2 := ⟨li_4 56 (by decide +kernel) (by decide +kernel), li_4 54 (by decide +kernel) (by decide +kernel), li_4 55 (by decide +kernel) (by decide +kernel), li_1 5 (by decide +kernel) (by decide +kernel), by decide +kernel⟩
theorem M_PT_touch : MwV yX3_touch cX3_touch 2 (none) 1 := ⟨li_4 63 (by decide +kernel) (by decide +kernel), li_4 62 (by decide +kernel) (by decide +kernel), lw_in 26 (by decide +kernel) (by decide +kernel), li_1 5 (by decide +kernel) (by decide +kernel), by decide +kernel⟩
theorem ln_RX3_99 : Cond.methodLink RX3 99 yX3_touch ∈ lw_good := li_4 60 (by decide +kernel) (by decide +kernel)
theorem ln_RX3_95 : Cond.methodLink RX3 95 yX3_pairOf ∈ lw_good := li_4 53 (by decide +kernel) (by decide +kernel)
theorem ln_RX3_92 : Cond.methodLink RX3 92 yX5_at ∈ lw_good := li_4 52 (by decide +kernel) (by decide +kernel)
noncomputable def f_PT_noteKept (a1 : Int) (a2 : Nat) (I : Mem) : Option ((Unit) × Mem) :=
if a2 < 516 then
bnd (f_Row_at a2 0 I) fun x3 J2 =>
bnd (f_Row_at a2 1 J2) fun x6 J5 =>
bnd (f_PT_pairOf x3 x6 J5) fun x9 J8 =>
if (w32 x9) = (-1) then
some ((), J8)
else
if 0 ≤ (w32 x9) ∧ (w32 x9) < 4356 then
if (w32 (J8 16 2 (w32 x9).toNat)) = (-1) then
bnd (f_PT_touch x9 J8) fun _ J12 =>
ltI (sI J12 16 2 (w32 x9).toNat a1) fun J14 =>
some ((), J14)
else
some ((), J8)
else none
else none
set_option maxRecDepth 20000 in
theorem R_PT_noteKept (Z : ZT) (a1 : Int) (a2 : Nat) (I : Mem) (r : Unit) (J : Mem) (hf : f_PT_noteKept a1 a2 I = some (r, J)) : Runs Z yX3_noteKept cX3_noteKept 4 (none) 3 [vr Z 4 0, vi a1, vr Z 2 a2] I (none, J) := by
  refine Runs.of (rv := fun _ => none) (by decide +kernel) (Nat.le_of_ble_eq_true rfl) hf (fun gr => ?_)
  unfold f_PT_noteKept
  refine WQ.loc [0, 1, 2] (lv' := [(0, vr Z 4 0), (1, vi a1), (2, vr Z 2 a2)]) rfl ?_
  refine wq_grd (fun h2 => ?_)
  refine wq_aload_n dX3_noteKept_0 0 rfl rfl ?_
  refine wq_aload_n dX3_noteKept_1 2 rfl rfl ?_
  refine wq_iconst dX3_noteKept_2 ?_
  refine wq_cVi M_Row_at (R_Row_at Z a2 0 _) (ob_2 h2) rfl rfl (by decide) (by decide) (Nat.le_of_ble_eq_true rfl) ln_RX3_92 dX3_noteKept_3 (fun gr1 x3 J2 => ?_)
  refine wq_aload_n dX3_noteKept_6 2 rfl rfl ?_
  refine wq_iconst dX3_noteKept_7 ?_
  refine wq_cVi M_Row_at (R_Row_at Z a2 1 _) (ob_2 h2) rfl rfl (by decide) (by decide) (Nat.le_of_ble_eq_true rfl) ln_RX3_92 dX3_noteKept_8 (fun gr4 x6 J5 => ?_)
  refine wq_cVi M_PT_pairOf (R_PT_pairOf Z x3 x6 _) ob_4 rfl rfl (by decide) (by decide) (Nat.le_of_ble_eq_true rfl) ln_RX3_95 dX3_noteKept_11 (fun gr7 x9 J8 => ?_)
  refine wq_istore_n (lv' := [(3, vi x9), (0, vr Z 4 0), (1, vi a1), (2, vr Z 2 a2)]) dX3_noteKept_14 rfl (by decide) rfl ?_
  refine wq_iload_n dX3_noteKept_15 0 rfl rfl ?_
  refine wq_iconst dX3_noteKept_16 ?_
  refine wq_icmp_eq 42 dX3_noteKept_17 (by decide) rfl rfl (fun c16 => ?_) (fun c16 => ?_)
  · exact wq_vret rfl rfl dX3_noteKept_42
  · refine wq_aload_n dX3_noteKept_20 1 rfl rfl ?_
    refine g_4_2 ln_RX3_18 dX3_noteKept_21 ?_
    refine wq_iload_n dX3_noteKept_24 0 rfl rfl ?_
    refine wq_grd (fun g10 => ?_)
    refine wq_iald (k := 16) (i := 2) rfl (by decide) rfl rfl (m := 4356) g10 (Nat.le_refl _) dX3_noteKept_25 ?_
    refine wq_iconst dX3_noteKept_26 ?_
    refine wq_icmp_ne 42 dX3_noteKept_27 (by decide) rfl rfl (fun c15 => ?_) (fun c15 => ?_)
    · refine wq_aload_n dX3_noteKept_30 1 rfl rfl ?_
      refine wq_iload_n dX3_noteKept_31 0 rfl rfl ?_
      refine wq_cVv M_PT_touch (R_PT_touch Z x9 _) ob_4 rfl rfl (by decide) (by decide) (Nat.le_of_ble_eq_true rfl) ln_RX3_99 dX3_noteKept_32 (fun gr11 _ J12 => ?_)
      refine wq_aload_n dX3_noteKept_35 1 rfl rfl ?_
      refine g_4_2 ln_RX3_18 dX3_noteKept_36 ?_
      refine wq_iload_n dX3_noteKept_39 0 rfl rfl ?_
      refine wq_iload_n dX3_noteKept_40 2 rfl rfl ?_
      refine wq_iast (k := 16) (i := 2) (fun _ _ => rfl) (by decide) rfl rfl (m := 4356) g10 (Nat.le_refl _) (by decide) (by decide) (by decide) dX3_noteKept_41 (fun J14 => ?_)
      exact wq_vret rfl rfl dX3_noteKept_42
    · exact wq_vret rfl rfl dX3_noteKept_42

theorem ln_RX3_15 : Cond.fieldLink RX3 15 RX3 "places" "[I" ∈ lw_good := li_1 103 (by decide +kernel) (by decide +kernel)
noncomputable def f_PT_notePair_j27 (v1 : Int)   (I : Mem) : Option ((Unit) × Mem) :=
if 0 ≤ (w32 v1) ∧ (w32 v1) < 4356 then
ltI (sI I 16 0 (w32 v1).toNat ((I 16 0 (w32 v1).toNat) + 1)) fun J9 =>
some ((), J9)
else none

noncomputable def f_PT_notePair (a1 : Int) (a2 : Int) (I : Mem) : Option ((Unit) × Mem) :=
if (w32 a1) = (-1) then
some ((), I)
else
bnd (f_PT_touch a1 I) fun _ J2 =>
if 0 ≤ (w32 a1) ∧ (w32 a1) < 4356 then
if (w32 (J2 16 0 (w32 a1).toNat)) = 0 then
ltI (sI J2 16 1 (w32 a1).toNat a2) fun J6 =>
f_PT_notePair_j27 a1 J6
else
f_PT_notePair_j27 a1 J2
else none
set_option maxRecDepth 20000 in
theorem R_PT_notePair (Z : ZT) (a1 : Int) (a2 : Int) (I : Mem) (r : Unit) (J : Mem) (hf : f_PT_notePair a1 a2 I = some (r, J)) : Runs Z yX3_notePair cX3_notePair 3 (none) 2 [vr Z 4 0, vi a1, vi a2] I (none, J) := by
  refine Runs.of (rv := fun _ => none) (by decide +kernel) (Nat.le_of_ble_eq_true rfl) hf (fun gr => ?_)
  unfold f_PT_notePair
  refine WQ.loc [0, 1, 2] (lv' := [(0, vr Z 4 0), (1, vi a1), (2, vi a2)]) rfl ?_
  refine wq_iload_n dX3_notePair_0 1 rfl rfl ?_
  refine wq_iconst dX3_notePair_1 ?_
  refine wq_icmp_ne 6 dX3_notePair_2 (by decide) rfl rfl (fun c14 => ?_) (fun c14 => ?_)
  · exact wq_vret rfl rfl dX3_notePair_5
  · refine wq_aload_n dX3_notePair_6 0 rfl rfl ?_
    refine wq_iload_n dX3_notePair_7 1 rfl rfl ?_
    refine wq_cVv M_PT_touch (R_PT_touch Z a1 _) ob_4 rfl rfl (by decide) (by decide) (Nat.le_of_ble_eq_true rfl) ln_RX3_99 dX3_notePair_8 (fun gr1 _ J2 => ?_)
    refine wq_aload_n dX3_notePair_11 0 rfl rfl ?_
    refine g_4_0 ln_RX3_11 dX3_notePair_12 ?_
    refine wq_iload_n dX3_notePair_15 1 rfl rfl ?_
    refine wq_grd (fun g4 => ?_)
    refine wq_iald (k := 16) (i := 0) rfl (by decide) rfl rfl (m := 4356) g4 (Nat.le_refl _) dX3_notePair_16 ?_
    have hj5 : ∀ (gr11 : Nat → Nat)   (J10 : Mem), WQ Z (yX3_notePair, cX3_notePair, 3, none, 2) I gr11 27 [(0, vr Z 4 0), (1, vi a1)] [] J10 (f_PT_notePair_j27 a1 J10) (fun b K => some (.inl ((fun _ => none) b), K)) := by
      intro gr11 J10
      unfold f_PT_notePair_j27
      refine wq_aload_n dX3_notePair_27 0 rfl rfl ?_
      refine g_4_0 ln_RX3_11 dX3_notePair_28 ?_
      refine wq_iload_n dX3_notePair_31 1 rfl rfl ?_
      refine wq_dup2 dX3_notePair_32 rfl rfl ?_
      refine wq_grd (fun g12 => ?_)
      refine wq_iald (k := 16) (i := 0) rfl (by decide) rfl rfl (m := 4356) g12 (Nat.le_refl _) dX3_notePair_33 ?_
      refine wq_iconst dX3_notePair_34 ?_
      refine wq_iadd dX3_notePair_35 ?_
      refine wq_iast (k := 16) (i := 0) (fun _ _ => rfl) (by decide) rfl rfl (m := 4356) g12 (Nat.le_refl _) (by decide) (by decide) (by decide) dX3_notePair_36 (fun J13 => ?_)
      exact wq_vret rfl rfl dX3_notePair_37
    refine wq_if_ne 27 dX3_notePair_17 (by decide) rfl (fun c7 => ?_) (fun c7 => ?_)
    · refine wq_aload_n dX3_notePair_20 0 rfl rfl ?_
      refine g_4_1 ln_RX3_15 dX3_notePair_21 ?_
      refine wq_iload_n dX3_notePair_24 1 rfl rfl ?_
      refine wq_iload_n dX3_notePair_25 2 rfl rfl ?_
      refine wq_iast (k := 16) (i := 1) (fun _ _ => rfl) (by decide) rfl rfl (m := 4356) g4 (Nat.le_refl _) (by decide) (by decide) (by decide) dX3_notePair_26 (fun J6 => ?_)
      exact WQ.loc [0, 1] rfl (hj5 _   _)
    · exact WQ.loc [0, 1] rfl (hj5 _   _)

theorem M_PT_firstOf : MwV yX3_firstOf cX3_firstOf 2 (some .int) 1 := ⟨li_4 100 (by decide +kernel) (by decide +kernel), li_4 98 (by decide +kernel) (by decide +kernel), li_4 99 (by decide +kernel) (by decide +kernel), li_1 5 (by decide +kernel) (by decide +kernel), by decide +kernel⟩
theorem ln_RX3_114 : Cond.methodLink RX3 114 yX3_firstOf ∈ lw_good := li_4 97 (by decide +kernel) (by decide +kernel)
theorem M_G_lengthOf : MwV yX1_lengthOf cX1_lengthOf 2 (some .int) 1 := ⟨li_3 57 (by decide +kernel) (by decide +kernel), li_3 55 (by decide +kernel) (by decide +kernel), li_3 56 (by decide +kernel) (by decide +kernel), li_1 2 (by decide +kernel) (by decide +kernel), by decide +kernel⟩
theorem M_PT_secondOf : MwV yX3_secondOf cX3_secondOf 2 (some .int) 1 := ⟨li_4 105 (by decide +kernel) (by decide +kernel), li_4 103 (by decide +kernel) (by decide +kernel), li_4 104 (by decide +kernel) (by decide +kernel), li_1 5 (by decide +kernel) (by decide +kernel), by decide +kernel⟩
theorem ln_RX3_120 : Cond.methodLink RX3 120 yX3_secondOf ∈ lw_good := li_4 102 (by decide +kernel) (by decide +kernel)
theorem ln_RX3_117 : Cond.methodLink RX3 117 yX1_lengthOf ∈ lw_good := li_4 101 (by decide +kernel) (by decide +kernel)
noncomputable def f_PT_isAheadByTie_j18 (v1 : Int) (v2 : Int)   (I : Mem) : Option ((Int) × Mem) :=
if (w32 v1) < (w32 v2) then
some (1, I)
else
some (0, I)

noncomputable def f_PT_isAheadByTie (a1 : Int) (a2 : Int) (I : Mem) : Option ((Int) × Mem) :=
if (I 4 0 5) < 0 then
f_PT_isAheadByTie_j18 a1 a2 I
else
if 0 ≤ (I 4 0 5) ∧ (I 4 0 5).toNat < 12 then
bnd (f_G_number ((I 4 0 5).toNat) 5 I) fun x5 J4 =>
if (w32 x5) = 0 then
f_PT_isAheadByTie_j18 a1 a2 J4
else
if 0 ≤ (J4 4 0 5) ∧ (J4 4 0 5).toNat < 12 then
bnd (f_G_number ((J4 4 0 5).toNat) 5 J4) fun x9 J8 =>
if (w32 x9) = 1 then
if 0 ≤ (w32 a1) ∧ (w32 a1) < 4356 then
if 0 ≤ (w32 a2) ∧ (w32 a2) < 4356 then
if (w32 (J8 16 1 (w32 a1).toNat)) < (w32 (J8 16 1 (w32 a2).toNat)) then
some (1, J8)
else
some (0, J8)
else none
else none
else
if 0 ≤ (J8 4 0 5) ∧ (J8 4 0 5).toNat < 12 then
bnd (f_G_lengthOf ((J8 4 0 5).toNat) (idv a1 66) J8) fun x14 J13 =>
if 0 ≤ (J13 4 0 5) ∧ (J13 4 0 5).toNat < 12 then
bnd (f_G_lengthOf ((J13 4 0 5).toNat) (irm a1 66) J13) fun x19 J18 =>
if 0 ≤ (J18 4 0 5) ∧ (J18 4 0 5).toNat < 12 then
bnd (f_G_lengthOf ((J18 4 0 5).toNat) (idv a2 66) J18) fun x24 J23 =>
if 0 ≤ (J23 4 0 5) ∧ (J23 4 0 5).toNat < 12 then
bnd (f_G_lengthOf ((J23 4 0 5).toNat) (irm a2 66) J23) fun x29 J28 =>
if (w32 (((x14 + x19) - x24) - x29)) = 0 then
if (w32 a1) < (w32 a2) then
some (1, J28)
else
some (0, J28)
else
if 0 < (w32 (((x14 + x19) - x24) - x29)) then
some (1, J28)
else
some (0, J28)
else none
else none
else none
else none
else none
else none
set_option maxRecDepth 20000 in
theorem R_PT_isAheadByTie (Z : ZT) (a1 : Int) (a2 : Int) (I : Mem) (r : Int) (J : Mem) (hf : f_PT_isAheadByTie a1 a2 I = some (r, J)) : Runs Z yX3_isAheadByTie cX3_isAheadByTie 4 (some .boolean) 2 [vr Z 4 0, vi a1, vi a2] I (some (vi r), J) := by
  refine Runs.of (rv := fun x => some (vi x)) (by decide +kernel) (Nat.le_of_ble_eq_true rfl) hf (fun gr => ?_)
  unfold f_PT_isAheadByTie
  refine WQ.loc [0, 1, 2] (lv' := [(0, vr Z 4 0), (1, vi a1), (2, vi a2)]) rfl ?_
  refine wq_aload_n dX3_isAheadByTie_0 0 rfl rfl ?_
  refine g_4_5 ln_RX3_31 dX3_isAheadByTie_1 ?_
  have hj1 : ∀ (gr41 : Nat → Nat)   (J40 : Mem), WQ Z (yX3_isAheadByTie, cX3_isAheadByTie, 4, some .boolean, 2) I gr41 18 [(1, vi a1), (2, vi a2)] [] J40 (f_PT_isAheadByTie_j18 a1 a2 J40) (fun b K => some (.inl ((fun x => some (vi x)) b), K)) := by
    intro gr41 J40
    unfold f_PT_isAheadByTie_j18
    refine wq_iload_n dX3_isAheadByTie_18 0 rfl rfl ?_
    refine wq_iload_n dX3_isAheadByTie_19 1 rfl rfl ?_
    refine wq_icmp_ge 27 dX3_isAheadByTie_20 (by decide) rfl rfl (fun c42 => ?_) (fun c42 => ?_)
    · refine wq_iconst dX3_isAheadByTie_23 ?_
      refine wq_goto 28 dX3_isAheadByTie_24 (by decide) ?_
      exact wq_zret rfl (by decide) rfl dX3_isAheadByTie_28
    · refine wq_iconst dX3_isAheadByTie_27 ?_
      exact wq_zret rfl (by decide) rfl dX3_isAheadByTie_28
  refine wq_ifnull 18 dX3_isAheadByTie_4 (by decide) (fun c38 => ?_) (fun c38 => ?_)
  · exact WQ.loc [1, 2] rfl (hj1 _   _)
  · refine wq_aload_n dX3_isAheadByTie_7 0 rfl rfl ?_
    refine g_4_5 ln_RX3_31 dX3_isAheadByTie_8 ?_
    refine wq_grd (fun g2 => ?_)
    refine WQ.nn g2.1 ?_
    refine wq_iconst dX3_isAheadByTie_11 ?_
    refine wq_cVi M_G_number (R_G_number Z ((I 4 0 5).toNat) 5 _) (ob_1 g2.2) rfl rfl (by decide) (by decide) (Nat.le_of_ble_eq_true rfl) ln_RX3_80 dX3_isAheadByTie_12 (fun gr3 x5 J4 => ?_)
    refine wq_if_ne 29 dX3_isAheadByTie_15 (by decide) rfl (fun c37 => ?_) (fun c37 => ?_)
    · exact WQ.loc [1, 2] rfl (hj1 _   _)
    · refine wq_aload_n dX3_isAheadByTie_29 0 rfl rfl ?_
      refine g_4_5 ln_RX3_31 dX3_isAheadByTie_30 ?_
      refine wq_grd (fun g6 => ?_)
      refine WQ.nn g6.1 ?_
      refine wq_iconst dX3_isAheadByTie_33 ?_
      refine wq_cVi M_G_number (R_G_number Z ((J4 4 0 5).toNat) 5 _) (ob_1 g6.2) rfl rfl (by decide) (by decide) (Nat.le_of_ble_eq_true rfl) ln_RX3_80 dX3_isAheadByTie_34 (fun gr7 x9 J8 => ?_)
      refine wq_iconst dX3_isAheadByTie_37 ?_
      refine wq_icmp_ne 62 dX3_isAheadByTie_38 (by decide) rfl rfl (fun c36 => ?_) (fun c36 => ?_)
      · refine wq_aload_n dX3_isAheadByTie_41 0 rfl rfl ?_
        refine g_4_1 ln_RX3_15 dX3_isAheadByTie_42 ?_
        refine wq_iload_n dX3_isAheadByTie_45 1 rfl rfl ?_
        refine wq_grd (fun g33 => ?_)
        refine wq_iald (k := 16) (i := 1) rfl (by decide) rfl rfl (m := 4356) g33 (Nat.le_refl _) dX3_isAheadByTie_46 ?_
        refine wq_aload_n dX3_isAheadByTie_47 0 rfl rfl ?_
        refine g_4_1 ln_RX3_15 dX3_isAheadByTie_48 ?_
        refine wq_iload_n dX3_isAheadByTie_51 2 rfl rfl ?_
        refine wq_grd (fun g34 => ?_)
        refine wq_iald (k := 16) (i := 1) rfl (by decide) rfl rfl (m := 4356) g34 (Nat.le_refl _) dX3_isAheadByTie_52 ?_
        refine wq_icmp_ge 60 dX3_isAheadByTie_53 (by decide) rfl rfl (fun c35 => ?_) (fun c35 => ?_)
        · refine wq_iconst dX3_isAheadByTie_56 ?_
          refine wq_goto 61 dX3_isAheadByTie_57 (by decide) ?_
          exact wq_zret rfl (by decide) rfl dX3_isAheadByTie_61
        · refine wq_iconst dX3_isAheadByTie_60 ?_
          exact wq_zret rfl (by decide) rfl dX3_isAheadByTie_61
      · refine wq_aload_n dX3_isAheadByTie_62 0 rfl rfl ?_
        refine g_4_5 ln_RX3_31 dX3_isAheadByTie_63 ?_
        refine wq_grd (fun g10 => ?_)
        refine WQ.nn g10.1 ?_
        refine wq_aload_n dX3_isAheadByTie_66 0 rfl rfl ?_
        refine wq_iload_n dX3_isAheadByTie_67 1 rfl rfl ?_
        refine wq_pV (v := vi (idv a1 66)) M_PT_firstOf (R_PT_firstOf Z a1 _ _ _ rfl) ob_4 rfl rfl (by decide) (by decide) (Nat.le_of_ble_eq_true rfl) ln_RX3_114 dX3_isAheadByTie_68 (fun gr11 => ?_)
        refine wq_cVi M_G_lengthOf (R_G_lengthOf Z ((J8 4 0 5).toNat) (idv a1 66) _) (ob_1 g10.2) rfl rfl (by decide) (by decide) (Nat.le_of_ble_eq_true rfl) ln_RX3_117 dX3_isAheadByTie_71 (fun gr12 x14 J13 => ?_)
        refine wq_aload_n dX3_isAheadByTie_74 0 rfl rfl ?_
        refine g_4_5 ln_RX3_31 dX3_isAheadByTie_75 ?_
        refine wq_grd (fun g15 => ?_)
        refine WQ.nn g15.1 ?_
        refine wq_aload_n dX3_isAheadByTie_78 0 rfl rfl ?_
        refine wq_iload_n dX3_isAheadByTie_79 1 rfl rfl ?_
        refine wq_pV (v := vi (irm a1 66)) M_PT_secondOf (R_PT_secondOf Z a1 _ _ _ rfl) ob_4 rfl rfl (by decide) (by decide) (Nat.le_of_ble_eq_true rfl) ln_RX3_120 dX3_isAheadByTie_80 (fun gr16 => ?_)
        refine wq_cVi M_G_lengthOf (R_G_lengthOf Z ((J13 4 0 5).toNat) (irm a1 66) _) (ob_1 g15.2) rfl rfl (by decide) (by decide) (Nat.le_of_ble_eq_true rfl) ln_RX3_117 dX3_isAheadByTie_83 (fun gr17 x19 J18 => ?_)
        refine wq_iadd dX3_isAheadByTie_86 ?_
        refine wq_aload_n dX3_isAheadByTie_87 0 rfl rfl ?_
        refine g_4_5 ln_RX3_31 dX3_isAheadByTie_88 ?_
        refine wq_grd (fun g20 => ?_)
        refine WQ.nn g20.1 ?_
        refine wq_aload_n dX3_isAheadByTie_91 0 rfl rfl ?_
        refine wq_iload_n dX3_isAheadByTie_92 2 rfl rfl ?_
        refine wq_pV (v := vi (idv a2 66)) M_PT_firstOf (R_PT_firstOf Z a2 _ _ _ rfl) ob_4 rfl rfl (by decide) (by decide) (Nat.le_of_ble_eq_true rfl) ln_RX3_114 dX3_isAheadByTie_93 (fun gr21 => ?_)
        refine wq_cVi M_G_lengthOf (R_G_lengthOf Z ((J18 4 0 5).toNat) (idv a2 66) _) (ob_1 g20.2) rfl rfl (by decide) (by decide) (Nat.le_of_ble_eq_true rfl) ln_RX3_117 dX3_isAheadByTie_96 (fun gr22 x24 J23 => ?_)
        refine wq_isub dX3_isAheadByTie_99 ?_
        refine wq_aload_n dX3_isAheadByTie_100 0 rfl rfl ?_
        refine g_4_5 ln_RX3_31 dX3_isAheadByTie_101 ?_
        refine wq_grd (fun g25 => ?_)
        refine WQ.nn g25.1 ?_
        refine wq_aload_n dX3_isAheadByTie_104 0 rfl rfl ?_
        refine wq_iload_n dX3_isAheadByTie_105 2 rfl rfl ?_
        refine wq_pV (v := vi (irm a2 66)) M_PT_secondOf (R_PT_secondOf Z a2 _ _ _ rfl) ob_4 rfl rfl (by decide) (by decide) (Nat.le_of_ble_eq_true rfl) ln_RX3_120 dX3_isAheadByTie_106 (fun gr26 => ?_)
        refine wq_cVi M_G_lengthOf (R_G_lengthOf Z ((J23 4 0 5).toNat) (irm a2 66) _) (ob_1 g25.2) rfl rfl (by decide) (by decide) (Nat.le_of_ble_eq_true rfl) ln_RX3_117 dX3_isAheadByTie_109 (fun gr27 x29 J28 => ?_)
        refine wq_isub dX3_isAheadByTie_112 ?_
        refine wq_istore_n (lv' := [(3, vi (((x14 + x19) - x24) - x29)), (0, vr Z 4 0), (1, vi a1), (2, vi a2)]) dX3_isAheadByTie_113 rfl (by decide) rfl ?_
        refine wq_iload_n dX3_isAheadByTie_114 0 rfl rfl ?_
        refine wq_if_ne 131 dX3_isAheadByTie_115 (by decide) rfl (fun c32 => ?_) (fun c32 => ?_)
        · refine wq_iload_n dX3_isAheadByTie_118 2 rfl rfl ?_
          refine wq_iload_n dX3_isAheadByTie_119 3 rfl rfl ?_
          refine wq_icmp_ge 127 dX3_isAheadByTie_120 (by decide) rfl rfl (fun c31 => ?_) (fun c31 => ?_)
          · refine wq_iconst dX3_isAheadByTie_123 ?_
            refine wq_goto 140 dX3_isAheadByTie_124 (by decide) ?_
            exact wq_zret rfl (by decide) rfl dX3_isAheadByTie_140
          · refine wq_iconst dX3_isAheadByTie_127 ?_
            refine wq_goto 140 dX3_isAheadByTie_128 (by decide) ?_
            exact wq_zret rfl (by decide) rfl dX3_isAheadByTie_140
        · refine wq_iload_n dX3_isAheadByTie_131 0 rfl rfl ?_
          refine wq_if_le 139 dX3_isAheadByTie_132 (by decide) rfl (fun c30 => ?_) (fun c30 => ?_)
          · refine wq_iconst dX3_isAheadByTie_135 ?_
            refine wq_goto 140 dX3_isAheadByTie_136 (by decide) ?_
            exact wq_zret rfl (by decide) rfl dX3_isAheadByTie_140
          · refine wq_iconst dX3_isAheadByTie_139 ?_
            exact wq_zret rfl (by decide) rfl dX3_isAheadByTie_140

theorem ln_RX10_15 : Cond.fieldLink RX10 15 RX10 "depths" "[I" ∈ lw_good := li_1 147 (by decide +kernel) (by decide +kernel)
noncomputable def f_Sv_depthOf (a1 : Int) (I : Mem) : Option ((Int) × Mem) :=
if (w32 a1) < 26 then
some (0, I)
else
if (w32 a1) < 66 then
if 0 ≤ (w32 (a1 - 26)) ∧ (w32 (a1 - 26)) < 40 then
some ((I 18 1 (w32 (a1 - 26)).toNat), I)
else none
else
some (0, I)
set_option maxRecDepth 20000 in
theorem R_Sv_depthOf (Z : ZT) (a1 : Int) (I : Mem) (r : Int) (J : Mem) (hf : f_Sv_depthOf a1 I = some (r, J)) : Runs Z yX10_depthOf cX10_depthOf 2 (some .int) 1 [vr Z 5 0, vi a1] I (some (vi r), J) := by
  refine Runs.of (rv := fun x => some (vi x)) (by decide +kernel) (Nat.le_of_ble_eq_true rfl) hf (fun gr => ?_)
  unfold f_Sv_depthOf
  refine WQ.loc [0, 1] (lv' := [(0, vr Z 5 0), (1, vi a1)]) rfl ?_
  refine wq_iload_n dX10_depthOf_0 1 rfl rfl ?_
  refine wq_bipush dX10_depthOf_1 (by decide) ?_
  refine wq_icmp_lt 24 dX10_depthOf_3 (by decide) rfl rfl (fun c3 => ?_) (fun c3 => ?_)
  · refine wq_iconst dX10_depthOf_24 ?_
    exact wq_iret rfl rfl dX10_depthOf_25
  · refine wq_iload_n dX10_depthOf_6 1 rfl rfl ?_
    refine wq_bipush dX10_depthOf_7 (by decide) ?_
    refine wq_icmp_ge 24 dX10_depthOf_9 (by decide) rfl rfl (fun c2 => ?_) (fun c2 => ?_)
    · refine wq_aload_n dX10_depthOf_12 0 rfl rfl ?_
      refine g_5_1 ln_RX10_15 dX10_depthOf_13 ?_
      refine wq_iload_n dX10_depthOf_16 1 rfl rfl ?_
      refine wq_bipush dX10_depthOf_17 (by decide) ?_
      refine wq_isub dX10_depthOf_19 ?_
      refine wq_grd (fun g1 => ?_)
      refine wq_iald (k := 18) (i := 1) rfl (by decide) rfl rfl (m := 40) g1 (by decide) dX10_depthOf_20 ?_
      refine wq_goto 25 dX10_depthOf_21 (by decide) ?_
      exact wq_iret rfl rfl dX10_depthOf_25
    · refine wq_iconst dX10_depthOf_24 ?_
      exact wq_iret rfl rfl dX10_depthOf_25

theorem ln_RX10_56 : Cond.methodLink RX10 56 yX5_many ∈ lw_good := li_5 18 (by decide +kernel) (by decide +kernel)
theorem M_Sv_depthOf : MwV yX10_depthOf cX10_depthOf 2 (some .int) 1 := ⟨li_5 165 (by decide +kernel) (by decide +kernel), li_5 163 (by decide +kernel) (by decide +kernel), li_5 164 (by decide +kernel) (by decide +kernel), li_1 6 (by decide +kernel) (by decide +kernel), by decide +kernel⟩
theorem ln_RX10_69 : Cond.methodLink RX10 69 Lib.Math.max.name ∈ lw_good := li_5 20 (by decide +kernel) (by decide +kernel)
theorem ln_RX10_66 : Cond.methodLink RX10 66 yX10_depthOf ∈ lw_good := li_5 162 (by decide +kernel) (by decide +kernel)
theorem ln_RX10_62 : Cond.methodLink RX10 62 yX5_at ∈ lw_good := li_3 133 (by decide +kernel) (by decide +kernel)
noncomputable def f_Sv_deepestIn_w4 (v1 : Nat) (s : Int × Int) (I : Mem) : Option (((Int × Int) ⊕ (Int)) × Mem) :=
if (w32 s.2) < (w32 (I 2 v1 1)) then
bnd (f_Row_at v1 s.2 I) fun x4 J3 =>
bnd (f_Sv_depthOf x4 J3) fun x7 J6 =>
some (.inl ((imx s.1 x7), (s.2 + 1)), J6)
else
some (.inr s.1, I)

noncomputable def f_Sv_deepestIn (a1 : Nat) (I : Mem) : Option ((Int) × Mem) :=
if a1 < 516 then
bnd (whl (f_Sv_deepestIn_w4 a1) (0, 0) I) fun r24 J25 =>
some (r24, J25)
else none
set_option maxRecDepth 20000 in
theorem R_Sv_deepestIn (Z : ZT) (a1 : Nat) (I : Mem) (r : Int) (J : Mem) (hf : f_Sv_deepestIn a1 I = some (r, J)) : Runs Z yX10_deepestIn cX10_deepestIn 4 (some .int) 2 [vr Z 5 0, vr Z 2 a1] I (some (vi r), J) := by
  refine Runs.of (rv := fun x => some (vi x)) (by decide +kernel) (Nat.le_of_ble_eq_true rfl) hf (fun gr => ?_)
  unfold f_Sv_deepestIn
  refine WQ.loc [0, 1] (lv' := [(0, vr Z 5 0), (1, vr Z 2 a1)]) rfl ?_
  refine wq_grd (fun h1 => ?_)
  refine wq_iconst dX10_deepestIn_0 ?_
  refine wq_istore_n (lv' := [(2, vi 0), (0, vr Z 5 0), (1, vr Z 2 a1)]) dX10_deepestIn_1 rfl (by decide) rfl ?_
  refine wq_iconst dX10_deepestIn_2 ?_
  refine wq_istore_n (lv' := [(3, vi 0), (2, vi 0), (0, vr Z 5 0), (1, vr Z 2 a1)]) dX10_deepestIn_3 rfl (by decide) rfl ?_
  refine WQ.loc [2, 3, 1, 0] (lv' := [(0, vr Z 5 0), (1, vr Z 2 a1), (2, vi 0), (3, vi 0)]) rfl ?_
  refine wq_loopS (fun s15 => [(0, vr Z 5 0), (1, vr Z 2 a1), (2, vi s15.1), (3, vi s15.2)]) 32 (fun r24 => [(2, vi r24)]) (fun κ9 bk10 ex11 gr14 s15 J13 => ?_) (fun gr26 r24 J25 => ?_) gr _ rfl
  · unfold f_Sv_deepestIn_w4
    refine wq_iload_n dX10_deepestIn_4 3 rfl rfl ?_
    refine wq_aload_n dX10_deepestIn_5 1 rfl rfl ?_
    refine wq_pV (v := vi (J13 2 a1 1)) M_Row_many (R_Row_many Z a1 _ _ _ (if_pos h1)) (ob_2 h1) rfl rfl (by decide) (by decide) (Nat.le_of_ble_eq_true rfl) ln_RX10_56 dX10_deepestIn_6 (fun gr16 => ?_)
    refine wq_icmp_ge 32 dX10_deepestIn_9 (by decide) rfl rfl (fun c23 => ?_) (fun c23 => ?_)
    · refine wq_iload_n dX10_deepestIn_12 2 rfl rfl ?_
      refine wq_aload_n dX10_deepestIn_13 0 rfl rfl ?_
      refine wq_aload_n dX10_deepestIn_14 1 rfl rfl ?_
      refine wq_iload_n dX10_deepestIn_15 3 rfl rfl ?_
      refine wq_cVi M_Row_at (R_Row_at Z a1 s15.2 _) (ob_2 h1) rfl rfl (by decide) (by decide) (Nat.le_of_ble_eq_true rfl) ln_RX10_62 dX10_deepestIn_16 (fun gr17 x19 J18 => ?_)
      refine wq_cVi M_Sv_depthOf (R_Sv_depthOf Z x19 _) ob_5 rfl rfl (by decide) (by decide) (Nat.le_of_ble_eq_true rfl) ln_RX10_66 dX10_deepestIn_19 (fun gr20 x22 J21 => ?_)
      refine wq_max (by decide) (Nat.le_of_ble_eq_true rfl) ln_RX10_69 mt_max_s mt_i mt_max_c dX10_deepestIn_22 ?_
      refine wq_istore_n (lv' := [(2, vi (imx s15.1 x22)), (0, vr Z 5 0), (1, vr Z 2 a1), (3, vi s15.2)]) dX10_deepestIn_25 rfl (by decide) rfl ?_
      refine wq_iinc (lv' := [(3, vi (s15.2 + 1)), (2, vi (imx s15.1 x22)), (0, vr Z 5 0), (1, vr Z 2 a1)]) dX10_deepestIn_26 3 rfl (by decide) rfl ?_
      refine wq_goto 4 dX10_deepestIn_29 (by decide) ?_
      exact WQ.loc [2, 3, 1, 0] rfl (bk10 _ _ _)
    · exact WQ.loc [2] rfl (ex11 _ _ _)
  · refine wq_iload_n dX10_deepestIn_32 0 rfl rfl ?_
    exact wq_iret rfl rfl dX10_deepestIn_33

theorem ln_RX10_18 : Cond.fieldLink RX10 18 RX10 "comings" "[I" ∈ lw_good := li_1 148 (by decide +kernel) (by decide +kernel)
noncomputable def f_Sv_comingsOf (a1 : Int) (I : Mem) : Option ((Int) × Mem) :=
if (w32 a1) < 0 then
some (0, I)
else
if (w32 a1) < 40 then
if 0 ≤ (w32 a1) ∧ (w32 a1) < 40 then
some ((I 18 2 (w32 a1).toNat), I)
else none
else
some (0, I)
set_option maxRecDepth 20000 in
theorem R_Sv_comingsOf (Z : ZT) (a1 : Int) (I : Mem) (r : Int) (J : Mem) (hf : f_Sv_comingsOf a1 I = some (r, J)) : Runs Z yX10_comingsOf cX10_comingsOf 2 (some .int) 1 [vr Z 5 0, vi a1] I (some (vi r), J) := by
  refine Runs.of (rv := fun x => some (vi x)) (by decide +kernel) (Nat.le_of_ble_eq_true rfl) hf (fun gr => ?_)
  unfold f_Sv_comingsOf
  refine WQ.loc [0, 1] (lv' := [(0, vr Z 5 0), (1, vi a1)]) rfl ?_
  refine wq_iload_n dX10_comingsOf_0 1 rfl rfl ?_
  refine wq_if_lt 19 dX10_comingsOf_1 (by decide) rfl (fun c3 => ?_) (fun c3 => ?_)
  · refine wq_iconst dX10_comingsOf_19 ?_
    exact wq_iret rfl rfl dX10_comingsOf_20
  · refine wq_iload_n dX10_comingsOf_4 1 rfl rfl ?_
    refine wq_bipush dX10_comingsOf_5 (by decide) ?_
    refine wq_icmp_ge 19 dX10_comingsOf_7 (by decide) rfl rfl (fun c2 => ?_) (fun c2 => ?_)
    · refine wq_aload_n dX10_comingsOf_10 0 rfl rfl ?_
      refine g_5_2 ln_RX10_18 dX10_comingsOf_11 ?_
      refine wq_iload_n dX10_comingsOf_14 1 rfl rfl ?_
      refine wq_grd (fun g1 => ?_)
      refine wq_iald (k := 18) (i := 2) rfl (by decide) rfl rfl (m := 40) g1 (by decide) dX10_comingsOf_15 ?_
      refine wq_goto 20 dX10_comingsOf_16 (by decide) ?_
      exact wq_iret rfl rfl dX10_comingsOf_20
    · refine wq_iconst dX10_comingsOf_19 ?_
      exact wq_iret rfl rfl dX10_comingsOf_20
end
section
noncomputable def f_Sv_addComings_w2 (v1 : Nat) (v2 : Int) (s : Int) (I : Mem) : Option (((Int) ⊕ (Unit)) × Mem) :=
if (w32 s) < (w32 (I 2 v1 1)) then
bnd (f_Row_at v1 s I) fun x4 J3 =>
if (w32 (x4 - 26)) < 0 then
some (.inl (s + 1), J3)
else
if (w32 (x4 - 26)) < 40 then
if 0 ≤ (w32 (x4 - 26)) ∧ (w32 (x4 - 26)) < 40 then
ltI (sI J3 18 2 (w32 (x4 - 26)).toNat ((J3 18 2 (w32 (x4 - 26)).toNat) + v2)) fun J6 =>
some (.inl (s + 1), J6)
else none
else
some (.inl (s + 1), J3)
else
some (.inr (), I)

noncomputable def f_Sv_addComings (a1 : Nat) (a2 : Int) (I : Mem) : Option ((Unit) × Mem) :=
if a1 < 516 then
bnd (whl (f_Sv_addComings_w2 a1 a2) 0 I) fun r26 J27 =>
some ((), J27)
else none
set_option maxRecDepth 20000 in
theorem R_Sv_addComings (Z : ZT) (a1 : Nat) (a2 : Int) (I : Mem) (r : Unit) (J : Mem) (hf : f_Sv_addComings a1 a2 I = some (r, J)) : Runs Z yX10_addComings cX10_addComings 5 (none) 2 [vr Z 5 0, vr Z 2 a1, vi a2] I (none, J) := by
  refine Runs.of (rv := fun _ => none) (by decide +kernel) (Nat.le_of_ble_eq_true rfl) hf (fun gr => ?_)
  unfold f_Sv_addComings
  refine WQ.loc [0, 1, 2] (lv' := [(0, vr Z 5 0), (1, vr Z 2 a1), (2, vi a2)]) rfl ?_
  refine wq_grd (fun h1 => ?_)
  refine wq_iconst dX10_addComings_0 ?_
  refine wq_istore_n (lv' := [(3, vi 0), (0, vr Z 5 0), (1, vr Z 2 a1), (2, vi a2)]) dX10_addComings_1 rfl (by decide) rfl ?_
  refine WQ.loc [1, 2, 3, 0] (lv' := [(0, vr Z 5 0), (1, vr Z 2 a1), (2, vi a2), (3, vi 0)]) rfl ?_
  refine wq_loopS (fun s16 => [(0, vr Z 5 0), (1, vr Z 2 a1), (2, vi a2), (3, vi s16)]) 49 (fun _ => []) (fun κ10 bk11 ex12 gr15 s16 J14 => ?_) (fun gr28 r26 J27 => ?_) gr _ rfl
  · unfold f_Sv_addComings_w2
    refine wq_iload_n dX10_addComings_2 3 rfl rfl ?_
    refine wq_aload_n dX10_addComings_3 1 rfl rfl ?_
    refine wq_pV (v := vi (J14 2 a1 1)) M_Row_many (R_Row_many Z a1 _ _ _ (if_pos h1)) (ob_2 h1) rfl rfl (by decide) (by decide) (Nat.le_of_ble_eq_true rfl) ln_RX10_56 dX10_addComings_4 (fun gr17 => ?_)
    refine wq_icmp_ge 49 dX10_addComings_7 (by decide) rfl rfl (fun c25 => ?_) (fun c25 => ?_)
    · refine wq_aload_n dX10_addComings_10 1 rfl rfl ?_
      refine wq_iload_n dX10_addComings_11 3 rfl rfl ?_
      refine wq_cVi M_Row_at (R_Row_at Z a1 s16 _) (ob_2 h1) rfl rfl (by decide) (by decide) (Nat.le_of_ble_eq_true rfl) ln_RX10_62 dX10_addComings_12 (fun gr18 x20 J19 => ?_)
      refine wq_bipush dX10_addComings_15 (by decide) ?_
      refine wq_isub dX10_addComings_17 ?_
      refine wq_istore (lv' := [(4, vi (x20 - 26)), (0, vr Z 5 0), (1, vr Z 2 a1), (2, vi a2), (3, vi s16)]) dX10_addComings_18 (by decide) rfl ?_
      refine wq_iload dX10_addComings_20 0 rfl ?_
      refine wq_if_lt 43 dX10_addComings_22 (by decide) rfl (fun c24 => ?_) (fun c24 => ?_)
      · refine wq_iinc (lv' := [(3, vi (s16 + 1)), (4, vi (x20 - 26)), (0, vr Z 5 0), (1, vr Z 2 a1), (2, vi a2)]) dX10_addComings_43 4 rfl (by decide) rfl ?_
        refine wq_goto 2 dX10_addComings_46 (by decide) ?_
        exact WQ.loc [2, 3, 4, 0] rfl (bk11 _ _ _)
      · refine wq_iload dX10_addComings_25 0 rfl ?_
        refine wq_bipush dX10_addComings_27 (by decide) ?_
        refine wq_icmp_ge 43 dX10_addComings_29 (by decide) rfl rfl (fun c23 => ?_) (fun c23 => ?_)
        · refine wq_aload_n dX10_addComings_32 1 rfl rfl ?_
          refine g_5_2 ln_RX10_18 dX10_addComings_33 ?_
          refine wq_iload dX10_addComings_36 0 rfl ?_
          refine wq_dup2 dX10_addComings_38 rfl rfl ?_
          refine wq_grd (fun g21 => ?_)
          refine wq_iald (k := 18) (i := 2) rfl (by decide) rfl rfl (m := 40) g21 (by decide) dX10_addComings_39 ?_
          refine wq_iload_n dX10_addComings_40 3 rfl rfl ?_
          refine wq_iadd dX10_addComings_41 ?_
          refine wq_iast (k := 18) (i := 2) (fun _ _ => rfl) (by decide) rfl rfl (m := 40) g21 (by decide) (by decide) (by decide) (by decide) dX10_addComings_42 (fun J22 => ?_)
          refine wq_iinc (lv' := [(3, vi (s16 + 1)), (4, vi (x20 - 26)), (0, vr Z 5 0), (1, vr Z 2 a1), (2, vi a2)]) dX10_addComings_43 4 rfl (by decide) rfl ?_
          refine wq_goto 2 dX10_addComings_46 (by decide) ?_
          exact WQ.loc [2, 3, 4, 0] rfl (bk11 _ _ _)
        · refine wq_iinc (lv' := [(3, vi (s16 + 1)), (4, vi (x20 - 26)), (0, vr Z 5 0), (1, vr Z 2 a1), (2, vi a2)]) dX10_addComings_43 4 rfl (by decide) rfl ?_
          refine wq_goto 2 dX10_addComings_46 (by decide) ?_
          exact WQ.loc [2, 3, 4, 0] rfl (bk11 _ _ _)
    · exact WQ.loc [] rfl (ex12 _ _ _)
  · exact wq_vret rfl rfl dX10_addComings_49

theorem ln_RX10_82 : Cond.fieldLink RX10 82 RX10 "manyLetters" "I" ∈ lw_good := li_1 153 (by decide +kernel) (by decide +kernel)
theorem ln_RX10_21 : Cond.fieldLink RX10 21 RX10 "text" "[I" ∈ lw_good := li_1 149 (by decide +kernel) (by decide +kernel)
noncomputable def f_Sv_addLetter (a1 : Int) (I : Mem) : Option ((Unit) × Mem) :=
if (w32 (I 5 0 7)) < 400 then
if 0 ≤ (w32 (I 5 0 7)) ∧ (w32 (I 5 0 7)) < 400 then
ltI (sI I 18 3 (w32 (I 5 0 7)).toNat a1) fun J2 =>
ltI (sI J2 5 0 7 ((J2 5 0 7) + 1)) fun J3 =>
some ((), J3)
else none
else
some ((), I)
set_option maxRecDepth 20000 in
theorem R_Sv_addLetter (Z : ZT) (a1 : Int) (I : Mem) (r : Unit) (J : Mem) (hf : f_Sv_addLetter a1 I = some (r, J)) : Runs Z yX10_addLetter cX10_addLetter 2 (none) 1 [vr Z 5 0, vi a1] I (none, J) := by
  refine Runs.of (rv := fun _ => none) (by decide +kernel) (Nat.le_of_ble_eq_true rfl) hf (fun gr => ?_)
  unfold f_Sv_addLetter
  refine WQ.loc [0, 1] (lv' := [(0, vr Z 5 0), (1, vi a1)]) rfl ?_
  refine wq_aload_n dX10_addLetter_0 0 rfl rfl ?_
  refine g_5_7 ln_RX10_82 dX10_addLetter_1 ?_
  refine wq_sipush dX10_addLetter_4 (by decide) ?_
  refine wq_icmp_ge 30 dX10_addLetter_7 (by decide) rfl rfl (fun c4 => ?_) (fun c4 => ?_)
  · refine wq_aload_n dX10_addLetter_10 0 rfl rfl ?_
    refine g_5_3 ln_RX10_21 dX10_addLetter_11 ?_
    refine wq_aload_n dX10_addLetter_14 0 rfl rfl ?_
    refine g_5_7 ln_RX10_82 dX10_addLetter_15 ?_
    refine wq_iload_n dX10_addLetter_18 1 rfl rfl ?_
    refine wq_grd (fun g1 => ?_)
    refine wq_iast (k := 18) (i := 3) (fun _ _ => rfl) (by decide) rfl rfl (m := 400) g1 (by decide) (by decide) (by decide) (by decide) dX10_addLetter_19 (fun J2 => ?_)
    refine wq_aload_n dX10_addLetter_20 0 rfl rfl ?_
    refine wq_dup dX10_addLetter_21 rfl ?_
    refine g_5_7 ln_RX10_82 dX10_addLetter_22 ?_
    refine wq_iconst dX10_addLetter_25 ?_
    refine wq_iadd dX10_addLetter_26 ?_
    refine p_5_7 ln_RX10_82 dX10_addLetter_27 (fun J3 => ?_)
    exact wq_vret rfl rfl dX10_addLetter_30
  · exact wq_vret rfl rfl dX10_addLetter_30

noncomputable def f_Sv_timesOfLetter_w4 (v1 : Int) (s : Int × Int) (I : Mem) : Option (((Int × Int) ⊕ (Int)) × Mem) :=
if (w32 s.2) < (w32 (I 5 0 7)) then
if 0 ≤ (w32 s.2) ∧ (w32 s.2) < 400 then
some (.inl ((s.1 + (if (w32 (I 18 3 (w32 s.2).toNat)) = (w32 v1) then 1 else 0)), (s.2 + 1)), I)
else none
else
some (.inr s.1, I)

noncomputable def f_Sv_timesOfLetter (a1 : Int) (I : Mem) : Option ((Int) × Mem) :=
bnd (whl (f_Sv_timesOfLetter_w4 a1) (0, 0) I) fun r16 J17 =>
some (r16, J17)
set_option maxRecDepth 20000 in
theorem R_Sv_timesOfLetter (Z : ZT) (a1 : Int) (I : Mem) (r : Int) (J : Mem) (hf : f_Sv_timesOfLetter a1 I = some (r, J)) : Runs Z yX10_timesOfLetter cX10_timesOfLetter 4 (some .int) 1 [vr Z 5 0, vi a1] I (some (vi r), J) := by
  refine Runs.of (rv := fun x => some (vi x)) (by decide +kernel) (Nat.le_of_ble_eq_true rfl) hf (fun gr => ?_)
  unfold f_Sv_timesOfLetter
  refine WQ.loc [0, 1] (lv' := [(0, vr Z 5 0), (1, vi a1)]) rfl ?_
  refine wq_iconst dX10_timesOfLetter_0 ?_
  refine wq_istore_n (lv' := [(2, vi 0), (0, vr Z 5 0), (1, vi a1)]) dX10_timesOfLetter_1 rfl (by decide) rfl ?_
  refine wq_iconst dX10_timesOfLetter_2 ?_
  refine wq_istore_n (lv' := [(3, vi 0), (2, vi 0), (0, vr Z 5 0), (1, vi a1)]) dX10_timesOfLetter_3 rfl (by decide) rfl ?_
  refine WQ.loc [2, 3, 1, 0] (lv' := [(0, vr Z 5 0), (1, vi a1), (2, vi 0), (3, vi 0)]) rfl ?_
  refine wq_loopS (fun s11 => [(0, vr Z 5 0), (1, vi a1), (2, vi s11.1), (3, vi s11.2)]) 36 (fun r16 => [(2, vi r16)]) (fun κ5 bk6 ex7 gr10 s11 J9 => ?_) (fun gr18 r16 J17 => ?_) gr _ rfl
  · unfold f_Sv_timesOfLetter_w4
    refine wq_iload_n dX10_timesOfLetter_4 3 rfl rfl ?_
    refine wq_aload_n dX10_timesOfLetter_5 0 rfl rfl ?_
    refine g_5_7 ln_RX10_82 dX10_timesOfLetter_6 ?_
    refine wq_icmp_ge 36 dX10_timesOfLetter_9 (by decide) rfl rfl (fun c15 => ?_) (fun c15 => ?_)
    · refine wq_iload_n dX10_timesOfLetter_12 2 rfl rfl ?_
      refine wq_aload_n dX10_timesOfLetter_13 0 rfl rfl ?_
      refine g_5_3 ln_RX10_21 dX10_timesOfLetter_14 ?_
      refine wq_iload_n dX10_timesOfLetter_17 3 rfl rfl ?_
      refine wq_grd (fun g12 => ?_)
      refine wq_iald (k := 18) (i := 3) rfl (by decide) rfl rfl (m := 400) g12 (by decide) dX10_timesOfLetter_18 ?_
      refine wq_iload_n dX10_timesOfLetter_19 1 rfl rfl ?_
      refine WQ.via 28 [vi (if (w32 (J9 18 3 (w32 s11.2).toNat)) = (w32 a1) then 1 else 0), vi s11.1] (by
          refine wq_iadd dX10_timesOfLetter_28 ?_
          refine wq_istore_n (lv' := [(2, vi (s11.1 + (if (w32 (J9 18 3 (w32 s11.2).toNat)) = (w32 a1) then 1 else 0))), (0, vr Z 5 0), (1, vi a1), (3, vi s11.2)]) dX10_timesOfLetter_29 rfl (by decide) rfl ?_
          refine wq_iinc (lv' := [(3, vi (s11.2 + 1)), (2, vi (s11.1 + (if (w32 (J9 18 3 (w32 s11.2).toNat)) = (w32 a1) then 1 else 0))), (0, vr Z 5 0), (1, vi a1)]) dX10_timesOfLetter_30 3 rfl (by decide) rfl ?_
          refine wq_goto 4 dX10_timesOfLetter_33 (by decide) ?_
          exact WQ.loc [2, 3, 1, 0] rfl (bk6 _ _ _)) (fun hj13 => ?_)
      refine WQ.both ((w32 (J9 18 3 (w32 s11.2).toNat)) = (w32 a1)) ?_
      refine wq_icmp_ne 27 dX10_timesOfLetter_20 (by decide) rfl rfl (fun c14 => ?_) (fun c14 => ?_)
      · refine wq_iconst dX10_timesOfLetter_23 ?_
        refine wq_goto 28 dX10_timesOfLetter_24 (by decide) ?_
        exact WQ.top (if_pos c14) hj13
      · refine wq_iconst dX10_timesOfLetter_27 ?_
        exact WQ.top (if_neg c14) hj13
    · exact WQ.loc [2] rfl (ex7 _ _ _)
  · refine wq_iload_n dX10_timesOfLetter_36 0 rfl rfl ?_
    exact wq_iret rfl rfl dX10_timesOfLetter_37

theorem M_Sv_timesOfLetter : MwV yX10_timesOfLetter cX10_timesOfLetter 4 (some .int) 1 := ⟨li_5 178 (by decide +kernel) (by decide +kernel), li_5 176 (by decide +kernel) (by decide +kernel), li_5 177 (by decide +kernel) (by decide +kernel), li_1 6 (by decide +kernel) (by decide +kernel), by decide +kernel⟩
theorem ln_RX10_96 : Cond.methodLink RX10 96 yX10_timesOfLetter ∈ lw_good := li_5 175 (by decide +kernel) (by decide +kernel)
noncomputable def f_Sv_unlikeLetters_w4  (s : Int × Int) (I : Mem) : Option (((Int × Int) ⊕ (Int)) × Mem) :=
if (w32 s.2) < 26 then
bnd (f_Sv_timesOfLetter s.2 I) fun x3 J2 =>
some (.inl ((s.1 + (if 0 < (w32 x3) then 1 else 0)), (s.2 + 1)), J2)
else
some (.inr s.1, I)

noncomputable def f_Sv_unlikeLetters  (I : Mem) : Option ((Int) × Mem) :=
bnd (whl (f_Sv_unlikeLetters_w4) (0, 0) I) fun r20 J21 =>
some (r20, J21)
set_option maxRecDepth 20000 in
theorem R_Sv_unlikeLetters (Z : ZT)  (I : Mem) (r : Int) (J : Mem) (hf : f_Sv_unlikeLetters I = some (r, J)) : Runs Z yX10_unlikeLetters cX10_unlikeLetters 3 (some .int) 2 [vr Z 5 0] I (some (vi r), J) := by
  refine Runs.of (rv := fun x => some (vi x)) (by decide +kernel) (Nat.le_of_ble_eq_true rfl) hf (fun gr => ?_)
  unfold f_Sv_unlikeLetters
  refine WQ.loc [0] (lv' := [(0, vr Z 5 0)]) rfl ?_
  refine wq_iconst dX10_unlikeLetters_0 ?_
  refine wq_istore_n (lv' := [(1, vi 0), (0, vr Z 5 0)]) dX10_unlikeLetters_1 rfl (by decide) rfl ?_
  refine wq_iconst dX10_unlikeLetters_2 ?_
  refine wq_istore_n (lv' := [(2, vi 0), (1, vi 0), (0, vr Z 5 0)]) dX10_unlikeLetters_3 rfl (by decide) rfl ?_
  refine WQ.loc [2, 1, 0] (lv' := [(0, vr Z 5 0), (1, vi 0), (2, vi 0)]) rfl ?_
  refine wq_loopS (fun s13 => [(0, vr Z 5 0), (1, vi s13.1), (2, vi s13.2)]) 32 (fun r20 => [(1, vi r20)]) (fun κ7 bk8 ex9 gr12 s13 J11 => ?_) (fun gr22 r20 J21 => ?_) gr _ rfl
  · unfold f_Sv_unlikeLetters_w4
    refine wq_iload_n dX10_unlikeLetters_4 2 rfl rfl ?_
    refine wq_bipush dX10_unlikeLetters_5 (by decide) ?_
    refine wq_icmp_ge 32 dX10_unlikeLetters_7 (by decide) rfl rfl (fun c19 => ?_) (fun c19 => ?_)
    · refine wq_iload_n dX10_unlikeLetters_10 1 rfl rfl ?_
      refine wq_aload_n dX10_unlikeLetters_11 0 rfl rfl ?_
      refine wq_iload_n dX10_unlikeLetters_12 2 rfl rfl ?_
      refine wq_cVi M_Sv_timesOfLetter (R_Sv_timesOfLetter Z s13.2 _) ob_5 rfl rfl (by decide) (by decide) (Nat.le_of_ble_eq_true rfl) ln_RX10_96 dX10_unlikeLetters_13 (fun gr14 x16 J15 => ?_)
      refine WQ.via 24 [vi (if 0 < (w32 x16) then 1 else 0), vi s13.1] (by
          refine wq_iadd dX10_unlikeLetters_24 ?_
          refine wq_istore_n (lv' := [(1, vi (s13.1 + (if 0 < (w32 x16) then 1 else 0))), (0, vr Z 5 0), (2, vi s13.2)]) dX10_unlikeLetters_25 rfl (by decide) rfl ?_
          refine wq_iinc (lv' := [(2, vi (s13.2 + 1)), (1, vi (s13.1 + (if 0 < (w32 x16) then 1 else 0))), (0, vr Z 5 0)]) dX10_unlikeLetters_26 2 rfl (by decide) rfl ?_
          refine wq_goto 4 dX10_unlikeLetters_29 (by decide) ?_
          exact WQ.loc [2, 1, 0] rfl (bk8 _ _ _)) (fun hj17 => ?_)
      refine WQ.both (0 < (w32 x16)) ?_
      refine wq_if_le 23 dX10_unlikeLetters_16 (by decide) rfl (fun c18 => ?_) (fun c18 => ?_)
      · refine wq_iconst dX10_unlikeLetters_19 ?_
        refine wq_goto 24 dX10_unlikeLetters_20 (by decide) ?_
        exact WQ.top (if_pos c18) hj17
      · refine wq_iconst dX10_unlikeLetters_23 ?_
        exact WQ.top (if_neg c18) hj17
    · exact WQ.loc [1] rfl (ex9 _ _ _)
  · refine wq_iload_n dX10_unlikeLetters_32 0 rfl rfl ?_
    exact wq_iret rfl rfl dX10_unlikeLetters_33

theorem ln_RX10_99 : Cond.methodLink RX10 99 Lib.Math.min.name ∈ lw_good := li_5 19 (by decide +kernel) (by decide +kernel)
noncomputable def f_Sv_unlike_w29 (v1 : Nat) (v2 : Int) (s : Int × Int) (I : Mem) : Option (((Int × Int) ⊕ (Int)) × Mem) :=
if (w32 s.2) < (w32 v2) then
if 0 ≤ (w32 s.2) ∧ (w32 s.2) < 400 then
bnd (f_Row_at v1 s.2 I) fun x6 J5 =>
some (.inl ((s.1 + (if (w32 (I 18 3 (w32 s.2).toNat)) = (w32 x6) then 0 else 1)), (s.2 + 1)), J5)
else none
else
some (.inr s.1, I)

noncomputable def f_Sv_unlike (a1 : Nat) (I : Mem) : Option ((Int) × Mem) :=
if a1 < 516 then
bnd (whl (f_Sv_unlike_w29 a1 (imn (I 5 0 7) (I 2 a1 1))) (((imx (I 5 0 7) (I 2 a1 1)) - (imn (I 5 0 7) (I 2 a1 1))), 0) I) fun r24 J25 =>
some (r24, J25)
else none
set_option maxRecDepth 20000 in
theorem R_Sv_unlike (Z : ZT) (a1 : Nat) (I : Mem) (r : Int) (J : Mem) (hf : f_Sv_unlike a1 I = some (r, J)) : Runs Z yX10_unlike cX10_unlike 5 (some .int) 2 [vr Z 5 0, vr Z 2 a1] I (some (vi r), J) := by
  refine Runs.of (rv := fun x => some (vi x)) (by decide +kernel) (Nat.le_of_ble_eq_true rfl) hf (fun gr => ?_)
  unfold f_Sv_unlike
  refine WQ.loc [0, 1] (lv' := [(0, vr Z 5 0), (1, vr Z 2 a1)]) rfl ?_
  refine wq_grd (fun h1 => ?_)
  refine wq_aload_n dX10_unlike_0 0 rfl rfl ?_
  refine g_5_7 ln_RX10_82 dX10_unlike_1 ?_
  refine wq_aload_n dX10_unlike_4 1 rfl rfl ?_
  refine wq_pV (v := vi (I 2 a1 1)) M_Row_many (R_Row_many Z a1 _ _ _ (if_pos h1)) (ob_2 h1) rfl rfl (by decide) (by decide) (Nat.le_of_ble_eq_true rfl) ln_RX10_56 dX10_unlike_5 (fun gr1 => ?_)
  refine wq_min (by decide) (Nat.le_of_ble_eq_true rfl) ln_RX10_99 mt_min_s mt_i mt_min_c dX10_unlike_8 ?_
  refine wq_istore_n (lv' := [(2, vi (imn (I 5 0 7) (I 2 a1 1))), (0, vr Z 5 0), (1, vr Z 2 a1)]) dX10_unlike_11 rfl (by decide) rfl ?_
  refine wq_aload_n dX10_unlike_12 1 rfl rfl ?_
  refine g_5_7 ln_RX10_82 dX10_unlike_13 ?_
  refine wq_aload_n dX10_unlike_16 2 rfl rfl ?_
  refine wq_pV (v := vi (I 2 a1 1)) M_Row_many (R_Row_many Z a1 _ _ _ (if_pos h1)) (ob_2 h1) rfl rfl (by decide) (by decide) (Nat.le_of_ble_eq_true rfl) ln_RX10_56 dX10_unlike_17 (fun gr2 => ?_)
  refine wq_max (by decide) (Nat.le_of_ble_eq_true rfl) ln_RX10_69 mt_max_s mt_i mt_max_c dX10_unlike_20 ?_
  refine wq_iload_n dX10_unlike_23 0 rfl rfl ?_
  refine wq_isub dX10_unlike_24 ?_
  refine wq_istore_n (lv' := [(3, vi ((imx (I 5 0 7) (I 2 a1 1)) - (imn (I 5 0 7) (I 2 a1 1)))), (2, vi (imn (I 5 0 7) (I 2 a1 1))), (0, vr Z 5 0), (1, vr Z 2 a1)]) dX10_unlike_25 rfl (by decide) rfl ?_
  refine wq_iconst dX10_unlike_26 ?_
  refine wq_istore (lv' := [(4, vi 0), (3, vi ((imx (I 5 0 7) (I 2 a1 1)) - (imn (I 5 0 7) (I 2 a1 1)))), (2, vi (imn (I 5 0 7) (I 2 a1 1))), (0, vr Z 5 0), (1, vr Z 2 a1)]) dX10_unlike_27 (by decide) rfl ?_
  refine WQ.loc [3, 4, 2, 1, 0] (lv' := [(0, vr Z 5 0), (1, vr Z 2 a1), (2, vi (imn (I 5 0 7) (I 2 a1 1))), (3, vi ((imx (I 5 0 7) (I 2 a1 1)) - (imn (I 5 0 7) (I 2 a1 1)))), (4, vi 0)]) rfl ?_
  refine wq_loopS (fun s16 => [(0, vr Z 5 0), (1, vr Z 2 a1), (2, vi (imn (I 5 0 7) (I 2 a1 1))), (3, vi s16.1), (4, vi s16.2)]) 65 (fun r24 => [(3, vi r24)]) (fun κ10 bk11 ex12 gr15 s16 J14 => ?_) (fun gr26 r24 J25 => ?_) gr2 _ rfl
  · unfold f_Sv_unlike_w29
    refine wq_iload dX10_unlike_29 4 rfl ?_
    refine wq_iload_n dX10_unlike_31 2 rfl rfl ?_
    refine wq_icmp_ge 65 dX10_unlike_32 (by decide) rfl rfl (fun c23 => ?_) (fun c23 => ?_)
    · refine wq_iload_n dX10_unlike_35 3 rfl rfl ?_
      refine wq_aload_n dX10_unlike_36 0 rfl rfl ?_
      refine g_5_3 ln_RX10_21 dX10_unlike_37 ?_
      refine wq_iload dX10_unlike_40 4 rfl ?_
      refine wq_grd (fun g17 => ?_)
      refine wq_iald (k := 18) (i := 3) rfl (by decide) rfl rfl (m := 400) g17 (by decide) dX10_unlike_42 ?_
      refine wq_aload_n dX10_unlike_43 1 rfl rfl ?_
      refine wq_iload dX10_unlike_44 4 rfl ?_
      refine wq_cVi M_Row_at (R_Row_at Z a1 s16.2 _) (ob_2 h1) rfl rfl (by decide) (by decide) (Nat.le_of_ble_eq_true rfl) ln_RX10_62 dX10_unlike_46 (fun gr18 x20 J19 => ?_)
      refine WQ.via 57 [vi (if (w32 (J14 18 3 (w32 s16.2).toNat)) = (w32 x20) then 0 else 1), vi s16.1] (by
          refine wq_iadd dX10_unlike_57 ?_
          refine wq_istore_n (lv' := [(3, vi (s16.1 + (if (w32 (J14 18 3 (w32 s16.2).toNat)) = (w32 x20) then 0 else 1))), (0, vr Z 5 0), (1, vr Z 2 a1), (2, vi (imn (I 5 0 7) (I 2 a1 1))), (4, vi s16.2)]) dX10_unlike_58 rfl (by decide) rfl ?_
          refine wq_iinc (lv' := [(4, vi (s16.2 + 1)), (3, vi (s16.1 + (if (w32 (J14 18 3 (w32 s16.2).toNat)) = (w32 x20) then 0 else 1))), (0, vr Z 5 0), (1, vr Z 2 a1), (2, vi (imn (I 5 0 7) (I 2 a1 1)))]) dX10_unlike_59 4 rfl (by decide) rfl ?_
          refine wq_goto 29 dX10_unlike_62 (by decide) ?_
          exact WQ.loc [2, 3, 4, 1, 0] rfl (bk11 _ _ _)) (fun hj21 => ?_)
      refine WQ.both ((w32 (J14 18 3 (w32 s16.2).toNat)) = (w32 x20)) ?_
      refine wq_icmp_ne 56 dX10_unlike_49 (by decide) rfl rfl (fun c22 => ?_) (fun c22 => ?_)
      · refine wq_iconst dX10_unlike_52 ?_
        refine wq_goto 57 dX10_unlike_53 (by decide) ?_
        exact WQ.top (if_pos c22) hj21
      · refine wq_iconst dX10_unlike_56 ?_
        exact WQ.top (if_neg c22) hj21
    · exact WQ.loc [3] rfl (ex12 _ _ _)
  · refine wq_iload_n dX10_unlike_65 0 rfl rfl ?_
    exact wq_iret rfl rfl dX10_unlike_66

theorem ln_RX8_15 : Cond.fieldLink RX8 15 RX8 "many" "I" ∈ lw_good := li_1 178 (by decide +kernel) (by decide +kernel)
noncomputable def f_Src_many  (I : Mem) : Option ((Int) × Mem) :=
some ((I 6 0 1), I)
set_option maxRecDepth 20000 in
theorem R_Src_many (Z : ZT)  (I : Mem) (r : Int) (J : Mem) (hf : f_Src_many I = some (r, J)) : Runs Z yX8_many cX8_many 1 (some .int) 1 [vr Z 6 0] I (some (vi r), J) := by
  refine Runs.of (rv := fun x => some (vi x)) (by decide +kernel) (Nat.le_of_ble_eq_true rfl) hf (fun gr => ?_)
  unfold f_Src_many
  refine WQ.loc [0] (lv' := [(0, vr Z 6 0)]) rfl ?_
  refine wq_aload_n dX8_many_0 0 rfl rfl ?_
  refine g_6_1 ln_RX8_15 dX8_many_1 ?_
  exact wq_iret rfl rfl dX8_many_4

noncomputable def f_Src_dropAll  (I : Mem) : Option ((Unit) × Mem) :=
ltI (sI I 6 0 1 0) fun J1 =>
some ((), J1)
set_option maxRecDepth 20000 in
theorem R_Src_dropAll (Z : ZT)  (I : Mem) (r : Unit) (J : Mem) (hf : f_Src_dropAll I = some (r, J)) : Runs Z yX8_dropAll cX8_dropAll 1 (none) 1 [vr Z 6 0] I (none, J) := by
  refine Runs.of (rv := fun _ => none) (by decide +kernel) (Nat.le_of_ble_eq_true rfl) hf (fun gr => ?_)
  unfold f_Src_dropAll
  refine WQ.loc [0] (lv' := [(0, vr Z 6 0)]) rfl ?_
  refine wq_aload_n dX8_dropAll_0 0 rfl rfl ?_
  refine wq_iconst dX8_dropAll_1 ?_
  refine p_6_1 ln_RX8_15 dX8_dropAll_2 (fun J1 => ?_)
  exact wq_vret rfl rfl dX8_dropAll_5

noncomputable def f_Src_bytesIn_w5 (v1 : Int) (s : Int × Int) (I : Mem) : Option (((Int × Int) ⊕ (Int)) × Mem) :=
if (w32 s.2) < 0 then
some (.inr s.1, I)
else
some (.inl ((s.1 + (if (w32 (ian (ius v1 s.2) 255)) = 0 then 0 else 1)), (s.2 + (-8))), I)

noncomputable def f_Src_bytesIn (a1 : Int) (I : Mem) : Option ((Int) × Mem) :=
bnd (whl (f_Src_bytesIn_w5 a1) (0, 24) I) fun r14 J15 =>
some (r14, J15)
set_option maxRecDepth 20000 in
theorem R_Src_bytesIn (Z : ZT) (a1 : Int) (I : Mem) (r : Int) (J : Mem) (hf : f_Src_bytesIn a1 I = some (r, J)) : Runs Z yX8_bytesIn cX8_bytesIn 4 (some .int) 1 [vr Z 6 0, vi a1] I (some (vi r), J) := by
  refine Runs.of (rv := fun x => some (vi x)) (by decide +kernel) (Nat.le_of_ble_eq_true rfl) hf (fun gr => ?_)
  unfold f_Src_bytesIn
  refine WQ.loc [0, 1] (lv' := [(0, vr Z 6 0), (1, vi a1)]) rfl ?_
  refine wq_iconst dX8_bytesIn_0 ?_
  refine wq_istore_n (lv' := [(2, vi 0), (0, vr Z 6 0), (1, vi a1)]) dX8_bytesIn_1 rfl (by decide) rfl ?_
  refine wq_bipush dX8_bytesIn_2 (by decide) ?_
  refine wq_istore_n (lv' := [(3, vi 24), (2, vi 0), (0, vr Z 6 0), (1, vi a1)]) dX8_bytesIn_4 rfl (by decide) rfl ?_
  refine WQ.loc [3, 1, 0] (lv' := [(1, vi a1), (2, vi 0), (3, vi 24)]) rfl ?_
  refine wq_loopS (fun s10 => [(1, vi a1), (2, vi s10.1), (3, vi s10.2)]) 33 (fun r14 => [(2, vi r14)]) (fun κ4 bk5 ex6 gr9 s10 J8 => ?_) (fun gr16 r14 J15 => ?_) gr _ rfl
  · unfold f_Src_bytesIn_w5
    refine wq_iload_n dX8_bytesIn_5 2 rfl rfl ?_
    refine wq_if_lt 33 dX8_bytesIn_6 (by decide) rfl (fun c13 => ?_) (fun c13 => ?_)
    · exact WQ.loc [1] rfl (ex6 _ _ _)
    · refine wq_iload_n dX8_bytesIn_9 1 rfl rfl ?_
      refine wq_iload_n dX8_bytesIn_10 0 rfl rfl ?_
      refine wq_iload_n dX8_bytesIn_11 2 rfl rfl ?_
      refine wq_iushr dX8_bytesIn_12 ?_
      refine wq_sipush dX8_bytesIn_13 (by decide) ?_
      refine wq_iand dX8_bytesIn_16 ?_
      refine WQ.via 25 [vi (if (w32 (ian (ius a1 s10.2) 255)) = 0 then 0 else 1), vi s10.1] (by
          refine wq_iadd dX8_bytesIn_25 ?_
          refine wq_istore_n (lv' := [(2, vi (s10.1 + (if (w32 (ian (ius a1 s10.2) 255)) = 0 then 0 else 1))), (1, vi a1), (3, vi s10.2)]) dX8_bytesIn_26 rfl (by decide) rfl ?_
          refine wq_iinc (lv' := [(3, vi (s10.2 + (-8))), (2, vi (s10.1 + (if (w32 (ian (ius a1 s10.2) 255)) = 0 then 0 else 1))), (1, vi a1)]) dX8_bytesIn_27 2 rfl (by decide) rfl ?_
          refine wq_goto 5 dX8_bytesIn_30 (by decide) ?_
          exact WQ.loc [2, 1, 0] rfl (bk5 _ _ _)) (fun hj11 => ?_)
      refine WQ.both ((w32 (ian (ius a1 s10.2) 255)) = 0) ?_
      refine wq_if_eq 24 dX8_bytesIn_17 (by decide) rfl (fun c12 => ?_) (fun c12 => ?_)
      · refine wq_iconst dX8_bytesIn_24 ?_
        exact WQ.top (if_pos c12) hj11
      · refine wq_iconst dX8_bytesIn_20 ?_
        refine wq_goto 25 dX8_bytesIn_21 (by decide) ?_
        exact WQ.top (if_neg c12) hj11
  · refine wq_iload_n dX8_bytesIn_33 0 rfl rfl ?_
    exact wq_iret rfl rfl dX8_bytesIn_34

noncomputable def f_Src_hasRoomFor (a1 : Int) (I : Mem) : Option ((Int) × Mem) :=
if 600 < (w32 ((I 6 0 1) + a1)) then
some (0, I)
else
some (1, I)
set_option maxRecDepth 20000 in
theorem R_Src_hasRoomFor (Z : ZT) (a1 : Int) (I : Mem) (r : Int) (J : Mem) (hf : f_Src_hasRoomFor a1 I = some (r, J)) : Runs Z yX8_hasRoomFor cX8_hasRoomFor 2 (some .boolean) 1 [vr Z 6 0, vi a1] I (some (vi r), J) := by
  refine Runs.of (rv := fun x => some (vi x)) (by decide +kernel) (Nat.le_of_ble_eq_true rfl) hf (fun gr => ?_)
  unfold f_Src_hasRoomFor
  refine WQ.loc [0, 1] (lv' := [(0, vr Z 6 0), (1, vi a1)]) rfl ?_
  refine wq_aload_n dX8_hasRoomFor_0 0 rfl rfl ?_
  refine g_6_1 ln_RX8_15 dX8_hasRoomFor_1 ?_
  refine wq_iload_n dX8_hasRoomFor_4 1 rfl rfl ?_
  refine wq_iadd dX8_hasRoomFor_5 ?_
  refine wq_sipush dX8_hasRoomFor_6 (by decide) ?_
  refine wq_icmp_gt 16 dX8_hasRoomFor_9 (by decide) rfl rfl (fun c1 => ?_) (fun c1 => ?_)
  · refine wq_iconst dX8_hasRoomFor_16 ?_
    exact wq_zret rfl (by decide) rfl dX8_hasRoomFor_17
  · refine wq_iconst dX8_hasRoomFor_12 ?_
    refine wq_goto 17 dX8_hasRoomFor_13 (by decide) ?_
    exact wq_zret rfl (by decide) rfl dX8_hasRoomFor_17

theorem ln_RX8_9 : Cond.fieldLink RX8 9 RX8 "bytes" "[I" ∈ lw_good := li_1 177 (by decide +kernel) (by decide +kernel)
noncomputable def f_Src_take_w3 (v1 : Int) (s : Int) (I : Mem) : Option (((Int) ⊕ (Unit)) × Mem) :=
if (w32 s) < 0 then
some (.inr (), I)
else
if (w32 (ian (ius v1 s) 255)) = 0 then
some (.inl (s + (-8)), I)
else
if (w32 (I 6 0 1)) < 600 then
if 0 ≤ (w32 (I 6 0 1)) ∧ (w32 (I 6 0 1)) < 600 then
ltI (sI I 19 0 (w32 (I 6 0 1)).toNat (ian (ius v1 s) 255)) fun J2 =>
ltI (sI J2 6 0 1 ((J2 6 0 1) + 1)) fun J3 =>
some (.inl (s + (-8)), J3)
else none
else
some (.inl (s + (-8)), I)

noncomputable def f_Src_take (a1 : Int) (I : Mem) : Option ((Unit) × Mem) :=
bnd (whl (f_Src_take_w3 a1) 24 I) fun r20 J21 =>
some ((), J21)
set_option maxRecDepth 20000 in
theorem R_Src_take (Z : ZT) (a1 : Int) (I : Mem) (r : Unit) (J : Mem) (hf : f_Src_take a1 I = some (r, J)) : Runs Z yX8_take cX8_take 4 (none) 1 [vr Z 6 0, vi a1] I (none, J) := by
  refine Runs.of (rv := fun _ => none) (by decide +kernel) (Nat.le_of_ble_eq_true rfl) hf (fun gr => ?_)
  unfold f_Src_take
  refine WQ.loc [0, 1] (lv' := [(0, vr Z 6 0), (1, vi a1)]) rfl ?_
  refine wq_bipush dX8_take_0 (by decide) ?_
  refine wq_istore_n (lv' := [(2, vi 24), (0, vr Z 6 0), (1, vi a1)]) dX8_take_2 rfl (by decide) rfl ?_
  refine WQ.loc [1, 2, 0] (lv' := [(0, vr Z 6 0), (1, vi a1), (2, vi 24)]) rfl ?_
  refine wq_loopS (fun s13 => [(0, vr Z 6 0), (1, vi a1), (2, vi s13)]) 55 (fun _ => []) (fun κ7 bk8 ex9 gr12 s13 J11 => ?_) (fun gr22 r20 J21 => ?_) gr _ rfl
  · unfold f_Src_take_w3
    refine wq_iload_n dX8_take_3 2 rfl rfl ?_
    refine wq_if_lt 55 dX8_take_4 (by decide) rfl (fun c19 => ?_) (fun c19 => ?_)
    · exact WQ.loc [] rfl (ex9 _ _ _)
    · refine wq_iload_n dX8_take_7 1 rfl rfl ?_
      refine wq_iload_n dX8_take_8 2 rfl rfl ?_
      refine wq_iushr dX8_take_9 ?_
      refine wq_sipush dX8_take_10 (by decide) ?_
      refine wq_iand dX8_take_13 ?_
      refine wq_istore_n (lv' := [(3, vi (ian (ius a1 s13) 255)), (0, vr Z 6 0), (1, vi a1), (2, vi s13)]) dX8_take_14 rfl (by decide) rfl ?_
      refine wq_iload_n dX8_take_15 0 rfl rfl ?_
      refine wq_if_eq 49 dX8_take_16 (by decide) rfl (fun c18 => ?_) (fun c18 => ?_)
      · refine wq_iinc (lv' := [(2, vi (s13 + (-8))), (3, vi (ian (ius a1 s13) 255)), (0, vr Z 6 0), (1, vi a1)]) dX8_take_49 3 rfl (by decide) rfl ?_
        refine wq_goto 3 dX8_take_52 (by decide) ?_
        exact WQ.loc [2, 3, 0] rfl (bk8 _ _ _)
      · refine wq_aload_n dX8_take_19 1 rfl rfl ?_
        refine g_6_1 ln_RX8_15 dX8_take_20 ?_
        refine wq_sipush dX8_take_23 (by decide) ?_
        refine wq_icmp_ge 49 dX8_take_26 (by decide) rfl rfl (fun c17 => ?_) (fun c17 => ?_)
        · refine wq_aload_n dX8_take_29 1 rfl rfl ?_
          refine g_6_0 ln_RX8_9 dX8_take_30 ?_
          refine wq_aload_n dX8_take_33 1 rfl rfl ?_
          refine g_6_1 ln_RX8_15 dX8_take_34 ?_
          refine wq_iload_n dX8_take_37 0 rfl rfl ?_
          refine wq_grd (fun g14 => ?_)
          refine wq_iast (k := 19) (i := 0) (fun _ _ => rfl) (by decide) rfl rfl (m := 600) g14 (Nat.le_refl _) (by decide) (by decide) (by decide) dX8_take_38 (fun J15 => ?_)
          refine wq_aload_n dX8_take_39 1 rfl rfl ?_
          refine wq_dup dX8_take_40 rfl ?_
          refine g_6_1 ln_RX8_15 dX8_take_41 ?_
          refine wq_iconst dX8_take_44 ?_
          refine wq_iadd dX8_take_45 ?_
          refine p_6_1 ln_RX8_15 dX8_take_46 (fun J16 => ?_)
          refine wq_iinc (lv' := [(2, vi (s13 + (-8))), (3, vi (ian (ius a1 s13) 255)), (0, vr Z 6 0), (1, vi a1)]) dX8_take_49 3 rfl (by decide) rfl ?_
          refine wq_goto 3 dX8_take_52 (by decide) ?_
          exact WQ.loc [2, 3, 0] rfl (bk8 _ _ _)
        · refine wq_iinc (lv' := [(2, vi (s13 + (-8))), (3, vi (ian (ius a1 s13) 255)), (0, vr Z 6 0), (1, vi a1)]) dX8_take_49 3 rfl (by decide) rfl ?_
          refine wq_goto 3 dX8_take_52 (by decide) ?_
          exact WQ.loc [2, 3, 0] rfl (bk8 _ _ _)
  · exact wq_vret rfl rfl dX8_take_55

noncomputable def f_Src_byteAt (a1 : Int) (I : Mem) : Option ((Int) × Mem) :=
if (w32 a1) < 0 then
some (0, I)
else
if (w32 a1) < 600 then
if 0 ≤ (w32 a1) ∧ (w32 a1) < 600 then
some ((I 19 0 (w32 a1).toNat), I)
else none
else
some (0, I)
set_option maxRecDepth 20000 in
theorem R_Src_byteAt (Z : ZT) (a1 : Int) (I : Mem) (r : Int) (J : Mem) (hf : f_Src_byteAt a1 I = some (r, J)) : Runs Z yX8_byteAt cX8_byteAt 2 (some .int) 1 [vr Z 6 0, vi a1] I (some (vi r), J) := by
  refine Runs.of (rv := fun x => some (vi x)) (by decide +kernel) (Nat.le_of_ble_eq_true rfl) hf (fun gr => ?_)
  unfold f_Src_byteAt
  refine WQ.loc [0, 1] (lv' := [(0, vr Z 6 0), (1, vi a1)]) rfl ?_
  refine wq_iload_n dX8_byteAt_0 1 rfl rfl ?_
  refine wq_if_lt 20 dX8_byteAt_1 (by decide) rfl (fun c3 => ?_) (fun c3 => ?_)
  · refine wq_iconst dX8_byteAt_20 ?_
    exact wq_iret rfl rfl dX8_byteAt_21
  · refine wq_iload_n dX8_byteAt_4 1 rfl rfl ?_
    refine wq_sipush dX8_byteAt_5 (by decide) ?_
    refine wq_icmp_ge 20 dX8_byteAt_8 (by decide) rfl rfl (fun c2 => ?_) (fun c2 => ?_)
    · refine wq_aload_n dX8_byteAt_11 0 rfl rfl ?_
      refine g_6_0 ln_RX8_9 dX8_byteAt_12 ?_
      refine wq_iload_n dX8_byteAt_15 1 rfl rfl ?_
      refine wq_grd (fun g1 => ?_)
      refine wq_iald (k := 19) (i := 0) rfl (by decide) rfl rfl (m := 600) g1 (Nat.le_refl _) dX8_byteAt_16 ?_
      refine wq_goto 21 dX8_byteAt_17 (by decide) ?_
      exact wq_iret rfl rfl dX8_byteAt_21
    · refine wq_iconst dX8_byteAt_20 ?_
      exact wq_iret rfl rfl dX8_byteAt_21

noncomputable def f_Src_kindOf_j28 (v1 : Int)   (I : Mem) : Option ((Int) × Mem) :=
if (w32 v1) = 40 then
some (4, I)
else if (w32 v1) = 41 then
some (5, I)
else if (w32 v1) = 59 then
some (3, I)
else some (6, I)

noncomputable def f_Src_kindOf_j14 (v1 : Int)   (I : Mem) : Option ((Int) × Mem) :=
if (w32 v1) < 48 then
f_Src_kindOf_j28 v1 I
else
if 57 < (w32 v1) then
f_Src_kindOf_j28 v1 I
else
some (2, I)

noncomputable def f_Src_kindOf (a1 : Int) (I : Mem) : Option ((Int) × Mem) :=
if (w32 a1) < 97 then
f_Src_kindOf_j14 a1 I
else
if 122 < (w32 a1) then
f_Src_kindOf_j14 a1 I
else
some (1, I)
set_option maxRecDepth 20000 in
theorem R_Src_kindOf (Z : ZT) (a1 : Int) (I : Mem) (r : Int) (J : Mem) (hf : f_Src_kindOf a1 I = some (r, J)) : Runs Z yX8_kindOf cX8_kindOf 2 (some .int) 1 [vr Z 6 0, vi a1] I (some (vi r), J) := by
  refine Runs.of (rv := fun x => some (vi x)) (by decide +kernel) (Nat.le_of_ble_eq_true rfl) hf (fun gr => ?_)
  unfold f_Src_kindOf
  refine WQ.loc [0, 1] (lv' := [(0, vr Z 6 0), (1, vi a1)]) rfl ?_
  refine wq_iload_n dX8_kindOf_0 1 rfl rfl ?_
  refine wq_bipush dX8_kindOf_1 (by decide) ?_
  have hj1 : ∀ (gr16 : Nat → Nat)   (J15 : Mem), WQ Z (yX8_kindOf, cX8_kindOf, 2, some .int, 1) I gr16 14 [(1, vi a1)] [] J15 (f_Src_kindOf_j14 a1 J15) (fun b K => some (.inl ((fun x => some (vi x)) b), K)) := by
    intro gr16 J15
    unfold f_Src_kindOf_j14
    refine wq_iload_n dX8_kindOf_14 0 rfl rfl ?_
    refine wq_bipush dX8_kindOf_15 (by decide) ?_
    have hj17 : ∀ (gr21 : Nat → Nat)   (J20 : Mem), WQ Z (yX8_kindOf, cX8_kindOf, 2, some .int, 1) I gr21 28 [(1, vi a1)] [] J20 (f_Src_kindOf_j28 a1 J20) (fun b K => some (.inl ((fun x => some (vi x)) b), K)) := by
      intro gr21 J20
      unfold f_Src_kindOf_j28
      refine wq_iload_n dX8_kindOf_28 0 rfl rfl ?_
      refine WQ.split (fun c22 => ?_) (fun c22 => ?_)
      · refine wq_look (off := 37) 66 dX8_kindOf_29 rfl (by decide) (by generalize (w32 a1) = z at c22 ⊢; simp [Op.lookupswitch.offset, c22]) (by decide) ?_
        refine wq_iconst dX8_kindOf_66 ?_
        exact wq_iret rfl rfl dX8_kindOf_67
      · skip
        refine WQ.split (fun c23 => ?_) (fun c23 => ?_)
        · refine wq_look (off := 39) 68 dX8_kindOf_29 rfl (by decide) (by generalize (w32 a1) = z at c23 ⊢; simp [Op.lookupswitch.offset, c23]) (by decide) ?_
          refine wq_iconst dX8_kindOf_68 ?_
          exact wq_iret rfl rfl dX8_kindOf_69
        · skip
          refine WQ.split (fun c24 => ?_) (fun c24 => ?_)
          · refine wq_look (off := 35) 64 dX8_kindOf_29 rfl (by decide) (by generalize (w32 a1) = z at c24 ⊢; simp [Op.lookupswitch.offset, c24]) (by decide) ?_
            refine wq_iconst dX8_kindOf_64 ?_
            exact wq_iret rfl rfl dX8_kindOf_65
          · skip
            refine wq_look (off := 41) 70 dX8_kindOf_29 rfl (by decide) (by generalize (w32 a1) = z at c22 c23 c24 ⊢; simp [Op.lookupswitch.offset, Ne.symm c22, Ne.symm c23, Ne.symm c24]) (by decide) ?_
            refine wq_bipush dX8_kindOf_70 (by decide) ?_
            exact wq_iret rfl rfl dX8_kindOf_72
    refine wq_icmp_lt 28 dX8_kindOf_17 (by decide) rfl rfl (fun c19 => ?_) (fun c19 => ?_)
    · exact WQ.loc [0] rfl (hj17 _   _)
    · refine wq_iload_n dX8_kindOf_20 0 rfl rfl ?_
      refine wq_bipush dX8_kindOf_21 (by decide) ?_
      refine wq_icmp_gt 28 dX8_kindOf_23 (by decide) rfl rfl (fun c18 => ?_) (fun c18 => ?_)
      · exact WQ.loc [0] rfl (hj17 _   _)
      · refine wq_iconst dX8_kindOf_26 ?_
        exact wq_iret rfl rfl dX8_kindOf_27
  refine wq_icmp_lt 14 dX8_kindOf_3 (by decide) rfl rfl (fun c3 => ?_) (fun c3 => ?_)
  · exact WQ.loc [1] rfl (hj1 _   _)
  · refine wq_iload_n dX8_kindOf_6 1 rfl rfl ?_
    refine wq_bipush dX8_kindOf_7 (by decide) ?_
    refine wq_icmp_gt 14 dX8_kindOf_9 (by decide) rfl rfl (fun c2 => ?_) (fun c2 => ?_)
    · exact WQ.loc [1] rfl (hj1 _   _)
    · refine wq_iconst dX8_kindOf_12 ?_
      exact wq_iret rfl rfl dX8_kindOf_13

theorem ln_RX8_38 : Cond.fieldLink RX8 38 RX8 "kind" "I" ∈ lw_good := li_1 179 (by decide +kernel) (by decide +kernel)
noncomputable def f_Src_is (a1 : Int) (I : Mem) : Option ((Int) × Mem) :=
if (w32 (I 6 0 2)) = (w32 a1) then
some (1, I)
else
some (0, I)
set_option maxRecDepth 20000 in
theorem R_Src_is (Z : ZT) (a1 : Int) (I : Mem) (r : Int) (J : Mem) (hf : f_Src_is a1 I = some (r, J)) : Runs Z yX8_is cX8_is 2 (some .boolean) 1 [vr Z 6 0, vi a1] I (some (vi r), J) := by
  refine Runs.of (rv := fun x => some (vi x)) (by decide +kernel) (Nat.le_of_ble_eq_true rfl) hf (fun gr => ?_)
  unfold f_Src_is
  refine WQ.loc [0, 1] (lv' := [(0, vr Z 6 0), (1, vi a1)]) rfl ?_
  refine wq_aload_n dX8_is_0 0 rfl rfl ?_
  refine g_6_2 ln_RX8_38 dX8_is_1 ?_
  refine wq_iload_n dX8_is_4 1 rfl rfl ?_
  refine wq_icmp_ne 12 dX8_is_5 (by decide) rfl rfl (fun c1 => ?_) (fun c1 => ?_)
  · refine wq_iconst dX8_is_8 ?_
    refine wq_goto 13 dX8_is_9 (by decide) ?_
    exact wq_zret rfl (by decide) rfl dX8_is_13
  · refine wq_iconst dX8_is_12 ?_
    exact wq_zret rfl (by decide) rfl dX8_is_13

theorem ln_RX8_31 : Cond.fieldLink RX8 31 RX8 "from" "I" ∈ lw_good := li_1 180 (by decide +kernel) (by decide +kernel)
noncomputable def f_Src_from  (I : Mem) : Option ((Int) × Mem) :=
some ((I 6 0 3), I)
set_option maxRecDepth 20000 in
theorem R_Src_from (Z : ZT)  (I : Mem) (r : Int) (J : Mem) (hf : f_Src_from I = some (r, J)) : Runs Z yX8_from cX8_from 1 (some .int) 1 [vr Z 6 0] I (some (vi r), J) := by
  refine Runs.of (rv := fun x => some (vi x)) (by decide +kernel) (Nat.le_of_ble_eq_true rfl) hf (fun gr => ?_)
  unfold f_Src_from
  refine WQ.loc [0] (lv' := [(0, vr Z 6 0)]) rfl ?_
  refine wq_aload_n dX8_from_0 0 rfl rfl ?_
  refine g_6_3 ln_RX8_31 dX8_from_1 ?_
  exact wq_iret rfl rfl dX8_from_4

theorem ln_RX8_19 : Cond.fieldLink RX8 19 RX8 "to" "I" ∈ lw_good := li_1 181 (by decide +kernel) (by decide +kernel)
noncomputable def f_Src_manyInToken  (I : Mem) : Option ((Int) × Mem) :=
some (((I 6 0 4) - (I 6 0 3)), I)
set_option maxRecDepth 20000 in
theorem R_Src_manyInToken (Z : ZT)  (I : Mem) (r : Int) (J : Mem) (hf : f_Src_manyInToken I = some (r, J)) : Runs Z yX8_manyInToken cX8_manyInToken 1 (some .int) 1 [vr Z 6 0] I (some (vi r), J) := by
  refine Runs.of (rv := fun x => some (vi x)) (by decide +kernel) (Nat.le_of_ble_eq_true rfl) hf (fun gr => ?_)
  unfold f_Src_manyInToken
  refine WQ.loc [0] (lv' := [(0, vr Z 6 0)]) rfl ?_
  refine wq_aload_n dX8_manyInToken_0 0 rfl rfl ?_
  refine g_6_4 ln_RX8_19 dX8_manyInToken_1 ?_
  refine wq_aload_n dX8_manyInToken_4 0 rfl rfl ?_
  refine g_6_3 ln_RX8_31 dX8_manyInToken_5 ?_
  refine wq_isub dX8_manyInToken_8 ?_
  exact wq_iret rfl rfl dX8_manyInToken_9

theorem ln_RX8_59 : Cond.methodLink RX8 59 yJ0_length_8abf5 ∈ lw_good := li_2 186 (by decide +kernel) (by decide +kernel)
theorem M_Src_byteAt : MwV yX8_byteAt cX8_byteAt 2 (some .int) 1 := ⟨li_2 199 (by decide +kernel) (by decide +kernel), li_2 197 (by decide +kernel) (by decide +kernel), li_2 198 (by decide +kernel) (by decide +kernel), li_1 7 (by decide +kernel) (by decide +kernel), by decide +kernel⟩
theorem ln_RX8_68 : Cond.methodLink RX8 68 yJ0_charAt_5068e ∈ lw_good := li_2 200 (by decide +kernel) (by decide +kernel)
theorem ln_RX8_65 : Cond.methodLink RX8 65 yX8_byteAt ∈ lw_good := li_2 196 (by decide +kernel) (by decide +kernel)
noncomputable def f_Src_spells_w20 (v1 : Nat) (s : Int) (I : Mem) : Option (((Int) ⊕ (Int)) × Mem) :=
if (w32 s) < (w32 (wLen v1)) then
bnd (f_Src_byteAt ((I 6 0 3) + s) I) fun x5 J4 =>
if 0 ≤ (w32 s) ∧ (w32 s) < wLen v1 then
if (w32 x5) = (w32 (wAt v1 (w32 s).toNat)) then
some (.inl (s + 1), J4)
else
some (.inr (0), J4)
else none
else
some (.inr (1), I)

noncomputable def f_Src_spells (a1 : Nat) (I : Mem) : Option ((Int) × Mem) :=
if a1 < 15 then
if (w32 (wLen a1)) = (w32 ((I 6 0 4) - (I 6 0 3))) then
whl (f_Src_spells_w20 a1) 0 I
else
some (0, I)
else none
set_option maxRecDepth 20000 in
theorem R_Src_spells (Z : ZT) (a1 : Nat) (I : Mem) (r : Int) (J : Mem) (hf : f_Src_spells a1 I = some (r, J)) : Runs Z yX8_spells cX8_spells 3 (some .boolean) 5 [vr Z 6 0, vr Z 34 a1] I (some (vi r), J) := by
  refine Runs.of (rv := fun x => some (vi x)) (by decide +kernel) (Nat.le_of_ble_eq_true rfl) hf (fun gr => ?_)
  unfold f_Src_spells
  refine WQ.loc [0, 1] (lv' := [(0, vr Z 6 0), (1, vr Z 34 a1)]) rfl ?_
  refine wq_grd (fun h1 => ?_)
  refine wq_aload_n dX8_spells_0 1 rfl rfl ?_
  refine wq_strlen h1 (by decide) (Nat.le_of_ble_eq_true rfl) ln_RX8_59 dX8_spells_1 (fun gr1 => ?_)
  refine wq_aload_n dX8_spells_4 0 rfl rfl ?_
  refine g_6_4 ln_RX8_19 dX8_spells_5 ?_
  refine wq_aload_n dX8_spells_8 0 rfl rfl ?_
  refine g_6_3 ln_RX8_31 dX8_spells_9 ?_
  refine wq_isub dX8_spells_12 ?_
  refine wq_icmp_eq 18 dX8_spells_13 (by decide) rfl rfl (fun c25 => ?_) (fun c25 => ?_)
  · refine wq_iconst dX8_spells_18 ?_
    refine wq_istore_n (lv' := [(2, vi 0), (0, vr Z 6 0), (1, vr Z 34 a1)]) dX8_spells_19 rfl (by decide) rfl ?_
    refine WQ.loc [1, 2, 0] (lv' := [(0, vr Z 6 0), (1, vr Z 34 a1), (2, vi 0)]) rfl ?_
    refine wq_loop (fun s16 => [(0, vr Z 6 0), (1, vr Z 34 a1), (2, vi s16)]) (fun κ10 bk11 hr13 gr15 s16 J14 => ?_) gr1 _ rfl
    unfold f_Src_spells_w20
    refine wq_iload_n dX8_spells_20 2 rfl rfl ?_
    refine wq_aload_n dX8_spells_21 1 rfl rfl ?_
    refine wq_strlen h1 (by decide) (Nat.le_of_ble_eq_true rfl) ln_RX8_59 dX8_spells_22 (fun gr17 => ?_)
    refine wq_icmp_ge 54 dX8_spells_25 (by decide) rfl rfl (fun c24 => ?_) (fun c24 => ?_)
    · refine wq_aload_n dX8_spells_28 0 rfl rfl ?_
      refine wq_aload_n dX8_spells_29 0 rfl rfl ?_
      refine g_6_3 ln_RX8_31 dX8_spells_30 ?_
      refine wq_iload_n dX8_spells_33 2 rfl rfl ?_
      refine wq_iadd dX8_spells_34 ?_
      refine wq_cVi M_Src_byteAt (R_Src_byteAt Z ((J14 6 0 3) + s16) _) ob_6 rfl rfl (by decide) (by decide) (Nat.le_of_ble_eq_true rfl) ln_RX8_65 dX8_spells_35 (fun gr18 x20 J19 => ?_)
      refine wq_aload_n dX8_spells_38 1 rfl rfl ?_
      refine wq_iload_n dX8_spells_39 2 rfl rfl ?_
      refine wq_grd (fun g22 => ?_)
      refine wq_charAt h1 rfl g22 (by decide) (Nat.le_of_ble_eq_true rfl) ln_RX8_68 dX8_spells_40 (fun gr21 => ?_)
      refine wq_icmp_eq 48 dX8_spells_43 (by decide) rfl rfl (fun c23 => ?_) (fun c23 => ?_)
      · refine wq_iinc (lv' := [(2, vi (s16 + 1)), (0, vr Z 6 0), (1, vr Z 34 a1)]) dX8_spells_48 2 rfl (by decide) rfl ?_
        refine wq_goto 20 dX8_spells_51 (by decide) ?_
        exact WQ.loc [1, 2, 0] rfl (bk11 _ _ _)
      · refine wq_iconst dX8_spells_46 ?_
        exact wq_zret rfl (by decide) ((hr13 _ _).trans rfl) dX8_spells_47
    · refine wq_iconst dX8_spells_54 ?_
      exact wq_zret rfl (by decide) ((hr13 _ _).trans rfl) dX8_spells_55
  · refine wq_iconst dX8_spells_16 ?_
    exact wq_zret rfl (by decide) rfl dX8_spells_17

theorem ln_RX8_76 : Cond.fieldLink RX8 76 RX8 "value" "I" ∈ lw_good := li_1 182 (by decide +kernel) (by decide +kernel)
noncomputable def f_Src_value  (I : Mem) : Option ((Int) × Mem) :=
some ((I 6 0 5), I)
set_option maxRecDepth 20000 in
theorem R_Src_value (Z : ZT)  (I : Mem) (r : Int) (J : Mem) (hf : f_Src_value I = some (r, J)) : Runs Z yX8_value cX8_value 1 (some .int) 1 [vr Z 6 0] I (some (vi r), J) := by
  refine Runs.of (rv := fun x => some (vi x)) (by decide +kernel) (Nat.le_of_ble_eq_true rfl) hf (fun gr => ?_)
  unfold f_Src_value
  refine WQ.loc [0] (lv' := [(0, vr Z 6 0)]) rfl ?_
  refine wq_aload_n dX8_value_0 0 rfl rfl ?_
  refine g_6_5 ln_RX8_76 dX8_value_1 ?_
  exact wq_iret rfl rfl dX8_value_4

theorem ln_RX8_22 : Cond.fieldLink RX8 22 RX8 "errorCode" "I" ∈ lw_good := li_1 183 (by decide +kernel) (by decide +kernel)
theorem ln_RX8_25 : Cond.fieldLink RX8 25 RX8 "errorAt" "I" ∈ lw_good := li_1 184 (by decide +kernel) (by decide +kernel)
noncomputable def f_Src_failAt (a1 : Int) (a2 : Int) (I : Mem) : Option ((Int) × Mem) :=
ltI (sI I 6 0 6 a1) fun J1 =>
ltI (sI J1 6 0 7 a2) fun J2 =>
some (0, J2)
set_option maxRecDepth 20000 in
theorem R_Src_failAt (Z : ZT) (a1 : Int) (a2 : Int) (I : Mem) (r : Int) (J : Mem) (hf : f_Src_failAt a1 a2 I = some (r, J)) : Runs Z yX8_failAt cX8_failAt 3 (some .boolean) 1 [vr Z 6 0, vi a1, vi a2] I (some (vi r), J) := by
  refine Runs.of (rv := fun x => some (vi x)) (by decide +kernel) (Nat.le_of_ble_eq_true rfl) hf (fun gr => ?_)
  unfold f_Src_failAt
  refine WQ.loc [0, 1, 2] (lv' := [(0, vr Z 6 0), (1, vi a1), (2, vi a2)]) rfl ?_
  refine wq_aload_n dX8_failAt_0 0 rfl rfl ?_
  refine wq_iload_n dX8_failAt_1 1 rfl rfl ?_
  refine p_6_6 ln_RX8_22 dX8_failAt_2 (fun J1 => ?_)
  refine wq_aload_n dX8_failAt_5 0 rfl rfl ?_
  refine wq_iload_n dX8_failAt_6 2 rfl rfl ?_
  refine p_6_7 ln_RX8_25 dX8_failAt_7 (fun J2 => ?_)
  refine wq_iconst dX8_failAt_10 ?_
  exact wq_zret rfl (by decide) rfl dX8_failAt_11

noncomputable def f_Src_errorCode  (I : Mem) : Option ((Int) × Mem) :=
some ((I 6 0 6), I)
set_option maxRecDepth 20000 in
theorem R_Src_errorCode (Z : ZT)  (I : Mem) (r : Int) (J : Mem) (hf : f_Src_errorCode I = some (r, J)) : Runs Z yX8_errorCode cX8_errorCode 1 (some .int) 1 [vr Z 6 0] I (some (vi r), J) := by
  refine Runs.of (rv := fun x => some (vi x)) (by decide +kernel) (Nat.le_of_ble_eq_true rfl) hf (fun gr => ?_)
  unfold f_Src_errorCode
  refine WQ.loc [0] (lv' := [(0, vr Z 6 0)]) rfl ?_
  refine wq_aload_n dX8_errorCode_0 0 rfl rfl ?_
  refine g_6_6 ln_RX8_22 dX8_errorCode_1 ?_
  exact wq_iret rfl rfl dX8_errorCode_4

noncomputable def f_Src_errorAt  (I : Mem) : Option ((Int) × Mem) :=
some ((I 6 0 7), I)
set_option maxRecDepth 20000 in
theorem R_Src_errorAt (Z : ZT)  (I : Mem) (r : Int) (J : Mem) (hf : f_Src_errorAt I = some (r, J)) : Runs Z yX8_errorAt cX8_errorAt 1 (some .int) 1 [vr Z 6 0] I (some (vi r), J) := by
  refine Runs.of (rv := fun x => some (vi x)) (by decide +kernel) (Nat.le_of_ble_eq_true rfl) hf (fun gr => ?_)
  unfold f_Src_errorAt
  refine WQ.loc [0] (lv' := [(0, vr Z 6 0)]) rfl ?_
  refine wq_aload_n dX8_errorAt_0 0 rfl rfl ?_
  refine g_6_7 ln_RX8_25 dX8_errorAt_1 ?_
  exact wq_iret rfl rfl dX8_errorAt_4

theorem ln_RX7_163 : Cond.fieldLink RX7 163 RX0 "$SwitchMap$PairRules$Word" "[I" ∈ lw_good := li_3 94 (by decide +kernel) (by decide +kernel)
theorem ln_RX7_169 : Cond.methodLink RX7 169 yWordOrd ∈ lw_good := li_3 96 (by decide +kernel) (by decide +kernel)
theorem ln_RX7_28 : Cond.fieldLink RX7 28 RX7 "leastTold" "Z" ∈ lw_good := li_1 212 (by decide +kernel) (by decide +kernel)
theorem ln_RX7_32 : Cond.fieldLink RX7 32 RX7 "tieTold" "Z" ∈ lw_good := li_1 213 (by decide +kernel) (by decide +kernel)
theorem ln_RX7_35 : Cond.fieldLink RX7 35 RX7 "inlineTold" "Z" ∈ lw_good := li_1 214 (by decide +kernel) (by decide +kernel)
noncomputable def f_Set_isTold (a1 : Nat) (I : Mem) : Option ((Int) × Mem) :=
if a1 < 15 then
if 0 ≤ (w32 ((a1 : Nat) : Int)) ∧ (w32 ((a1 : Nat) : Int)) < 15 then
if (w32 (wSm.getD (w32 ((a1 : Nat) : Int)).toNat 0)) = 7 then
if (I 7 0 4) = 0 ∨ (I 7 0 4) = 1 then
some ((I 7 0 4), I)
else none
else if (w32 (wSm.getD (w32 ((a1 : Nat) : Int)).toNat 0)) = 8 then
if (I 7 0 5) = 0 ∨ (I 7 0 5) = 1 then
some ((I 7 0 5), I)
else none
else if (I 7 0 6) = 0 ∨ (I 7 0 6) = 1 then
some ((I 7 0 6), I)
else none
else none
else none
set_option maxRecDepth 20000 in
theorem R_Set_isTold (Z : ZT) (a1 : Nat) (I : Mem) (r : Int) (J : Mem) (hf : f_Set_isTold a1 I = some (r, J)) : Runs Z yX7_isTold cX7_isTold 2 (some .boolean) 2 [vr Z 7 0, vr Z 11 a1] I (some (vi r), J) := by
  refine Runs.of (rv := fun x => some (vi x)) (by decide +kernel) (Nat.le_of_ble_eq_true rfl) hf (fun gr => ?_)
  unfold f_Set_isTold
  refine WQ.loc [0, 1] (lv' := [(0, vr Z 7 0), (1, vr Z 11 a1)]) rfl ?_
  refine wq_grd (fun h1 => ?_)
  refine wq_gets sta_smap ln_RX7_163 dX7_isTold_0 ?_
  refine wq_aload_n dX7_isTold_3 1 rfl rfl ?_
  refine wq_ordinal h1 (by decide) (Nat.le_of_ble_eq_true rfl) ln_RX7_169 dX7_isTold_4 (fun gr1 => ?_)
  refine wq_grd (fun g2 => ?_)
  refine wq_smap rfl g2 dX7_isTold_7 ?_
  refine WQ.split (fun c4 => ?_) (fun c4 => ?_)
  · refine wq_look (off := 28) 36 dX7_isTold_8 rfl (by decide) (by generalize (w32 (wSm.getD (w32 ((a1 : Nat) : Int)).toNat 0)) = z at c4 ⊢; simp [Op.lookupswitch.offset, c4]) (by decide) ?_
    refine wq_aload_n dX7_isTold_36 0 rfl rfl ?_
    refine g_7_4 ln_RX7_28 dX7_isTold_37 ?_
    refine wq_grd (fun g3 => ?_)
    exact wq_zret rfl g3 rfl dX7_isTold_40
  · skip
    refine WQ.split (fun c6 => ?_) (fun c6 => ?_)
    · refine wq_look (off := 33) 41 dX7_isTold_8 rfl (by decide) (by generalize (w32 (wSm.getD (w32 ((a1 : Nat) : Int)).toNat 0)) = z at c6 ⊢; simp [Op.lookupswitch.offset, c6]) (by decide) ?_
      refine wq_aload_n dX7_isTold_41 0 rfl rfl ?_
      refine g_7_5 ln_RX7_32 dX7_isTold_42 ?_
      refine wq_grd (fun g5 => ?_)
      exact wq_zret rfl g5 rfl dX7_isTold_45
    · skip
      refine wq_look (off := 38) 46 dX7_isTold_8 rfl (by decide) (by generalize (w32 (wSm.getD (w32 ((a1 : Nat) : Int)).toNat 0)) = z at c4 c6 ⊢; simp [Op.lookupswitch.offset, Ne.symm c4, Ne.symm c6]) (by decide) ?_
      refine wq_aload_n dX7_isTold_46 0 rfl rfl ?_
      refine g_7_6 ln_RX7_35 dX7_isTold_47 ?_
      refine wq_grd (fun g7 => ?_)
      exact wq_zret rfl g7 rfl dX7_isTold_50

theorem ln_RX7_15 : Cond.fieldLink RX7 15 RX7 "goal" "LPairRules$Grammar;" ∈ lw_good := li_1 209 (by decide +kernel) (by decide +kernel)
theorem M_G_putNumber : MwV yX1_putNumber cX1_putNumber 3 (none) 2 := ⟨li_3 109 (by decide +kernel) (by decide +kernel), li_3 107 (by decide +kernel) (by decide +kernel), li_3 108 (by decide +kernel) (by decide +kernel), li_1 2 (by decide +kernel) (by decide +kernel), by decide +kernel⟩
theorem ln_RX7_172 : Cond.methodLink RX7 172 yX1_putNumber ∈ lw_good := li_3 106 (by decide +kernel) (by decide +kernel)
noncomputable def f_Set_noteTold (a1 : Nat) (a2 : Int) (I : Mem) : Option ((Unit) × Mem) :=
if a1 < 15 then
if 0 ≤ (w32 ((a1 : Nat) : Int)) ∧ (w32 ((a1 : Nat) : Int)) < 15 then
if (w32 (wSm.getD (w32 ((a1 : Nat) : Int)).toNat 0)) = 7 then
ltI (sI I 7 0 4 1) fun J3 =>
bnd (f_G_putNumber 1 4 a2 J3) fun _ J5 =>
some ((), J5)
else if (w32 (wSm.getD (w32 ((a1 : Nat) : Int)).toNat 0)) = 8 then
ltI (sI I 7 0 5 1) fun J8 =>
bnd (f_G_putNumber 1 5 a2 J8) fun _ J10 =>
some ((), J10)
else ltI (sI I 7 0 6 1) fun J13 =>
bnd (f_G_putNumber 1 6 a2 J13) fun _ J15 =>
some ((), J15)
else none
else none
set_option maxRecDepth 20000 in
theorem R_Set_noteTold (Z : ZT) (a1 : Nat) (a2 : Int) (I : Mem) (r : Unit) (J : Mem) (hf : f_Set_noteTold a1 a2 I = some (r, J)) : Runs Z yX7_noteTold cX7_noteTold 3 (none) 2 [vr Z 7 0, vr Z 11 a1, vi a2] I (none, J) := by
  refine Runs.of (rv := fun _ => none) (by decide +kernel) (Nat.le_of_ble_eq_true rfl) hf (fun gr => ?_)
  unfold f_Set_noteTold
  refine WQ.loc [0, 1, 2] (lv' := [(0, vr Z 7 0), (1, vr Z 11 a1), (2, vi a2)]) rfl ?_
  refine wq_grd (fun h1 => ?_)
  refine wq_gets sta_smap ln_RX7_163 dX7_noteTold_0 ?_
  refine wq_aload_n dX7_noteTold_3 1 rfl rfl ?_
  refine wq_ordinal h1 (by decide) (Nat.le_of_ble_eq_true rfl) ln_RX7_169 dX7_noteTold_4 (fun gr1 => ?_)
  refine wq_grd (fun g2 => ?_)
  refine wq_smap rfl g2 dX7_noteTold_7 ?_
  refine WQ.split (fun c7 => ?_) (fun c7 => ?_)
  · refine wq_look (off := 28) 36 dX7_noteTold_8 rfl (by decide) (by generalize (w32 (wSm.getD (w32 ((a1 : Nat) : Int)).toNat 0)) = z at c7 ⊢; simp [Op.lookupswitch.offset, c7]) (by decide) ?_
    refine wq_aload_n dX7_noteTold_36 0 rfl rfl ?_
    refine wq_iconst dX7_noteTold_37 ?_
    refine p_7_4 (by decide) ln_RX7_28 dX7_noteTold_38 (fun J3 => ?_)
    refine wq_aload_n dX7_noteTold_41 0 rfl rfl ?_
    refine g_7_1 ln_RX7_15 dX7_noteTold_42 ?_
    refine wq_iconst dX7_noteTold_45 ?_
    refine wq_iload_n dX7_noteTold_46 2 rfl rfl ?_
    refine wq_cVv M_G_putNumber (R_G_putNumber Z 1 4 a2 _) (ob_1 (by decide)) rfl rfl (by decide) (by decide) (Nat.le_of_ble_eq_true rfl) ln_RX7_172 dX7_noteTold_47 (fun gr4 _ J5 => ?_)
    refine wq_goto 85 dX7_noteTold_50 (by decide) ?_
    exact wq_vret rfl rfl dX7_noteTold_85
  · skip
    refine WQ.split (fun c12 => ?_) (fun c12 => ?_)
    · refine wq_look (off := 45) 53 dX7_noteTold_8 rfl (by decide) (by generalize (w32 (wSm.getD (w32 ((a1 : Nat) : Int)).toNat 0)) = z at c12 ⊢; simp [Op.lookupswitch.offset, c12]) (by decide) ?_
      refine wq_aload_n dX7_noteTold_53 0 rfl rfl ?_
      refine wq_iconst dX7_noteTold_54 ?_
      refine p_7_5 (by decide) ln_RX7_32 dX7_noteTold_55 (fun J8 => ?_)
      refine wq_aload_n dX7_noteTold_58 0 rfl rfl ?_
      refine g_7_1 ln_RX7_15 dX7_noteTold_59 ?_
      refine wq_iconst dX7_noteTold_62 ?_
      refine wq_iload_n dX7_noteTold_63 2 rfl rfl ?_
      refine wq_cVv M_G_putNumber (R_G_putNumber Z 1 5 a2 _) (ob_1 (by decide)) rfl rfl (by decide) (by decide) (Nat.le_of_ble_eq_true rfl) ln_RX7_172 dX7_noteTold_64 (fun gr9 _ J10 => ?_)
      refine wq_goto 85 dX7_noteTold_67 (by decide) ?_
      exact wq_vret rfl rfl dX7_noteTold_85
    · skip
      refine wq_look (off := 62) 70 dX7_noteTold_8 rfl (by decide) (by generalize (w32 (wSm.getD (w32 ((a1 : Nat) : Int)).toNat 0)) = z at c7 c12 ⊢; simp [Op.lookupswitch.offset, Ne.symm c7, Ne.symm c12]) (by decide) ?_
      refine wq_aload_n dX7_noteTold_70 0 rfl rfl ?_
      refine wq_iconst dX7_noteTold_71 ?_
      refine p_7_6 (by decide) ln_RX7_35 dX7_noteTold_72 (fun J13 => ?_)
      refine wq_aload_n dX7_noteTold_75 0 rfl rfl ?_
      refine g_7_1 ln_RX7_15 dX7_noteTold_76 ?_
      refine wq_bipush dX7_noteTold_79 (by decide) ?_
      refine wq_iload_n dX7_noteTold_81 2 rfl rfl ?_
      refine wq_cVv M_G_putNumber (R_G_putNumber Z 1 6 a2 _) (ob_1 (by decide)) rfl rfl (by decide) (by decide) (Nat.le_of_ble_eq_true rfl) ln_RX7_172 dX7_noteTold_82 (fun gr14 _ J15 => ?_)
      exact wq_vret rfl rfl dX7_noteTold_85

theorem ln_RX6_44 : Cond.fieldLink RX6 44 RX6 "many" "I" ∈ lw_good := li_2 8 (by decide +kernel) (by decide +kernel)
theorem ln_RX6_111 : Cond.methodLink RX6 111 Lib.Math.min.name ∈ lw_good := li_3 202 (by decide +kernel) (by decide +kernel)
theorem ln_RX6_13 : Cond.fieldLink RX6 13 RX6 "words" "[LPairRules$Word;" ∈ lw_good := li_2 1 (by decide +kernel) (by decide +kernel)
noncomputable def f_Scr_addEntry (a1 : Nat) (I : Mem) : Option ((Int) × Mem) :=
if a1 < 15 then
if 0 ≤ (w32 (imn (I 8 0 8) 59)) ∧ (w32 (imn (I 8 0 8) 59)) < 60 then
ltI (sI I 20 0 (w32 (imn (I 8 0 8) 59)).toNat ((a1 : Nat) : Int)) fun J2 =>
ltI (sI J2 8 0 8 ((imn (I 8 0 8) 59) + 1)) fun J3 =>
some ((imn (I 8 0 8) 59), J3)
else none
else none
set_option maxRecDepth 20000 in
theorem R_Scr_addEntry (Z : ZT) (a1 : Nat) (I : Mem) (r : Int) (J : Mem) (hf : f_Scr_addEntry a1 I = some (r, J)) : Runs Z yX6_addEntry cX6_addEntry 3 (some .int) 1 [vr Z 8 0, vr Z 11 a1] I (some (vi r), J) := by
  refine Runs.of (rv := fun x => some (vi x)) (by decide +kernel) (Nat.le_of_ble_eq_true rfl) hf (fun gr => ?_)
  unfold f_Scr_addEntry
  refine WQ.loc [0, 1] (lv' := [(0, vr Z 8 0), (1, vr Z 11 a1)]) rfl ?_
  refine wq_grd (fun h1 => ?_)
  refine wq_aload_n dX6_addEntry_0 0 rfl rfl ?_
  refine g_8_8 ln_RX6_44 dX6_addEntry_1 ?_
  refine wq_bipush dX6_addEntry_4 (by decide) ?_
  refine wq_min (by decide) (Nat.le_of_ble_eq_true rfl) ln_RX6_111 mt_min_s mt_i mt_min_c dX6_addEntry_6 ?_
  refine wq_istore_n (lv' := [(2, vi (imn (I 8 0 8) 59)), (0, vr Z 8 0), (1, vr Z 11 a1)]) dX6_addEntry_9 rfl (by decide) rfl ?_
  refine wq_aload_n dX6_addEntry_10 1 rfl rfl ?_
  refine g_8_1 ln_RX6_13 dX6_addEntry_11 ?_
  refine wq_iload_n dX6_addEntry_14 0 rfl rfl ?_
  refine wq_aload_n dX6_addEntry_15 2 rfl rfl ?_
  refine wq_grd (fun g1 => ?_)
  refine wq_wast h1 rfl g1 dX6_addEntry_16 (fun J2 => ?_)
  refine wq_aload_n dX6_addEntry_17 1 rfl rfl ?_
  refine wq_iload_n dX6_addEntry_18 0 rfl rfl ?_
  refine wq_iconst dX6_addEntry_19 ?_
  refine wq_iadd dX6_addEntry_20 ?_
  refine p_8_8 ln_RX6_44 dX6_addEntry_21 (fun J3 => ?_)
  refine wq_iload_n dX6_addEntry_24 0 rfl rfl ?_
  exact wq_iret rfl rfl dX6_addEntry_25

noncomputable def f_Scr_isEntry (a1 : Int) (I : Mem) : Option ((Int) × Mem) :=
if (w32 a1) < 0 then
some (0, I)
else
if (w32 a1) < (w32 (I 8 0 8)) then
some (1, I)
else
some (0, I)
set_option maxRecDepth 20000 in
theorem R_Scr_isEntry (Z : ZT) (a1 : Int) (I : Mem) (r : Int) (J : Mem) (hf : f_Scr_isEntry a1 I = some (r, J)) : Runs Z yX6_isEntry cX6_isEntry 2 (some .boolean) 1 [vr Z 8 0, vi a1] I (some (vi r), J) := by
  refine Runs.of (rv := fun x => some (vi x)) (by decide +kernel) (Nat.le_of_ble_eq_true rfl) hf (fun gr => ?_)
  unfold f_Scr_isEntry
  refine WQ.loc [0, 1] (lv' := [(0, vr Z 8 0), (1, vi a1)]) rfl ?_
  refine wq_iload_n dX6_isEntry_0 1 rfl rfl ?_
  refine wq_if_lt 16 dX6_isEntry_1 (by decide) rfl (fun c2 => ?_) (fun c2 => ?_)
  · refine wq_iconst dX6_isEntry_16 ?_
    exact wq_zret rfl (by decide) rfl dX6_isEntry_17
  · refine wq_iload_n dX6_isEntry_4 1 rfl rfl ?_
    refine wq_aload_n dX6_isEntry_5 0 rfl rfl ?_
    refine g_8_8 ln_RX6_44 dX6_isEntry_6 ?_
    refine wq_icmp_ge 16 dX6_isEntry_9 (by decide) rfl rfl (fun c1 => ?_) (fun c1 => ?_)
    · refine wq_iconst dX6_isEntry_12 ?_
      refine wq_goto 17 dX6_isEntry_13 (by decide) ?_
      exact wq_zret rfl (by decide) rfl dX6_isEntry_17
    · refine wq_iconst dX6_isEntry_16 ?_
      exact wq_zret rfl (by decide) rfl dX6_isEntry_17

theorem M_Scr_isEntry : MwV yX6_isEntry cX6_isEntry 2 (some .boolean) 1 := ⟨li_4 9 (by decide +kernel) (by decide +kernel), li_4 8 (by decide +kernel) (by decide +kernel), lw_in 21 (by decide +kernel) (by decide +kernel), li_1 9 (by decide +kernel) (by decide +kernel), by decide +kernel⟩
theorem ln_RX6_40 : Cond.fieldLink RX6 40 RX11 "OTHER" "LPairRules$Word;" ∈ lw_good := li_1 238 (by decide +kernel) (by decide +kernel)
theorem ln_RX6_138 : Cond.methodLink RX6 138 yX6_isEntry ∈ lw_good := li_4 6 (by decide +kernel) (by decide +kernel)
noncomputable def f_Scr_word (a1 : Int) (I : Mem) : Option ((Nat) × Mem) :=
bnd (f_Scr_isEntry a1 I) fun x3 J2 =>
if (w32 x3) = 0 then
some (14, J2)
else
if 0 ≤ (w32 a1) ∧ (w32 a1) < 60 then
if (J2 20 0 (w32 a1).toNat).toNat < 15 then
some ((J2 20 0 (w32 a1).toNat).toNat, J2)
else none
else none
set_option maxRecDepth 20000 in
theorem R_Scr_word (Z : ZT) (a1 : Int) (I : Mem) (r : Nat) (J : Mem) (hf : f_Scr_word a1 I = some (r, J)) : Runs Z yX6_word cX6_word 2 (some (.object RX11)) 2 [vr Z 8 0, vi a1] I (some (vr Z 11 r), J) := by
  refine Runs.of (rv := fun x => some (vr Z 11 x)) (by decide +kernel) (Nat.le_of_ble_eq_true rfl) hf (fun gr => ?_)
  unfold f_Scr_word
  refine WQ.loc [0, 1] (lv' := [(0, vr Z 8 0), (1, vi a1)]) rfl ?_
  refine wq_aload_n dX6_word_0 0 rfl rfl ?_
  refine wq_iload_n dX6_word_1 1 rfl rfl ?_
  refine wq_cVi M_Scr_isEntry (R_Scr_isEntry Z a1 _) ob_8 rfl rfl (by decide) (by decide) (Nat.le_of_ble_eq_true rfl) ln_RX6_138 dX6_word_2 (fun gr1 x3 J2 => ?_)
  refine wq_if_eq 17 dX6_word_5 (by decide) rfl (fun c7 => ?_) (fun c7 => ?_)
  · refine wq_gets (sta_word 14 (by decide)) ln_RX6_40 dX6_word_17 ?_
    exact wq_aret rfl (Or.inl ⟨_, rfl⟩) rfl dX6_word_20
  · refine wq_aload_n dX6_word_8 0 rfl rfl ?_
    refine g_8_1 ln_RX6_13 dX6_word_9 ?_
    refine wq_iload_n dX6_word_12 1 rfl rfl ?_
    refine wq_grd (fun g4 => ?_)
    refine wq_aald (k := 20) (i := 0) (t0 := 6) rfl rfl (by decide) rfl rfl (m := 60) g4 (Nat.le_refl _) dX6_word_13 ?_
    refine wq_grd (fun g5 => ?_)
    refine wq_goto 20 dX6_word_14 (by decide) ?_
    exact wq_aret rfl (Or.inl ⟨_, rfl⟩) rfl dX6_word_20

theorem ln_RX6_17 : Cond.fieldLink RX6 17 RX6 "numbers" "[I" ∈ lw_good := li_2 2 (by decide +kernel) (by decide +kernel)
noncomputable def f_Scr_number (a1 : Int) (I : Mem) : Option ((Int) × Mem) :=
bnd (f_Scr_isEntry a1 I) fun x3 J2 =>
if (w32 x3) = 0 then
some (0, J2)
else
if 0 ≤ (w32 a1) ∧ (w32 a1) < 60 then
some ((J2 21 0 (w32 a1).toNat), J2)
else none
set_option maxRecDepth 20000 in
theorem R_Scr_number (Z : ZT) (a1 : Int) (I : Mem) (r : Int) (J : Mem) (hf : f_Scr_number a1 I = some (r, J)) : Runs Z yX6_number cX6_number 2 (some .int) 2 [vr Z 8 0, vi a1] I (some (vi r), J) := by
  refine Runs.of (rv := fun x => some (vi x)) (by decide +kernel) (Nat.le_of_ble_eq_true rfl) hf (fun gr => ?_)
  unfold f_Scr_number
  refine WQ.loc [0, 1] (lv' := [(0, vr Z 8 0), (1, vi a1)]) rfl ?_
  refine wq_aload_n dX6_number_0 0 rfl rfl ?_
  refine wq_iload_n dX6_number_1 1 rfl rfl ?_
  refine wq_cVi M_Scr_isEntry (R_Scr_isEntry Z a1 _) ob_8 rfl rfl (by decide) (by decide) (Nat.le_of_ble_eq_true rfl) ln_RX6_138 dX6_number_2 (fun gr1 x3 J2 => ?_)
  refine wq_if_eq 17 dX6_number_5 (by decide) rfl (fun c5 => ?_) (fun c5 => ?_)
  · refine wq_iconst dX6_number_17 ?_
    exact wq_iret rfl rfl dX6_number_18
  · refine wq_aload_n dX6_number_8 0 rfl rfl ?_
    refine g_8_2 ln_RX6_17 dX6_number_9 ?_
    refine wq_iload_n dX6_number_12 1 rfl rfl ?_
    refine wq_grd (fun g4 => ?_)
    refine wq_iald (k := 21) (i := 0) rfl (by decide) rfl rfl (m := 60) g4 (by decide) dX6_number_13 ?_
    refine wq_goto 18 dX6_number_14 (by decide) ?_
    exact wq_iret rfl rfl dX6_number_18

theorem ln_RX6_24 : Cond.fieldLink RX6 24 RX6 "lettersMany" "[I" ∈ lw_good := li_2 4 (by decide +kernel) (by decide +kernel)
noncomputable def f_Scr_manyLetters (a1 : Int) (I : Mem) : Option ((Int) × Mem) :=
bnd (f_Scr_isEntry a1 I) fun x3 J2 =>
if (w32 x3) = 0 then
some (0, J2)
else
if 0 ≤ (w32 a1) ∧ (w32 a1) < 60 then
some ((J2 21 2 (w32 a1).toNat), J2)
else none
set_option maxRecDepth 20000 in
theorem R_Scr_manyLetters (Z : ZT) (a1 : Int) (I : Mem) (r : Int) (J : Mem) (hf : f_Scr_manyLetters a1 I = some (r, J)) : Runs Z yX6_manyLetters cX6_manyLetters 2 (some .int) 2 [vr Z 8 0, vi a1] I (some (vi r), J) := by
  refine Runs.of (rv := fun x => some (vi x)) (by decide +kernel) (Nat.le_of_ble_eq_true rfl) hf (fun gr => ?_)
  unfold f_Scr_manyLetters
  refine WQ.loc [0, 1] (lv' := [(0, vr Z 8 0), (1, vi a1)]) rfl ?_
  refine wq_aload_n dX6_manyLetters_0 0 rfl rfl ?_
  refine wq_iload_n dX6_manyLetters_1 1 rfl rfl ?_
  refine wq_cVi M_Scr_isEntry (R_Scr_isEntry Z a1 _) ob_8 rfl rfl (by decide) (by decide) (Nat.le_of_ble_eq_true rfl) ln_RX6_138 dX6_manyLetters_2 (fun gr1 x3 J2 => ?_)
  refine wq_if_eq 17 dX6_manyLetters_5 (by decide) rfl (fun c5 => ?_) (fun c5 => ?_)
  · refine wq_iconst dX6_manyLetters_17 ?_
    exact wq_iret rfl rfl dX6_manyLetters_18
  · refine wq_aload_n dX6_manyLetters_8 0 rfl rfl ?_
    refine g_8_4 ln_RX6_24 dX6_manyLetters_9 ?_
    refine wq_iload_n dX6_manyLetters_12 1 rfl rfl ?_
    refine wq_grd (fun g4 => ?_)
    refine wq_iald (k := 21) (i := 2) rfl (by decide) rfl rfl (m := 60) g4 (by decide) dX6_manyLetters_13 ?_
    refine wq_goto 18 dX6_manyLetters_14 (by decide) ?_
    exact wq_iret rfl rfl dX6_manyLetters_18

theorem ln_RX6_36 : Cond.fieldLink RX6 36 RX6 "source" "LPairRules$Source;" ∈ lw_good := li_2 0 (by decide +kernel) (by decide +kernel)
theorem ln_RX6_21 : Cond.fieldLink RX6 21 RX6 "lettersFrom" "[I" ∈ lw_good := li_2 3 (by decide +kernel) (by decide +kernel)
theorem ln_RX6_141 : Cond.methodLink RX6 141 yX8_byteAt ∈ lw_good := li_4 178 (by decide +kernel) (by decide +kernel)
noncomputable def f_Scr_letter (a1 : Int) (a2 : Int) (I : Mem) : Option ((Int) × Mem) :=
bnd (f_Scr_isEntry a1 I) fun x3 J2 =>
if (w32 x3) = 0 then
some (0, J2)
else
if 0 ≤ (w32 a1) ∧ (w32 a1) < 60 then
bnd (f_Src_byteAt ((J2 21 1 (w32 a1).toNat) + a2) J2) fun x7 J6 =>
some ((x7 - 97), J6)
else none
set_option maxRecDepth 20000 in
theorem R_Scr_letter (Z : ZT) (a1 : Int) (a2 : Int) (I : Mem) (r : Int) (J : Mem) (hf : f_Scr_letter a1 a2 I = some (r, J)) : Runs Z yX6_letter cX6_letter 3 (some .int) 2 [vr Z 8 0, vi a1, vi a2] I (some (vi r), J) := by
  refine Runs.of (rv := fun x => some (vi x)) (by decide +kernel) (Nat.le_of_ble_eq_true rfl) hf (fun gr => ?_)
  unfold f_Scr_letter
  refine WQ.loc [0, 1, 2] (lv' := [(0, vr Z 8 0), (1, vi a1), (2, vi a2)]) rfl ?_
  refine wq_aload_n dX6_letter_0 0 rfl rfl ?_
  refine wq_iload_n dX6_letter_1 1 rfl rfl ?_
  refine wq_cVi M_Scr_isEntry (R_Scr_isEntry Z a1 _) ob_8 rfl rfl (by decide) (by decide) (Nat.le_of_ble_eq_true rfl) ln_RX6_138 dX6_letter_2 (fun gr1 x3 J2 => ?_)
  refine wq_if_eq 29 dX6_letter_5 (by decide) rfl (fun c8 => ?_) (fun c8 => ?_)
  · refine wq_iconst dX6_letter_29 ?_
    exact wq_iret rfl rfl dX6_letter_30
  · refine wq_aload_n dX6_letter_8 0 rfl rfl ?_
    refine g_8_0 ln_RX6_36 dX6_letter_9 ?_
    refine wq_aload_n dX6_letter_12 0 rfl rfl ?_
    refine g_8_3 ln_RX6_21 dX6_letter_13 ?_
    refine wq_iload_n dX6_letter_16 1 rfl rfl ?_
    refine wq_grd (fun g4 => ?_)
    refine wq_iald (k := 21) (i := 1) rfl (by decide) rfl rfl (m := 60) g4 (by decide) dX6_letter_17 ?_
    refine wq_iload_n dX6_letter_18 2 rfl rfl ?_
    refine wq_iadd dX6_letter_19 ?_
    refine wq_cVi M_Src_byteAt (R_Src_byteAt Z ((J2 21 1 (w32 a1).toNat) + a2) _) ob_6 rfl rfl (by decide) (by decide) (Nat.le_of_ble_eq_true rfl) ln_RX6_141 dX6_letter_20 (fun gr5 x7 J6 => ?_)
    refine wq_bipush dX6_letter_23 (by decide) ?_
    refine wq_isub dX6_letter_25 ?_
    refine wq_goto 30 dX6_letter_26 (by decide) ?_
    exact wq_iret rfl rfl dX6_letter_30

theorem ln_RX6_30 : Cond.fieldLink RX6 30 RX6 "timesLeft" "[I" ∈ lw_good := li_2 6 (by decide +kernel) (by decide +kernel)
noncomputable def f_Scr_turn (a1 : Int) (a2 : Int) (I : Mem) : Option ((Int) × Mem) :=
if 0 ≤ (w32 a1) ∧ (w32 a1) < 60 then
if 0 < (w32 (I 21 4 (w32 a1).toNat)) then
some ((a1 + 1), I)
else
some ((a2 + 1), I)
else none
set_option maxRecDepth 20000 in
theorem R_Scr_turn (Z : ZT) (a1 : Int) (a2 : Int) (I : Mem) (r : Int) (J : Mem) (hf : f_Scr_turn a1 a2 I = some (r, J)) : Runs Z yX6_turn cX6_turn 3 (some .int) 1 [vr Z 8 0, vi a1, vi a2] I (some (vi r), J) := by
  refine Runs.of (rv := fun x => some (vi x)) (by decide +kernel) (Nat.le_of_ble_eq_true rfl) hf (fun gr => ?_)
  unfold f_Scr_turn
  refine WQ.loc [0, 1, 2] (lv' := [(0, vr Z 8 0), (1, vi a1), (2, vi a2)]) rfl ?_
  refine wq_aload_n dX6_turn_0 0 rfl rfl ?_
  refine g_8_6 ln_RX6_30 dX6_turn_1 ?_
  refine wq_iload_n dX6_turn_4 1 rfl rfl ?_
  refine wq_grd (fun g1 => ?_)
  refine wq_iald (k := 21) (i := 4) rfl (by decide) rfl rfl (m := 60) g1 (by decide) dX6_turn_5 ?_
  refine wq_if_le 13 dX6_turn_6 (by decide) rfl (fun c2 => ?_) (fun c2 => ?_)
  · refine wq_iload_n dX6_turn_9 1 rfl rfl ?_
    refine wq_goto 14 dX6_turn_10 (by decide) ?_
    refine wq_iconst dX6_turn_14 ?_
    refine wq_iadd dX6_turn_15 ?_
    exact wq_iret rfl rfl dX6_turn_16
  · refine wq_iload_n dX6_turn_13 2 rfl rfl ?_
    refine wq_iconst dX6_turn_14 ?_
    refine wq_iadd dX6_turn_15 ?_
    exact wq_iret rfl rfl dX6_turn_16

theorem ln_RX2_23 : Cond.fieldLink RX2 23 RX2 "many" "I" ∈ lw_good := li_2 47 (by decide +kernel) (by decide +kernel)
noncomputable def f_His_manyPast  (I : Mem) : Option ((Int) × Mem) :=
some ((I 9 0 4), I)
set_option maxRecDepth 20000 in
theorem R_His_manyPast (Z : ZT)  (I : Mem) (r : Int) (J : Mem) (hf : f_His_manyPast I = some (r, J)) : Runs Z yX2_manyPast cX2_manyPast 1 (some .int) 1 [vr Z 9 0] I (some (vi r), J) := by
  refine Runs.of (rv := fun x => some (vi x)) (by decide +kernel) (Nat.le_of_ble_eq_true rfl) hf (fun gr => ?_)
  unfold f_His_manyPast
  refine WQ.loc [0] (lv' := [(0, vr Z 9 0)]) rfl ?_
  refine wq_aload_n dX2_manyPast_0 0 rfl rfl ?_
  refine g_9_4 ln_RX2_23 dX2_manyPast_1 ?_
  exact wq_iret rfl rfl dX2_manyPast_4

noncomputable def f_His_forgetPast  (I : Mem) : Option ((Unit) × Mem) :=
ltI (sI I 9 0 4 0) fun J1 =>
some ((), J1)
set_option maxRecDepth 20000 in
theorem R_His_forgetPast (Z : ZT)  (I : Mem) (r : Unit) (J : Mem) (hf : f_His_forgetPast I = some (r, J)) : Runs Z yX2_forgetPast cX2_forgetPast 1 (none) 1 [vr Z 9 0] I (none, J) := by
  refine Runs.of (rv := fun _ => none) (by decide +kernel) (Nat.le_of_ble_eq_true rfl) hf (fun gr => ?_)
  unfold f_His_forgetPast
  refine WQ.loc [0] (lv' := [(0, vr Z 9 0)]) rfl ?_
  refine wq_aload_n dX2_forgetPast_0 0 rfl rfl ?_
  refine wq_iconst dX2_forgetPast_1 ?_
  refine p_9_4 ln_RX2_23 dX2_forgetPast_2 (fun J1 => ?_)
  exact wq_vret rfl rfl dX2_forgetPast_5

theorem ln_RX2_18 : Cond.fieldLink RX2 18 RX2 "isKept" "[Z" ∈ lw_good := li_2 45 (by decide +kernel) (by decide +kernel)
noncomputable def f_His_hasKept (a1 : Int) (I : Mem) : Option ((Int) × Mem) :=
if (w32 a1) < 0 then
some (0, I)
else
if (w32 a1) < 2 then
if 0 ≤ (w32 a1) ∧ (w32 a1) < 2 then
if (w32 (I 24 0 (w32 a1).toNat)) = 0 then
some (0, I)
else
some (1, I)
else none
else
some (0, I)
set_option maxRecDepth 20000 in
theorem R_His_hasKept (Z : ZT) (a1 : Int) (I : Mem) (r : Int) (J : Mem) (hf : f_His_hasKept a1 I = some (r, J)) : Runs Z yX2_hasKept cX2_hasKept 2 (some .boolean) 1 [vr Z 9 0, vi a1] I (some (vi r), J) := by
  refine Runs.of (rv := fun x => some (vi x)) (by decide +kernel) (Nat.le_of_ble_eq_true rfl) hf (fun gr => ?_)
  unfold f_His_hasKept
  refine WQ.loc [0, 1] (lv' := [(0, vr Z 9 0), (1, vi a1)]) rfl ?_
  refine wq_iload_n dX2_hasKept_0 1 rfl rfl ?_
  refine wq_if_lt 22 dX2_hasKept_1 (by decide) rfl (fun c4 => ?_) (fun c4 => ?_)
  · refine wq_iconst dX2_hasKept_22 ?_
    exact wq_zret rfl (by decide) rfl dX2_hasKept_23
  · refine wq_iload_n dX2_hasKept_4 1 rfl rfl ?_
    refine wq_iconst dX2_hasKept_5 ?_
    refine wq_icmp_ge 22 dX2_hasKept_6 (by decide) rfl rfl (fun c3 => ?_) (fun c3 => ?_)
    · refine wq_aload_n dX2_hasKept_9 0 rfl rfl ?_
      refine g_9_2 ln_RX2_18 dX2_hasKept_10 ?_
      refine wq_iload_n dX2_hasKept_13 1 rfl rfl ?_
      refine wq_grd (fun g1 => ?_)
      refine wq_zald (k := 24) (i := 0) rfl (by decide) rfl rfl (m := 2) g1 (Nat.le_refl _) dX2_hasKept_14 ?_
      refine wq_if_eq 22 dX2_hasKept_15 (by decide) rfl (fun c2 => ?_) (fun c2 => ?_)
      · refine wq_iconst dX2_hasKept_22 ?_
        exact wq_zret rfl (by decide) rfl dX2_hasKept_23
      · refine wq_iconst dX2_hasKept_18 ?_
        refine wq_goto 23 dX2_hasKept_19 (by decide) ?_
        exact wq_zret rfl (by decide) rfl dX2_hasKept_23
    · refine wq_iconst dX2_hasKept_22 ?_
      exact wq_zret rfl (by decide) rfl dX2_hasKept_23

noncomputable def f_His_forgetSaved_w2  (s : Int) (I : Mem) : Option (((Int) ⊕ (Unit)) × Mem) :=
if (w32 s) < 2 then
if 0 ≤ (w32 s) ∧ (w32 s) < 2 then
ltI (sI I 24 0 (w32 s).toNat 0) fun J2 =>
some (.inl (s + 1), J2)
else none
else
some (.inr (), I)

noncomputable def f_His_forgetSaved  (I : Mem) : Option ((Unit) × Mem) :=
bnd (whl (f_His_forgetSaved_w2) 0 I) fun r14 J15 =>
some ((), J15)
set_option maxRecDepth 20000 in
theorem R_His_forgetSaved (Z : ZT)  (I : Mem) (r : Unit) (J : Mem) (hf : f_His_forgetSaved I = some (r, J)) : Runs Z yX2_forgetSaved cX2_forgetSaved 2 (none) 1 [vr Z 9 0] I (none, J) := by
  refine Runs.of (rv := fun _ => none) (by decide +kernel) (Nat.le_of_ble_eq_true rfl) hf (fun gr => ?_)
  unfold f_His_forgetSaved
  refine WQ.loc [0] (lv' := [(0, vr Z 9 0)]) rfl ?_
  refine wq_iconst dX2_forgetSaved_0 ?_
  refine wq_istore_n (lv' := [(1, vi 0), (0, vr Z 9 0)]) dX2_forgetSaved_1 rfl (by decide) rfl ?_
  refine WQ.loc [1, 0] (lv' := [(0, vr Z 9 0), (1, vi 0)]) rfl ?_
  refine wq_loopS (fun s10 => [(0, vr Z 9 0), (1, vi s10)]) 20 (fun _ => []) (fun κ4 bk5 ex6 gr9 s10 J8 => ?_) (fun gr16 r14 J15 => ?_) gr _ rfl
  · unfold f_His_forgetSaved_w2
    refine wq_iload_n dX2_forgetSaved_2 1 rfl rfl ?_
    refine wq_iconst dX2_forgetSaved_3 ?_
    refine wq_icmp_ge 20 dX2_forgetSaved_4 (by decide) rfl rfl (fun c13 => ?_) (fun c13 => ?_)
    · refine wq_aload_n dX2_forgetSaved_7 0 rfl rfl ?_
      refine g_9_2 ln_RX2_18 dX2_forgetSaved_8 ?_
      refine wq_iload_n dX2_forgetSaved_11 1 rfl rfl ?_
      refine wq_iconst dX2_forgetSaved_12 ?_
      refine wq_grd (fun g11 => ?_)
      refine wq_zast (k := 24) (i := 0) (fun _ => rfl) (by decide) rfl rfl (m := 2) g11 (Nat.le_refl _) rfl (by decide) (by decide) (by decide) dX2_forgetSaved_13 (fun J12 => ?_)
      refine wq_iinc (lv' := [(1, vi (s10 + 1)), (0, vr Z 9 0)]) dX2_forgetSaved_14 1 rfl (by decide) rfl ?_
      refine wq_goto 2 dX2_forgetSaved_17 (by decide) ?_
      exact WQ.loc [1, 0] rfl (bk5 _ _ _)
    · exact WQ.loc [] rfl (ex6 _ _ _)
  · exact wq_vret rfl rfl dX2_forgetSaved_20

noncomputable def f_Rep_many  (I : Mem) : Option ((Int) × Mem) :=
some ((I 10 0 1), I)
set_option maxRecDepth 20000 in
theorem R_Rep_many (Z : ZT)  (I : Mem) (r : Int) (J : Mem) (hf : f_Rep_many I = some (r, J)) : Runs Z yX4_many cX4_many 1 (some .int) 1 [vr Z 10 0] I (some (vi r), J) := by
  refine Runs.of (rv := fun x => some (vi x)) (by decide +kernel) (Nat.le_of_ble_eq_true rfl) hf (fun gr => ?_)
  unfold f_Rep_many
  refine WQ.loc [0] (lv' := [(0, vr Z 10 0)]) rfl ?_
  refine wq_aload_n dX4_many_0 0 rfl rfl ?_
  refine g_10_1 ln_RX4_15 dX4_many_1 ?_
  exact wq_iret rfl rfl dX4_many_4

noncomputable def f_Rep_at (a1 : Int) (I : Mem) : Option ((Int) × Mem) :=
if (w32 a1) < 0 then
some ((-1), I)
else
if (w32 a1) < (w32 (I 10 0 1)) then
if 0 ≤ (w32 a1) ∧ (w32 a1) < (I 10 0 2) then
some ((I 25 0 (w32 a1).toNat), I)
else none
else
some ((-1), I)
set_option maxRecDepth 20000 in
theorem R_Rep_at (Z : ZT) (a1 : Int) (I : Mem) (r : Int) (J : Mem) (hf : f_Rep_at a1 I = some (r, J)) : Runs Z yX4_at cX4_at 2 (some .int) 1 [vr Z 10 0, vi a1] I (some (vi r), J) := by
  refine Runs.of (rv := fun x => some (vi x)) (by decide +kernel) (Nat.le_of_ble_eq_true rfl) hf (fun gr => ?_)
  unfold f_Rep_at
  refine WQ.loc [0, 1] (lv' := [(0, vr Z 10 0), (1, vi a1)]) rfl ?_
  refine wq_iload_n dX4_at_0 1 rfl rfl ?_
  refine wq_if_lt 21 dX4_at_1 (by decide) rfl (fun c3 => ?_) (fun c3 => ?_)
  · refine wq_iconst dX4_at_21 ?_
    exact wq_iret rfl rfl dX4_at_22
  · refine wq_iload_n dX4_at_4 1 rfl rfl ?_
    refine wq_aload_n dX4_at_5 0 rfl rfl ?_
    refine g_10_1 ln_RX4_15 dX4_at_6 ?_
    refine wq_icmp_ge 21 dX4_at_9 (by decide) rfl rfl (fun c2 => ?_) (fun c2 => ?_)
    · refine wq_aload_n dX4_at_12 0 rfl rfl ?_
      refine g_10_0 ln_RX4_9 dX4_at_13 ?_
      refine wq_iload_n dX4_at_16 1 rfl rfl ?_
      refine wq_grd (fun g1 => ?_)
      refine wq_bald (k := 25) (i := 0) rfl (by decide) rfl rfl (m := (I 10 0 2)) g1 (Nat.le_refl _) dX4_at_17 ?_
      refine wq_goto 22 dX4_at_18 (by decide) ?_
      exact wq_iret rfl rfl dX4_at_22
    · refine wq_iconst dX4_at_21 ?_
      exact wq_iret rfl rfl dX4_at_22

theorem ln_RX4_53 : Cond.constant RX4 53 (Int32.ofInt 131072) ∈ lw_good := li_5 114 (by decide +kernel) (by decide +kernel)
noncomputable def f_Rep_put_j51 (v1 : Int)   (I : Mem) : Option ((Unit) × Mem) :=
if 0 ≤ (I 10 0 2) then
if (w32 (I 10 0 1)) < (w32 (I 10 0 2)) then
if 0 ≤ (w32 (I 10 0 1)) ∧ (w32 (I 10 0 1)) < (I 10 0 2) then
ltI (sI I 25 0 (w32 (I 10 0 1)).toNat (i2b v1)) fun J10 =>
ltI (sI J10 10 0 1 ((J10 10 0 1) + 1)) fun J11 =>
some ((), J11)
else none
else
some ((), I)
else none

noncomputable def f_Rep_put (a1 : Int) (I : Mem) : Option ((Unit) × Mem) :=
if 0 ≤ (I 10 0 2) then
if (w32 (I 10 0 1)) < (w32 (I 10 0 2)) then
f_Rep_put_j51 a1 I
else
if (w32 (I 10 0 2)) < 131072 then
if 0 ≤ (w32 (2 * (I 10 0 2))) ∧ (w32 (2 * (I 10 0 2))) ≤ 262144 ∧ 0 ≤ (w32 (I 10 0 1)) ∧ (w32 (I 10 0 1)) ≤ (I 10 0 2) ∧ (w32 (I 10 0 1)) ≤ (w32 (2 * (I 10 0 2))) ∧ ∀ s : Nat, s < (w32 (I 10 0 1)).toNat → -128 ≤ I 25 0 s ∧ I 25 0 s < 128 then
ltI (grw I 25 10 0 (w32 (2 * (I 10 0 2))) (w32 (I 10 0 1))) fun J4 =>
f_Rep_put_j51 a1 J4
else none
else
f_Rep_put_j51 a1 I
else none
set_option maxRecDepth 20000 in
theorem R_Rep_put (Z : ZT) (a1 : Int) (I : Mem) (r : Unit) (J : Mem) (hf : f_Rep_put a1 I = some (r, J)) : Runs Z yX4_put cX4_put 3 (none) 1 [vr Z 10 0, vi a1] I (none, J) := by
  refine Runs.of (rv := fun _ => none) (by decide +kernel) (Nat.le_of_ble_eq_true rfl) hf (fun gr => ?_)
  unfold f_Rep_put
  refine WQ.loc [0, 1] (lv' := [(0, vr Z 10 0), (1, vi a1)]) rfl ?_
  refine wq_aload_n dX4_put_0 0 rfl rfl ?_
  refine g_10_1 ln_RX4_15 dX4_put_1 ?_
  refine wq_aload_n dX4_put_4 0 rfl rfl ?_
  refine g_10_0 ln_RX4_9 dX4_put_5 ?_
  refine wq_grd (fun g1 => ?_)
  refine wq_alen (k := 25) (i := 0) (t0 := 2) rfl rfl (by decide) rfl (alen_ok g1) dX4_put_8 ?_
  have hj2 : ∀ (gr14 : Nat → Nat)   (J13 : Mem), WQ Z (yX4_put, cX4_put, 3, none, 1) I gr14 51 [(0, vr Z 10 0), (1, vi a1)] [] J13 (f_Rep_put_j51 a1 J13) (fun b K => some (.inl ((fun _ => none) b), K)) := by
    intro gr14 J13
    unfold f_Rep_put_j51
    refine wq_aload_n dX4_put_51 0 rfl rfl ?_
    refine g_10_1 ln_RX4_15 dX4_put_52 ?_
    refine wq_aload_n dX4_put_55 0 rfl rfl ?_
    refine g_10_0 ln_RX4_9 dX4_put_56 ?_
    refine wq_grd (fun g15 => ?_)
    refine wq_alen (k := 25) (i := 0) (t0 := 2) rfl rfl (by decide) rfl (alen_ok g15) dX4_put_59 ?_
    refine wq_icmp_ge 84 dX4_put_60 (by decide) rfl rfl (fun c19 => ?_) (fun c19 => ?_)
    · refine wq_aload_n dX4_put_63 0 rfl rfl ?_
      refine g_10_0 ln_RX4_9 dX4_put_64 ?_
      refine wq_aload_n dX4_put_67 0 rfl rfl ?_
      refine g_10_1 ln_RX4_15 dX4_put_68 ?_
      refine wq_iload_n dX4_put_71 1 rfl rfl ?_
      refine wq_i2b dX4_put_72 ?_
      refine wq_grd (fun g16 => ?_)
      refine wq_bast (fun K hK => by show arI _ (K 10 0 2).toNat _ = _; rw [hK]) rfl g16 (Nat.le_refl _) (i2b_nar _) dX4_put_73 (fun J17 => ?_)
      refine wq_aload_n dX4_put_74 0 rfl rfl ?_
      refine wq_dup dX4_put_75 rfl ?_
      refine g_10_1 ln_RX4_15 dX4_put_76 ?_
      refine wq_iconst dX4_put_79 ?_
      refine wq_iadd dX4_put_80 ?_
      refine p_10_1 ln_RX4_15 dX4_put_81 (fun J18 => ?_)
      exact wq_vret rfl rfl dX4_put_84
    · exact wq_vret rfl rfl dX4_put_84
  refine wq_icmp_lt 51 dX4_put_9 (by decide) rfl rfl (fun c7 => ?_) (fun c7 => ?_)
  · exact WQ.loc [0, 1] rfl (hj2 _   _)
  · refine wq_aload_n dX4_put_12 0 rfl rfl ?_
    refine g_10_0 ln_RX4_9 dX4_put_13 ?_
    refine wq_alen (k := 25) (i := 0) (t0 := 2) rfl rfl (by decide) rfl (alen_ok g1) dX4_put_16 ?_
    refine wq_ldc ln_RX4_53 dX4_put_17 ?_
    refine wq_icmp_ge 51 dX4_put_19 (by decide) rfl rfl (fun c6 => ?_) (fun c6 => ?_)
    · refine wq_iconst dX4_put_22 ?_
      refine wq_aload_n dX4_put_23 0 rfl rfl ?_
      refine g_10_0 ln_RX4_9 dX4_put_24 ?_
      refine wq_alen (k := 25) (i := 0) (t0 := 2) rfl rfl (by decide) rfl (alen_ok g1) dX4_put_27 ?_
      refine wq_imul dX4_put_28 ?_
      refine WQ.loc [0, 1] (lv' := [(0, vr Z 10 0), (1, vi a1)]) rfl ?_
      refine wq_grd (fun g3 => ?_)
      refine wq_growB (lv' := [(0, vr Z 10 0), (1, vi a1)]) rfl (by decide) rfl rfl rfl rfl rfl g3 (fun gr5 J4 => ?_)
      exact WQ.loc [0, 1] rfl (hj2 _   _)
    · exact WQ.loc [0, 1] rfl (hj2 _   _)

theorem ln_RX12_36 : Cond.fieldLink RX12 36 RX12 "source" "LPairRules$Source;" ∈ lw_good := li_2 104 (by decide +kernel) (by decide +kernel)
theorem M_Src_bytesIn : MwV yX8_bytesIn cX8_bytesIn 4 (some .int) 1 := ⟨li_2 138 (by decide +kernel) (by decide +kernel), li_2 136 (by decide +kernel) (by decide +kernel), li_2 137 (by decide +kernel) (by decide +kernel), li_1 7 (by decide +kernel) (by decide +kernel), by decide +kernel⟩
theorem M_Src_hasRoomFor : MwV yX8_hasRoomFor cX8_hasRoomFor 2 (some .boolean) 1 := ⟨li_2 142 (by decide +kernel) (by decide +kernel), li_2 140 (by decide +kernel) (by decide +kernel), li_2 141 (by decide +kernel) (by decide +kernel), li_1 7 (by decide +kernel) (by decide +kernel), by decide +kernel⟩
theorem M_Src_take : MwV yX8_take cX8_take 4 (none) 1 := ⟨li_2 146 (by decide +kernel) (by decide +kernel), li_2 144 (by decide +kernel) (by decide +kernel), li_2 145 (by decide +kernel) (by decide +kernel), li_1 7 (by decide +kernel) (by decide +kernel), by decide +kernel⟩
theorem M_Src_many : MwV yX8_many cX8_many 1 (some .int) 0 := ⟨li_2 150 (by decide +kernel) (by decide +kernel), li_2 148 (by decide +kernel) (by decide +kernel), li_2 149 (by decide +kernel) (by decide +kernel), li_1 7 (by decide +kernel) (by decide +kernel), by decide +kernel⟩
theorem ln_RX12_91 : Cond.methodLink RX12 91 yX8_many ∈ lw_good := li_2 147 (by decide +kernel) (by decide +kernel)
theorem ln_RX12_87 : Cond.methodLink RX12 87 yX8_take ∈ lw_good := li_2 143 (by decide +kernel) (by decide +kernel)
theorem ln_RX12_83 : Cond.methodLink RX12 83 yX8_hasRoomFor ∈ lw_good := li_2 139 (by decide +kernel) (by decide +kernel)
theorem ln_RX12_79 : Cond.methodLink RX12 79 yX8_bytesIn ∈ lw_good := li_2 135 (by decide +kernel) (by decide +kernel)
noncomputable def f_PR_feed (a1 : Int) (a2 : Int) (a3 : Int) (a4 : Int) (a5 : Int) (I : Mem) : Option ((Int) × Mem) :=
bnd (f_Src_bytesIn a1 I) fun x3 J2 =>
bnd (f_Src_bytesIn a2 J2) fun x6 J5 =>
bnd (f_Src_bytesIn a3 J5) fun x9 J8 =>
bnd (f_Src_bytesIn a4 J8) fun x12 J11 =>
bnd (f_Src_bytesIn a5 J11) fun x15 J14 =>
bnd (f_Src_hasRoomFor ((((x3 + x6) + x9) + x12) + x15) J14) fun x18 J17 =>
if (w32 x18) = 0 then
some ((-1), J17)
else
bnd (f_Src_take a1 J17) fun _ J20 =>
bnd (f_Src_take a2 J20) fun _ J23 =>
bnd (f_Src_take a3 J23) fun _ J26 =>
bnd (f_Src_take a4 J26) fun _ J29 =>
bnd (f_Src_take a5 J29) fun _ J32 =>
some ((J32 6 0 1), J32)
set_option maxRecDepth 20000 in
theorem R_PR_feed (Z : ZT) (a1 : Int) (a2 : Int) (a3 : Int) (a4 : Int) (a5 : Int) (I : Mem) (r : Int) (J : Mem) (hf : f_PR_feed a1 a2 a3 a4 a5 I = some (r, J)) : Runs Z yX12_feed cX12_feed 7 (some .int) 2 [vr Z 0 0, vi a1, vi a2, vi a3, vi a4, vi a5] I (some (vi r), J) := by
  refine Runs.of (rv := fun x => some (vi x)) (by decide +kernel) (Nat.le_of_ble_eq_true rfl) hf (fun gr => ?_)
  unfold f_PR_feed
  refine WQ.loc [0, 1, 2, 3, 4, 5] (lv' := [(0, vr Z 0 0), (1, vi a1), (2, vi a2), (3, vi a3), (4, vi a4), (5, vi a5)]) rfl ?_
  refine wq_aload_n dX12_feed_0 0 rfl rfl ?_
  refine g_0_4 ln_RX12_36 dX12_feed_1 ?_
  refine wq_iload_n dX12_feed_4 1 rfl rfl ?_
  refine wq_cVi M_Src_bytesIn (R_Src_bytesIn Z a1 _) ob_6 rfl rfl (by decide) (by decide) (Nat.le_of_ble_eq_true rfl) ln_RX12_79 dX12_feed_5 (fun gr1 x3 J2 => ?_)
  refine wq_aload_n dX12_feed_8 0 rfl rfl ?_
  refine g_0_4 ln_RX12_36 dX12_feed_9 ?_
  refine wq_iload_n dX12_feed_12 2 rfl rfl ?_
  refine wq_cVi M_Src_bytesIn (R_Src_bytesIn Z a2 _) ob_6 rfl rfl (by decide) (by decide) (Nat.le_of_ble_eq_true rfl) ln_RX12_79 dX12_feed_13 (fun gr4 x6 J5 => ?_)
  refine wq_iadd dX12_feed_16 ?_
  refine wq_aload_n dX12_feed_17 0 rfl rfl ?_
  refine g_0_4 ln_RX12_36 dX12_feed_18 ?_
  refine wq_iload_n dX12_feed_21 3 rfl rfl ?_
  refine wq_cVi M_Src_bytesIn (R_Src_bytesIn Z a3 _) ob_6 rfl rfl (by decide) (by decide) (Nat.le_of_ble_eq_true rfl) ln_RX12_79 dX12_feed_22 (fun gr7 x9 J8 => ?_)
  refine wq_iadd dX12_feed_25 ?_
  refine wq_aload_n dX12_feed_26 0 rfl rfl ?_
  refine g_0_4 ln_RX12_36 dX12_feed_27 ?_
  refine wq_iload dX12_feed_30 4 rfl ?_
  refine wq_cVi M_Src_bytesIn (R_Src_bytesIn Z a4 _) ob_6 rfl rfl (by decide) (by decide) (Nat.le_of_ble_eq_true rfl) ln_RX12_79 dX12_feed_32 (fun gr10 x12 J11 => ?_)
  refine wq_iadd dX12_feed_35 ?_
  refine wq_aload_n dX12_feed_36 0 rfl rfl ?_
  refine g_0_4 ln_RX12_36 dX12_feed_37 ?_
  refine wq_iload dX12_feed_40 5 rfl ?_
  refine wq_cVi M_Src_bytesIn (R_Src_bytesIn Z a5 _) ob_6 rfl rfl (by decide) (by decide) (Nat.le_of_ble_eq_true rfl) ln_RX12_79 dX12_feed_42 (fun gr13 x15 J14 => ?_)
  refine wq_iadd dX12_feed_45 ?_
  refine wq_istore (lv' := [(6, vi ((((x3 + x6) + x9) + x12) + x15)), (0, vr Z 0 0), (1, vi a1), (2, vi a2), (3, vi a3), (4, vi a4), (5, vi a5)]) dX12_feed_46 (by decide) rfl ?_
  refine wq_aload_n dX12_feed_48 1 rfl rfl ?_
  refine g_0_4 ln_RX12_36 dX12_feed_49 ?_
  refine wq_iload dX12_feed_52 0 rfl ?_
  refine wq_cVi M_Src_hasRoomFor (R_Src_hasRoomFor Z ((((x3 + x6) + x9) + x12) + x15) _) ob_6 rfl rfl (by decide) (by decide) (Nat.le_of_ble_eq_true rfl) ln_RX12_83 dX12_feed_54 (fun gr16 x18 J17 => ?_)
  refine wq_if_ne 62 dX12_feed_57 (by decide) rfl (fun c35 => ?_) (fun c35 => ?_)
  · refine wq_iconst dX12_feed_60 ?_
    exact wq_iret rfl rfl dX12_feed_61
  · refine wq_aload_n dX12_feed_62 1 rfl rfl ?_
    refine g_0_4 ln_RX12_36 dX12_feed_63 ?_
    refine wq_iload_n dX12_feed_66 2 rfl rfl ?_
    refine wq_cVv M_Src_take (R_Src_take Z a1 _) ob_6 rfl rfl (by decide) (by decide) (Nat.le_of_ble_eq_true rfl) ln_RX12_87 dX12_feed_67 (fun gr19 _ J20 => ?_)
    refine wq_aload_n dX12_feed_70 1 rfl rfl ?_
    refine g_0_4 ln_RX12_36 dX12_feed_71 ?_
    refine wq_iload_n dX12_feed_74 3 rfl rfl ?_
    refine wq_cVv M_Src_take (R_Src_take Z a2 _) ob_6 rfl rfl (by decide) (by decide) (Nat.le_of_ble_eq_true rfl) ln_RX12_87 dX12_feed_75 (fun gr22 _ J23 => ?_)
    refine wq_aload_n dX12_feed_78 1 rfl rfl ?_
    refine g_0_4 ln_RX12_36 dX12_feed_79 ?_
    refine wq_iload_n dX12_feed_82 4 rfl rfl ?_
    refine wq_cVv M_Src_take (R_Src_take Z a3 _) ob_6 rfl rfl (by decide) (by decide) (Nat.le_of_ble_eq_true rfl) ln_RX12_87 dX12_feed_83 (fun gr25 _ J26 => ?_)
    refine wq_aload_n dX12_feed_86 1 rfl rfl ?_
    refine g_0_4 ln_RX12_36 dX12_feed_87 ?_
    refine wq_iload dX12_feed_90 5 rfl ?_
    refine wq_cVv M_Src_take (R_Src_take Z a4 _) ob_6 rfl rfl (by decide) (by decide) (Nat.le_of_ble_eq_true rfl) ln_RX12_87 dX12_feed_92 (fun gr28 _ J29 => ?_)
    refine wq_aload_n dX12_feed_95 1 rfl rfl ?_
    refine g_0_4 ln_RX12_36 dX12_feed_96 ?_
    refine wq_iload dX12_feed_99 6 rfl ?_
    refine wq_cVv M_Src_take (R_Src_take Z a5 _) ob_6 rfl rfl (by decide) (by decide) (Nat.le_of_ble_eq_true rfl) ln_RX12_87 dX12_feed_101 (fun gr31 _ J32 => ?_)
    refine wq_aload_n dX12_feed_104 1 rfl rfl ?_
    refine g_0_4 ln_RX12_36 dX12_feed_105 ?_
    refine wq_pV (v := vi (J32 6 0 1)) M_Src_many (R_Src_many Z  _ _ _ rfl) ob_6 rfl rfl (by decide) (by decide) (Nat.le_of_ble_eq_true rfl) ln_RX12_91 dX12_feed_108 (fun gr34 => ?_)
    exact wq_iret rfl rfl dX12_feed_111

theorem ln_RX12_12 : Cond.fieldLink RX12 12 RX12 "now" "LPairRules$Grammar;" ∈ lw_good := li_2 100 (by decide +kernel) (by decide +kernel)
theorem M_G_body : MwV yX1_body cX1_body 2 (some (.object RX5)) 1 := ⟨li_3 13 (by decide +kernel) (by decide +kernel), li_3 11 (by decide +kernel) (by decide +kernel), li_3 12 (by decide +kernel) (by decide +kernel), li_1 2 (by decide +kernel) (by decide +kernel), by decide +kernel⟩
theorem ln_RX12_207 : Cond.methodLink RX12 207 yX5_at ∈ lw_good := li_6 59 (by decide +kernel) (by decide +kernel)
theorem ln_RX12_191 : Cond.methodLink RX12 191 yX1_body ∈ lw_good := li_6 40 (by decide +kernel) (by decide +kernel)
noncomputable def f_PR_bodyAt (a1 : Int) (a2 : Int) (I : Mem) : Option ((Int ⊕ String) × Mem) :=
bnd (f_G_body 0 a1 I) fun x3 J2 =>
if x3 < 516 then
bnd (f_Row_at x3 a2 J2) fun x7 J6 =>
if (w32 x7) = (-1) then
ltI (thrw J6) fun J8 =>
some (.inr xIO, J8)
else
some (.inl x7, J6)
else none
set_option maxRecDepth 20000 in
theorem R_PR_bodyAt (Z : ZT) (a1 : Int) (a2 : Int) (I : Mem) : RX Z yX12_bodyAt cX12_bodyAt 4 (some .int) 6 [vr Z 0 0, vi a1, vi a2] I (fun x => some (vi x)) (f_PR_bodyAt a1 a2 I) := by
  refine RX.of (by decide +kernel) (Nat.le_of_ble_eq_true rfl) (fun gr => ?_)
  unfold f_PR_bodyAt
  refine WQ.loc [0, 1, 2] (lv' := [(0, vr Z 0 0), (1, vi a1), (2, vi a2)]) rfl ?_
  refine wq_aload_n dX12_bodyAt_0 0 rfl rfl ?_
  refine g_0_0 ln_RX12_12 dX12_bodyAt_1 ?_
  refine wq_iload_n dX12_bodyAt_4 1 rfl rfl ?_
  refine wq_cVr 2 M_G_body (R_G_body Z 0 a1 _) (ob_1 (by decide)) rfl rfl (by decide) (by decide) (Nat.le_of_ble_eq_true rfl) ln_RX12_191 dX12_bodyAt_5 (fun gr1 x3 J2 => ?_)
  refine wq_grd (fun g4 => ?_)
  refine wq_iload_n dX12_bodyAt_8 2 rfl rfl ?_
  refine wq_cVi M_Row_at (R_Row_at Z x3 a2 _) (ob_2 g4) rfl rfl (by decide) (by decide) (Nat.le_of_ble_eq_true rfl) ln_RX12_207 dX12_bodyAt_9 (fun gr5 x7 J6 => ?_)
  refine wq_istore_n (lv' := [(3, vi x7), (0, vr Z 0 0), (1, vi a1), (2, vi a2)]) dX12_bodyAt_12 rfl (by decide) rfl ?_
  refine wq_iload_n dX12_bodyAt_13 0 rfl rfl ?_
  refine wq_iconst dX12_bodyAt_14 ?_
  refine wq_icmp_ne 26 dX12_bodyAt_15 (by decide) rfl rfl (fun c9 => ?_) (fun c9 => ?_)
  · exact wq_throw thr_IO (Nat.le_of_ble_eq_true rfl) (by decide +kernel) rfl dX12_bodyAt_18 dX12_bodyAt_21 dX12_bodyAt_22 dX12_bodyAt_25
  · refine wq_iload_n dX12_bodyAt_26 0 rfl rfl ?_
    exact wq_iret rfl rfl dX12_bodyAt_27

theorem M_G_startRow : MwV yX1_startRow cX1_startRow 1 (some (.object RX5)) 0 := ⟨li_3 75 (by decide +kernel) (by decide +kernel), li_3 73 (by decide +kernel) (by decide +kernel), li_3 74 (by decide +kernel) (by decide +kernel), li_1 2 (by decide +kernel) (by decide +kernel), by decide +kernel⟩
theorem ln_RX12_138 : Cond.methodLink RX12 138 yX1_startRow ∈ lw_good := li_5 48 (by decide +kernel) (by decide +kernel)
noncomputable def f_PR_startAt (a1 : Int) (I : Mem) : Option ((Int ⊕ String) × Mem) :=
bnd (f_Row_at (43 * 0) a1 I) fun x4 J3 =>
if (w32 x4) = (-1) then
ltI (thrw J3) fun J5 =>
some (.inr xIO, J5)
else
some (.inl x4, J3)
set_option maxRecDepth 20000 in
theorem R_PR_startAt (Z : ZT) (a1 : Int) (I : Mem) : RX Z yX12_startAt cX12_startAt 3 (some .int) 6 [vr Z 0 0, vi a1] I (fun x => some (vi x)) (f_PR_startAt a1 I) := by
  refine RX.of (by decide +kernel) (Nat.le_of_ble_eq_true rfl) (fun gr => ?_)
  unfold f_PR_startAt
  refine WQ.loc [0, 1] (lv' := [(0, vr Z 0 0), (1, vi a1)]) rfl ?_
  refine wq_aload_n dX12_startAt_0 0 rfl rfl ?_
  refine g_0_0 ln_RX12_12 dX12_startAt_1 ?_
  refine wq_pV (v := vr Z 2 (43 * 0)) M_G_startRow (R_G_startRow Z 0 _ _ _ (if_pos (by decide))) (ob_1 (by decide)) rfl rfl (by decide) (by decide) (Nat.le_of_ble_eq_true rfl) ln_RX12_138 dX12_startAt_4 (fun gr1 => ?_)
  refine wq_iload_n dX12_startAt_7 1 rfl rfl ?_
  refine wq_cVi M_Row_at (R_Row_at Z (43 * 0) a1 _) (ob_2 (by omega)) rfl rfl (by decide) (by decide) (Nat.le_of_ble_eq_true rfl) ln_RX12_207 dX12_startAt_8 (fun gr2 x4 J3 => ?_)
  refine wq_istore_n (lv' := [(2, vi x4), (0, vr Z 0 0), (1, vi a1)]) dX12_startAt_11 rfl (by decide) rfl ?_
  refine wq_iload_n dX12_startAt_12 0 rfl rfl ?_
  refine wq_iconst dX12_startAt_13 ?_
  refine wq_icmp_ne 25 dX12_startAt_14 (by decide) rfl rfl (fun c6 => ?_) (fun c6 => ?_)
  · exact wq_throw thr_IO (Nat.le_of_ble_eq_true rfl) (by decide +kernel) rfl dX12_startAt_17 dX12_startAt_20 dX12_startAt_21 dX12_startAt_24
  · refine wq_iload_n dX12_startAt_25 0 rfl rfl ?_
    exact wq_iret rfl rfl dX12_startAt_26

theorem M_G_accountOf : MwV yX1_accountOf cX1_accountOf 2 (some .int) 1 := ⟨li_5 34 (by decide +kernel) (by decide +kernel), li_5 32 (by decide +kernel) (by decide +kernel), li_5 33 (by decide +kernel) (by decide +kernel), li_1 2 (by decide +kernel) (by decide +kernel), by decide +kernel⟩
theorem ln_RX12_223 : Cond.methodLink RX12 223 yX1_accountOf ∈ lw_good := li_5 31 (by decide +kernel) (by decide +kernel)
noncomputable def f_PR_account (a1 : Int) (I : Mem) : Option ((Int ⊕ String) × Mem) :=
if (w32 a1) < 0 then
ltI (thrw I) fun J1 =>
some (.inr xIA, J1)
else
if (w32 a1) < 9 then
bnd (f_G_accountOf 0 a1 I) fun x4 J3 =>
some (.inl x4, J3)
else
ltI (thrw I) fun J5 =>
some (.inr xIA, J5)
set_option maxRecDepth 20000 in
theorem R_PR_account (Z : ZT) (a1 : Int) (I : Mem) : RX Z yX12_account cX12_account 2 (some .int) 6 [vr Z 0 0, vi a1] I (fun x => some (vi x)) (f_PR_account a1 I) := by
  refine RX.of (by decide +kernel) (Nat.le_of_ble_eq_true rfl) (fun gr => ?_)
  unfold f_PR_account
  refine WQ.loc [0, 1] (lv' := [(0, vr Z 0 0), (1, vi a1)]) rfl ?_
  refine wq_iload_n dX12_account_0 1 rfl rfl ?_
  refine wq_if_lt 10 dX12_account_1 (by decide) rfl (fun c7 => ?_) (fun c7 => ?_)
  · exact wq_throw thr_IA (Nat.le_of_ble_eq_true rfl) (by decide +kernel) rfl dX12_account_10 dX12_account_13 dX12_account_14 dX12_account_17
  · refine wq_iload_n dX12_account_4 1 rfl rfl ?_
    refine wq_bipush dX12_account_5 (by decide) ?_
    refine wq_icmp_lt 18 dX12_account_7 (by decide) rfl rfl (fun c6 => ?_) (fun c6 => ?_)
    · refine wq_aload_n dX12_account_18 0 rfl rfl ?_
      refine g_0_0 ln_RX12_12 dX12_account_19 ?_
      refine wq_iload_n dX12_account_22 1 rfl rfl ?_
      refine wq_cVi M_G_accountOf (R_G_accountOf Z 0 a1 _) (ob_1 (by decide)) rfl rfl (by decide) (by decide) (Nat.le_of_ble_eq_true rfl) ln_RX12_223 dX12_account_23 (fun gr2 x4 J3 => ?_)
      exact wq_iret rfl rfl dX12_account_26
    · exact wq_throw thr_IA (Nat.le_of_ble_eq_true rfl) (by decide +kernel) rfl dX12_account_10 dX12_account_13 dX12_account_14 dX12_account_17

theorem ln_RX12_68 : Cond.fieldLink RX12 68 RX12 "written" "LPairRules$Report;" ∈ lw_good := li_2 108 (by decide +kernel) (by decide +kernel)
theorem M_Rep_at : MwV yX4_at cX4_at 2 (some .int) 1 := ⟨li_5 133 (by decide +kernel) (by decide +kernel), li_5 131 (by decide +kernel) (by decide +kernel), li_5 132 (by decide +kernel) (by decide +kernel), li_1 13 (by decide +kernel) (by decide +kernel), by decide +kernel⟩
theorem ln_RX12_312 : Cond.methodLink RX12 312 yX4_at ∈ lw_good := li_5 130 (by decide +kernel) (by decide +kernel)
noncomputable def f_PR_reportByte (a1 : Int) (I : Mem) : Option ((Int) × Mem) :=
bnd (f_Rep_at a1 I) fun x3 J2 =>
some (x3, J2)
set_option maxRecDepth 20000 in
theorem R_PR_reportByte (Z : ZT) (a1 : Int) (I : Mem) (r : Int) (J : Mem) (hf : f_PR_reportByte a1 I = some (r, J)) : Runs Z yX12_reportByte cX12_reportByte 2 (some .int) 2 [vr Z 0 0, vi a1] I (some (vi r), J) := by
  refine Runs.of (rv := fun x => some (vi x)) (by decide +kernel) (Nat.le_of_ble_eq_true rfl) hf (fun gr => ?_)
  unfold f_PR_reportByte
  refine WQ.loc [0, 1] (lv' := [(0, vr Z 0 0), (1, vi a1)]) rfl ?_
  refine wq_aload_n dX12_reportByte_0 0 rfl rfl ?_
  refine g_0_8 ln_RX12_68 dX12_reportByte_1 ?_
  refine wq_iload_n dX12_reportByte_4 1 rfl rfl ?_
  refine wq_cVi M_Rep_at (R_Rep_at Z a1 _) ob_10 rfl rfl (by decide) (by decide) (Nat.le_of_ble_eq_true rfl) ln_RX12_312 dX12_reportByte_5 (fun gr1 x3 J2 => ?_)
  exact wq_iret rfl rfl dX12_reportByte_8

theorem M_Src_errorAt : MwV yX8_errorAt cX8_errorAt 1 (some .int) 0 := ⟨li_3 121 (by decide +kernel) (by decide +kernel), li_3 119 (by decide +kernel) (by decide +kernel), li_3 120 (by decide +kernel) (by decide +kernel), li_1 7 (by decide +kernel) (by decide +kernel), by decide +kernel⟩
theorem ln_RX12_331 : Cond.methodLink RX12 331 yX8_errorAt ∈ lw_good := li_3 118 (by decide +kernel) (by decide +kernel)
theorem M_Src_errorCode : MwV yX8_errorCode cX8_errorCode 1 (some .int) 0 := ⟨li_3 125 (by decide +kernel) (by decide +kernel), li_3 123 (by decide +kernel) (by decide +kernel), li_3 124 (by decide +kernel) (by decide +kernel), li_1 7 (by decide +kernel) (by decide +kernel), by decide +kernel⟩
theorem ln_RX12_333 : Cond.methodLink RX12 333 yX8_errorCode ∈ lw_good := li_3 122 (by decide +kernel) (by decide +kernel)
noncomputable def f_PR_failure  (I : Mem) : Option ((Int) × Mem) :=
ltI (sI I 0 0 9 (I 6 0 7)) fun J2 =>
some (((-10) - (J2 6 0 6)), J2)
set_option maxRecDepth 20000 in
theorem R_PR_failure (Z : ZT)  (I : Mem) (r : Int) (J : Mem) (hf : f_PR_failure I = some (r, J)) : Runs Z yX12_failure cX12_failure 1 (some .int) 2 [vr Z 0 0] I (some (vi r), J) := by
  refine Runs.of (rv := fun x => some (vi x)) (by decide +kernel) (Nat.le_of_ble_eq_true rfl) hf (fun gr => ?_)
  unfold f_PR_failure
  refine WQ.loc [0] (lv' := [(0, vr Z 0 0)]) rfl ?_
  refine wq_aload_n dX12_failure_0 0 rfl rfl ?_
  refine wq_aload_n dX12_failure_1 0 rfl rfl ?_
  refine g_0_4 ln_RX12_36 dX12_failure_2 ?_
  refine wq_pV (v := vi (I 6 0 7)) M_Src_errorAt (R_Src_errorAt Z  _ _ _ rfl) ob_6 rfl rfl (by decide) (by decide) (Nat.le_of_ble_eq_true rfl) ln_RX12_331 dX12_failure_5 (fun gr1 => ?_)
  refine p_0_9 ln_RX12_72 dX12_failure_8 (fun J2 => ?_)
  refine wq_bipush dX12_failure_11 (by decide) ?_
  refine wq_aload_n dX12_failure_13 0 rfl rfl ?_
  refine g_0_4 ln_RX12_36 dX12_failure_14 ?_
  refine wq_pV (v := vi (J2 6 0 6)) M_Src_errorCode (R_Src_errorCode Z  _ _ _ rfl) ob_6 rfl rfl (by decide) (by decide) (Nat.le_of_ble_eq_true rfl) ln_RX12_333 dX12_failure_17 (fun gr3 => ?_)
  refine wq_isub dX12_failure_20 ?_
  exact wq_iret rfl rfl dX12_failure_21

theorem M_Row_clear : MwV yX5_clear cX5_clear 1 (none) 0 := ⟨li_2 85 (by decide +kernel) (by decide +kernel), li_2 83 (by decide +kernel) (by decide +kernel), li_2 84 (by decide +kernel) (by decide +kernel), li_1 3 (by decide +kernel) (by decide +kernel), by decide +kernel⟩
theorem ln_RX1_42 : Cond.methodLink RX1 42 yX5_clear ∈ lw_good := li_2 82 (by decide +kernel) (by decide +kernel)
noncomputable def f_G_clear_w16 (v0 : Nat) (s : Int) (I : Mem) : Option (((Int) ⊕ (Unit)) × Mem) :=
if (w32 s) < 40 then
if 0 ≤ (w32 s) ∧ (w32 s) < 40 then
bnd (f_Row_clear (43 * v0 + 3 + (w32 s).toNat) I) fun _ J10 =>
ltI (sI J10 14 v0 (w32 s).toNat 0) fun J12 =>
some (.inl (s + 1), J12)
else none
else
some (.inr (), I)

noncomputable def f_G_clear_w46 (v0 : Nat) (s : Int) (I : Mem) : Option (((Int) ⊕ (Unit)) × Mem) :=
if (w32 s) < 9 then
if 0 ≤ (w32 s) ∧ (w32 s) < 9 then
ltI (sI I 15 v0 (w32 s).toNat 0) fun J32 =>
some (.inl (s + 1), J32)
else none
else
some (.inr (), I)

noncomputable def f_G_clear (t : Nat) (I : Mem) : Option ((Unit) × Mem) :=
if t < 12 then
bnd (f_Row_clear (43 * t) I) fun _ J2 =>
bnd (f_Row_clear (43 * t + 1) J2) fun _ J5 =>
bnd (whl (f_G_clear_w16 t) 0 J5) fun r28 J29 =>
bnd (whl (f_G_clear_w46 t) 0 J29) fun r44 J45 =>
ltI (sI J45 1 t 6 2) fun J47 =>
ltI (sI J47 1 t 7 0) fun J48 =>
ltI (sI J48 1 t 8 1) fun J49 =>
ltI (sI J49 1 t 9 0) fun J50 =>
some ((), J50)
else none
set_option maxRecDepth 20000 in
theorem R_G_clear (Z : ZT) (t : Nat) (I : Mem) (r : Unit) (J : Mem) (hf : f_G_clear t I = some (r, J)) : Runs Z yX1_clear cX1_clear 2 (none) 2 [vr Z 1 t] I (none, J) := by
  refine Runs.of (rv := fun _ => none) (by decide +kernel) (Nat.le_of_ble_eq_true rfl) hf (fun gr => ?_)
  unfold f_G_clear
  refine WQ.loc [0] (lv' := [(0, vr Z 1 t)]) rfl ?_
  refine wq_grd (fun ht => ?_)
  refine wq_aload_n dX1_clear_0 0 rfl rfl ?_
  refine g_1_0 ht ln_RX1_12 dX1_clear_1 ?_
  refine wq_cVv M_Row_clear (R_Row_clear Z (43 * t) _) (ob_2 (by omega)) rfl rfl (by decide) (by decide) (Nat.le_of_ble_eq_true rfl) ln_RX1_42 dX1_clear_4 (fun gr1 _ J2 => ?_)
  refine wq_aload_n dX1_clear_7 0 rfl rfl ?_
  refine g_1_1 ht ln_RX1_18 dX1_clear_8 ?_
  refine wq_cVv M_Row_clear (R_Row_clear Z (43 * t + 1) _) (ob_2 (by omega)) rfl rfl (by decide) (by decide) (Nat.le_of_ble_eq_true rfl) ln_RX1_42 dX1_clear_11 (fun gr4 _ J5 => ?_)
  refine wq_iconst dX1_clear_14 ?_
  refine wq_istore_n (lv' := [(1, vi 0), (0, vr Z 1 t)]) dX1_clear_15 rfl (by decide) rfl ?_
  refine WQ.loc [1, 0] (lv' := [(0, vr Z 1 t), (1, vi 0)]) rfl ?_
  refine wq_loopS (fun s20 => [(0, vr Z 1 t), (1, vi s20)]) 44 (fun _ => [(0, vr Z 1 t)]) (fun κ14 bk15 ex16 gr19 s20 J18 => ?_) (fun gr30 r28 J29 => ?_) gr4 _ rfl
  · unfold f_G_clear_w16
    refine wq_iload_n dX1_clear_16 1 rfl rfl ?_
    refine wq_bipush dX1_clear_17 (by decide) ?_
    refine wq_icmp_ge 44 dX1_clear_19 (by decide) rfl rfl (fun c27 => ?_) (fun c27 => ?_)
    · refine wq_aload_n dX1_clear_22 0 rfl rfl ?_
      refine g_1_2 ht ln_RX1_21 dX1_clear_23 ?_
      refine wq_iload_n dX1_clear_26 1 rfl rfl ?_
      refine wq_grd (fun g21 => ?_)
      refine wq_aald (k := 13) (i := t) (t0 := 4) rfl rfl ht rfl rfl (m := 40) g21 (Nat.le_refl _) dX1_clear_27 ?_
      have hb22 : (43 * t + 3 + (w32 s20).toNat) < 516 := by omega
      refine wq_cVv M_Row_clear (R_Row_clear Z (43 * t + 3 + (w32 s20).toNat) _) (ob_2 hb22) rfl rfl (by decide) (by decide) (Nat.le_of_ble_eq_true rfl) ln_RX1_42 dX1_clear_28 (fun gr23 _ J24 => ?_)
      refine wq_aload_n dX1_clear_31 0 rfl rfl ?_
      refine g_1_4 ht ln_RX1_28 dX1_clear_32 ?_
      refine wq_iload_n dX1_clear_35 1 rfl rfl ?_
      refine wq_iconst dX1_clear_36 ?_
      refine wq_iast (k := 14) (i := t) (fun _ _ => rfl) ht rfl rfl (m := 40) g21 (Nat.le_refl _) (by decide) (by decide) (by decide) dX1_clear_37 (fun J26 => ?_)
      refine wq_iinc (lv' := [(1, vi (s20 + 1)), (0, vr Z 1 t)]) dX1_clear_38 1 rfl (by decide) rfl ?_
      refine wq_goto 16 dX1_clear_41 (by decide) ?_
      exact WQ.loc [1, 0] rfl (bk15 _ _ _)
    · exact WQ.loc [0] rfl (ex16 _ _ _)
  · refine wq_iconst dX1_clear_44 ?_
    refine wq_istore_n (lv' := [(1, vi 0), (0, vr Z 1 t)]) dX1_clear_45 rfl (by decide) rfl ?_
    refine WQ.loc [1, 0] (lv' := [(0, vr Z 1 t), (1, vi 0)]) rfl ?_
    refine wq_loopS (fun s40 => [(0, vr Z 1 t), (1, vi s40)]) 65 (fun _ => [(0, vr Z 1 t)]) (fun κ34 bk35 ex36 gr39 s40 J38 => ?_) (fun gr46 r44 J45 => ?_) gr30 _ rfl
    · unfold f_G_clear_w46
      refine wq_iload_n dX1_clear_46 1 rfl rfl ?_
      refine wq_bipush dX1_clear_47 (by decide) ?_
      refine wq_icmp_ge 65 dX1_clear_49 (by decide) rfl rfl (fun c43 => ?_) (fun c43 => ?_)
      · refine wq_aload_n dX1_clear_52 0 rfl rfl ?_
        refine g_1_5 ht ln_RX1_32 dX1_clear_53 ?_
        refine wq_iload_n dX1_clear_56 1 rfl rfl ?_
        refine wq_iconst dX1_clear_57 ?_
        refine wq_grd (fun g41 => ?_)
        refine wq_iast (k := 15) (i := t) (fun _ _ => rfl) ht rfl rfl (m := 9) g41 (Nat.le_refl _) (by decide) (by decide) (by decide) dX1_clear_58 (fun J42 => ?_)
        refine wq_iinc (lv' := [(1, vi (s40 + 1)), (0, vr Z 1 t)]) dX1_clear_59 1 rfl (by decide) rfl ?_
        refine wq_goto 46 dX1_clear_62 (by decide) ?_
        exact WQ.loc [1, 0] rfl (bk35 _ _ _)
      · exact WQ.loc [0] rfl (ex36 _ _ _)
    · refine wq_aload_n dX1_clear_65 0 rfl rfl ?_
      refine wq_iconst dX1_clear_66 ?_
      refine p_1_6 ht ln_RX1_35 dX1_clear_67 (fun J47 => ?_)
      refine wq_aload_n dX1_clear_70 0 rfl rfl ?_
      refine wq_iconst dX1_clear_71 ?_
      refine p_1_7 ht ln_RX1_45 dX1_clear_72 (fun J48 => ?_)
      refine wq_aload_n dX1_clear_75 0 rfl rfl ?_
      refine wq_iconst dX1_clear_76 ?_
      refine p_1_8 ht ln_RX1_39 dX1_clear_77 (fun J49 => ?_)
      refine wq_aload_n dX1_clear_80 0 rfl rfl ?_
      refine wq_iconst dX1_clear_81 ?_
      refine p_1_9 ht ln_RX1_48 dX1_clear_82 (fun J50 => ?_)
      exact wq_vret rfl rfl dX1_clear_85
end
section
theorem ln_RX1_73 : Cond.methodLink RX1 73 yX5_many ∈ lw_good := li_3 155 (by decide +kernel) (by decide +kernel)
theorem ln_RX1_69 : Cond.methodLink RX1 69 yX1_body ∈ lw_good := li_4 159 (by decide +kernel) (by decide +kernel)
noncomputable def f_G_hasRule (t : Nat) (a1 : Int) (I : Mem) : Option ((Int) × Mem) :=
if t < 12 then
bnd (f_G_body t a1 I) fun x3 J2 =>
if x3 < 516 then
if 0 < (w32 (J2 2 x3 1)) then
some (1, J2)
else
some (0, J2)
else none
else none
set_option maxRecDepth 20000 in
theorem R_G_hasRule (Z : ZT) (t : Nat) (a1 : Int) (I : Mem) (r : Int) (J : Mem) (hf : f_G_hasRule t a1 I = some (r, J)) : Runs Z yX1_hasRule cX1_hasRule 2 (some .boolean) 2 [vr Z 1 t, vi a1] I (some (vi r), J) := by
  refine Runs.of (rv := fun x => some (vi x)) (by decide +kernel) (Nat.le_of_ble_eq_true rfl) hf (fun gr => ?_)
  unfold f_G_hasRule
  refine WQ.loc [0, 1] (lv' := [(0, vr Z 1 t), (1, vi a1)]) rfl ?_
  refine wq_grd (fun ht => ?_)
  refine wq_aload_n dX1_hasRule_0 0 rfl rfl ?_
  refine wq_iload_n dX1_hasRule_1 1 rfl rfl ?_
  refine wq_cVr 2 M_G_body (R_G_body Z t a1 _) (ob_1 ht) rfl rfl (by decide) (by decide) (Nat.le_of_ble_eq_true rfl) ln_RX1_69 dX1_hasRule_2 (fun gr1 x3 J2 => ?_)
  refine wq_grd (fun g4 => ?_)
  refine wq_pV (v := vi (J2 2 x3 1)) M_Row_many (R_Row_many Z x3 _ _ _ (if_pos g4)) (ob_2 g4) rfl rfl (by decide) (by decide) (Nat.le_of_ble_eq_true rfl) ln_RX1_73 dX1_hasRule_5 (fun gr5 => ?_)
  refine wq_if_le 15 dX1_hasRule_8 (by decide) rfl (fun c6 => ?_) (fun c6 => ?_)
  · refine wq_iconst dX1_hasRule_11 ?_
    refine wq_goto 16 dX1_hasRule_12 (by decide) ?_
    exact wq_zret rfl (by decide) rfl dX1_hasRule_16
  · refine wq_iconst dX1_hasRule_15 ?_
    exact wq_zret rfl (by decide) rfl dX1_hasRule_16

theorem M_PR_isLetter : MwS yX12_isLetter cX12_isLetter 1 (some .boolean) 1 := ⟨li_4 193 (by decide +kernel) (by decide +kernel), li_4 192 (by decide +kernel) (by decide +kernel), li_1 1 (by decide +kernel) (by decide +kernel), by decide +kernel⟩
theorem M_G_hasRule : MwV yX1_hasRule cX1_hasRule 2 (some .boolean) 1 := ⟨li_4 158 (by decide +kernel) (by decide +kernel), li_4 156 (by decide +kernel) (by decide +kernel), li_4 157 (by decide +kernel) (by decide +kernel), li_1 2 (by decide +kernel) (by decide +kernel), by decide +kernel⟩
theorem ln_RX1_80 : Cond.methodLink RX1 80 yX1_hasRule ∈ lw_good := li_4 194 (by decide +kernel) (by decide +kernel)
theorem ln_RX1_76 : Cond.methodLinkNest RX1 76 yX12_isLetter RX12 ∈ lw_nw := nw_in 1048 (by decide +kernel) (by decide +kernel)
noncomputable def f_G_hasSymbol (t : Nat) (a1 : Int) (I : Mem) : Option ((Int) × Mem) :=
if t < 12 then
bnd (f_PR_isLetter a1 I) fun x3 J2 =>
if (w32 x3) = 0 then
bnd (f_G_hasRule t (a1 - 26) J2) fun x6 J5 =>
if (w32 x6) = 0 then
some (0, J5)
else
some (1, J5)
else
some (1, J2)
else none
set_option maxRecDepth 20000 in
theorem R_G_hasSymbol (Z : ZT) (t : Nat) (a1 : Int) (I : Mem) (r : Int) (J : Mem) (hf : f_G_hasSymbol t a1 I = some (r, J)) : Runs Z yX1_hasSymbol cX1_hasSymbol 2 (some .boolean) 3 [vr Z 1 t, vi a1] I (some (vi r), J) := by
  refine Runs.of (rv := fun x => some (vi x)) (by decide +kernel) (Nat.le_of_ble_eq_true rfl) hf (fun gr => ?_)
  unfold f_G_hasSymbol
  refine WQ.loc [0, 1] (lv' := [(0, vr Z 1 t), (1, vi a1)]) rfl ?_
  refine wq_grd (fun ht => ?_)
  refine wq_iload_n dX1_hasSymbol_0 1 rfl rfl ?_
  refine wq_cNi M_PR_isLetter (R_PR_isLetter Z a1 _) rfl rfl (by decide) (by decide) (Nat.le_of_ble_eq_true rfl) ln_RX1_76 dX1_hasSymbol_1 (fun gr1 x3 J2 => ?_)
  refine wq_if_ne 18 dX1_hasSymbol_4 (by decide) rfl (fun c8 => ?_) (fun c8 => ?_)
  · refine wq_aload_n dX1_hasSymbol_7 0 rfl rfl ?_
    refine wq_iload_n dX1_hasSymbol_8 1 rfl rfl ?_
    refine wq_bipush dX1_hasSymbol_9 (by decide) ?_
    refine wq_isub dX1_hasSymbol_11 ?_
    refine wq_cVi M_G_hasRule (R_G_hasRule Z t (a1 - 26) _) (ob_1 ht) rfl rfl (by decide) (by decide) (Nat.le_of_ble_eq_true rfl) ln_RX1_80 dX1_hasSymbol_12 (fun gr4 x6 J5 => ?_)
    refine wq_if_eq 22 dX1_hasSymbol_15 (by decide) rfl (fun c7 => ?_) (fun c7 => ?_)
    · refine wq_iconst dX1_hasSymbol_22 ?_
      exact wq_zret rfl (by decide) rfl dX1_hasSymbol_23
    · refine wq_iconst dX1_hasSymbol_18 ?_
      refine wq_goto 23 dX1_hasSymbol_19 (by decide) ?_
      exact wq_zret rfl (by decide) rfl dX1_hasSymbol_23
  · refine wq_iconst dX1_hasSymbol_18 ?_
    refine wq_goto 23 dX1_hasSymbol_19 (by decide) ?_
    exact wq_zret rfl (by decide) rfl dX1_hasSymbol_23

noncomputable def f_G_manyRules_w4 (v0 : Nat) (s : Int × Int) (I : Mem) : Option (((Int × Int) ⊕ (Int)) × Mem) :=
if (w32 s.2) < 40 then
if 0 ≤ (w32 s.2) ∧ (w32 s.2) < 40 then
some (.inl ((s.1 + (if 0 < (w32 (I 2 (43 * v0 + 3 + (w32 s.2).toNat) 1)) then 1 else 0)), (s.2 + 1)), I)
else none
else
some (.inr s.1, I)

noncomputable def f_G_manyRules (t : Nat) (I : Mem) : Option ((Int) × Mem) :=
if t < 12 then
bnd (whl (f_G_manyRules_w4 t) (0, 0) I) fun r20 J21 =>
some (r20, J21)
else none
set_option maxRecDepth 20000 in
theorem R_G_manyRules (Z : ZT) (t : Nat) (I : Mem) (r : Int) (J : Mem) (hf : f_G_manyRules t I = some (r, J)) : Runs Z yX1_manyRules cX1_manyRules 3 (some .int) 2 [vr Z 1 t] I (some (vi r), J) := by
  refine Runs.of (rv := fun x => some (vi x)) (by decide +kernel) (Nat.le_of_ble_eq_true rfl) hf (fun gr => ?_)
  unfold f_G_manyRules
  refine WQ.loc [0] (lv' := [(0, vr Z 1 t)]) rfl ?_
  refine wq_grd (fun ht => ?_)
  refine wq_iconst dX1_manyRules_0 ?_
  refine wq_istore_n (lv' := [(1, vi 0), (0, vr Z 1 t)]) dX1_manyRules_1 rfl (by decide) rfl ?_
  refine wq_iconst dX1_manyRules_2 ?_
  refine wq_istore_n (lv' := [(2, vi 0), (1, vi 0), (0, vr Z 1 t)]) dX1_manyRules_3 rfl (by decide) rfl ?_
  refine WQ.loc [2, 1, 0] (lv' := [(0, vr Z 1 t), (1, vi 0), (2, vi 0)]) rfl ?_
  refine wq_loopS (fun s13 => [(0, vr Z 1 t), (1, vi s13.1), (2, vi s13.2)]) 36 (fun r20 => [(1, vi r20)]) (fun κ7 bk8 ex9 gr12 s13 J11 => ?_) (fun gr22 r20 J21 => ?_) gr _ rfl
  · unfold f_G_manyRules_w4
    refine wq_iload_n dX1_manyRules_4 2 rfl rfl ?_
    refine wq_bipush dX1_manyRules_5 (by decide) ?_
    refine wq_icmp_ge 36 dX1_manyRules_7 (by decide) rfl rfl (fun c19 => ?_) (fun c19 => ?_)
    · refine wq_iload_n dX1_manyRules_10 1 rfl rfl ?_
      refine wq_aload_n dX1_manyRules_11 0 rfl rfl ?_
      refine g_1_2 ht ln_RX1_21 dX1_manyRules_12 ?_
      refine wq_iload_n dX1_manyRules_15 2 rfl rfl ?_
      refine wq_grd (fun g14 => ?_)
      refine wq_aald (k := 13) (i := t) (t0 := 4) rfl rfl ht rfl rfl (m := 40) g14 (Nat.le_refl _) dX1_manyRules_16 ?_
      have hb15 : (43 * t + 3 + (w32 s13.2).toNat) < 516 := by omega
      refine wq_pV (v := vi (J11 2 (43 * t + 3 + (w32 s13.2).toNat) 1)) M_Row_many (R_Row_many Z (43 * t + 3 + (w32 s13.2).toNat) _ _ _ (if_pos hb15)) (ob_2 hb15) rfl rfl (by decide) (by decide) (Nat.le_of_ble_eq_true rfl) ln_RX1_73 dX1_manyRules_17 (fun gr16 => ?_)
      refine WQ.via 28 [vi (if 0 < (w32 (J11 2 (43 * t + 3 + (w32 s13.2).toNat) 1)) then 1 else 0), vi s13.1] (by
          refine wq_iadd dX1_manyRules_28 ?_
          refine wq_istore_n (lv' := [(1, vi (s13.1 + (if 0 < (w32 (J11 2 (43 * t + 3 + (w32 s13.2).toNat) 1)) then 1 else 0))), (0, vr Z 1 t), (2, vi s13.2)]) dX1_manyRules_29 rfl (by decide) rfl ?_
          refine wq_iinc (lv' := [(2, vi (s13.2 + 1)), (1, vi (s13.1 + (if 0 < (w32 (J11 2 (43 * t + 3 + (w32 s13.2).toNat) 1)) then 1 else 0))), (0, vr Z 1 t)]) dX1_manyRules_30 2 rfl (by decide) rfl ?_
          refine wq_goto 4 dX1_manyRules_33 (by decide) ?_
          exact WQ.loc [2, 1, 0] rfl (bk8 _ _ _)) (fun hj17 => ?_)
      refine WQ.both (0 < (w32 (J11 2 (43 * t + 3 + (w32 s13.2).toNat) 1))) ?_
      refine wq_if_le 27 dX1_manyRules_20 (by decide) rfl (fun c18 => ?_) (fun c18 => ?_)
      · refine wq_iconst dX1_manyRules_23 ?_
        refine wq_goto 28 dX1_manyRules_24 (by decide) ?_
        exact WQ.top (if_pos c18) hj17
      · refine wq_iconst dX1_manyRules_27 ?_
        exact WQ.top (if_neg c18) hj17
    · exact WQ.loc [1] rfl (ex9 _ _ _)
  · refine wq_iload_n dX1_manyRules_36 0 rfl rfl ?_
    exact wq_iret rfl rfl dX1_manyRules_37

noncomputable def f_G_totalSize_w10 (v0 : Nat) (s : Int × Int) (I : Mem) : Option (((Int × Int) ⊕ (Int)) × Mem) :=
if (w32 s.2) < 40 then
if 0 ≤ (w32 s.2) ∧ (w32 s.2) < 40 then
some (.inl ((s.1 + (I 2 (43 * v0 + 3 + (w32 s.2).toNat) 1)), (s.2 + 1)), I)
else none
else
some (.inr s.1, I)

noncomputable def f_G_totalSize (t : Nat) (I : Mem) : Option ((Int) × Mem) :=
if t < 12 then
bnd (whl (f_G_totalSize_w10 t) ((I 2 (43 * t) 1), 0) I) fun r17 J18 =>
some (r17, J18)
else none
set_option maxRecDepth 20000 in
theorem R_G_totalSize (Z : ZT) (t : Nat) (I : Mem) (r : Int) (J : Mem) (hf : f_G_totalSize t I = some (r, J)) : Runs Z yX1_totalSize cX1_totalSize 3 (some .int) 2 [vr Z 1 t] I (some (vi r), J) := by
  refine Runs.of (rv := fun x => some (vi x)) (by decide +kernel) (Nat.le_of_ble_eq_true rfl) hf (fun gr => ?_)
  unfold f_G_totalSize
  refine WQ.loc [0] (lv' := [(0, vr Z 1 t)]) rfl ?_
  refine wq_grd (fun ht => ?_)
  refine wq_aload_n dX1_totalSize_0 0 rfl rfl ?_
  refine g_1_0 ht ln_RX1_12 dX1_totalSize_1 ?_
  refine wq_pV (v := vi (I 2 (43 * t) 1)) M_Row_many (R_Row_many Z (43 * t) _ _ _ (if_pos (by omega))) (ob_2 (by omega)) rfl rfl (by decide) (by decide) (Nat.le_of_ble_eq_true rfl) ln_RX1_73 dX1_totalSize_4 (fun gr1 => ?_)
  refine wq_istore_n (lv' := [(1, vi (I 2 (43 * t) 1)), (0, vr Z 1 t)]) dX1_totalSize_7 rfl (by decide) rfl ?_
  refine wq_iconst dX1_totalSize_8 ?_
  refine wq_istore_n (lv' := [(2, vi 0), (1, vi (I 2 (43 * t) 1)), (0, vr Z 1 t)]) dX1_totalSize_9 rfl (by decide) rfl ?_
  refine WQ.loc [2, 1, 0] (lv' := [(0, vr Z 1 t), (1, vi (I 2 (43 * t) 1)), (2, vi 0)]) rfl ?_
  refine wq_loopS (fun s12 => [(0, vr Z 1 t), (1, vi s12.1), (2, vi s12.2)]) 34 (fun r17 => [(1, vi r17)]) (fun κ6 bk7 ex8 gr11 s12 J10 => ?_) (fun gr19 r17 J18 => ?_) gr1 _ rfl
  · unfold f_G_totalSize_w10
    refine wq_iload_n dX1_totalSize_10 2 rfl rfl ?_
    refine wq_bipush dX1_totalSize_11 (by decide) ?_
    refine wq_icmp_ge 34 dX1_totalSize_13 (by decide) rfl rfl (fun c16 => ?_) (fun c16 => ?_)
    · refine wq_iload_n dX1_totalSize_16 1 rfl rfl ?_
      refine wq_aload_n dX1_totalSize_17 0 rfl rfl ?_
      refine g_1_2 ht ln_RX1_21 dX1_totalSize_18 ?_
      refine wq_iload_n dX1_totalSize_21 2 rfl rfl ?_
      refine wq_grd (fun g13 => ?_)
      refine wq_aald (k := 13) (i := t) (t0 := 4) rfl rfl ht rfl rfl (m := 40) g13 (Nat.le_refl _) dX1_totalSize_22 ?_
      have hb14 : (43 * t + 3 + (w32 s12.2).toNat) < 516 := by omega
      refine wq_pV (v := vi (J10 2 (43 * t + 3 + (w32 s12.2).toNat) 1)) M_Row_many (R_Row_many Z (43 * t + 3 + (w32 s12.2).toNat) _ _ _ (if_pos hb14)) (ob_2 hb14) rfl rfl (by decide) (by decide) (Nat.le_of_ble_eq_true rfl) ln_RX1_73 dX1_totalSize_23 (fun gr15 => ?_)
      refine wq_iadd dX1_totalSize_26 ?_
      refine wq_istore_n (lv' := [(1, vi (s12.1 + (J10 2 (43 * t + 3 + (w32 s12.2).toNat) 1))), (0, vr Z 1 t), (2, vi s12.2)]) dX1_totalSize_27 rfl (by decide) rfl ?_
      refine wq_iinc (lv' := [(2, vi (s12.2 + 1)), (1, vi (s12.1 + (J10 2 (43 * t + 3 + (w32 s12.2).toNat) 1))), (0, vr Z 1 t)]) dX1_totalSize_28 2 rfl (by decide) rfl ?_
      refine wq_goto 10 dX1_totalSize_31 (by decide) ?_
      exact WQ.loc [2, 1, 0] rfl (bk7 _ _ _)
    · exact WQ.loc [1] rfl (ex8 _ _ _)
  · refine wq_iload_n dX1_totalSize_34 0 rfl rfl ?_
    exact wq_iret rfl rfl dX1_totalSize_35

theorem ln_RX1_83 : Cond.methodLink RX1 83 Lib.Math.max.name ∈ lw_good := li_5 147 (by decide +kernel) (by decide +kernel)
noncomputable def f_G_longestBody_w4 (v0 : Nat) (s : Int × Int) (I : Mem) : Option (((Int × Int) ⊕ (Int)) × Mem) :=
if (w32 s.2) < 40 then
if 0 ≤ (w32 s.2) ∧ (w32 s.2) < 40 then
some (.inl ((imx s.1 (I 2 (43 * v0 + 3 + (w32 s.2).toNat) 1)), (s.2 + 1)), I)
else none
else
some (.inr s.1, I)

noncomputable def f_G_longestBody (t : Nat) (I : Mem) : Option ((Int) × Mem) :=
if t < 12 then
bnd (whl (f_G_longestBody_w4 t) (0, 0) I) fun r16 J17 =>
some (r16, J17)
else none
set_option maxRecDepth 20000 in
theorem R_G_longestBody (Z : ZT) (t : Nat) (I : Mem) (r : Int) (J : Mem) (hf : f_G_longestBody t I = some (r, J)) : Runs Z yX1_longestBody cX1_longestBody 3 (some .int) 2 [vr Z 1 t] I (some (vi r), J) := by
  refine Runs.of (rv := fun x => some (vi x)) (by decide +kernel) (Nat.le_of_ble_eq_true rfl) hf (fun gr => ?_)
  unfold f_G_longestBody
  refine WQ.loc [0] (lv' := [(0, vr Z 1 t)]) rfl ?_
  refine wq_grd (fun ht => ?_)
  refine wq_iconst dX1_longestBody_0 ?_
  refine wq_istore_n (lv' := [(1, vi 0), (0, vr Z 1 t)]) dX1_longestBody_1 rfl (by decide) rfl ?_
  refine wq_iconst dX1_longestBody_2 ?_
  refine wq_istore_n (lv' := [(2, vi 0), (1, vi 0), (0, vr Z 1 t)]) dX1_longestBody_3 rfl (by decide) rfl ?_
  refine WQ.loc [2, 1, 0] (lv' := [(0, vr Z 1 t), (1, vi 0), (2, vi 0)]) rfl ?_
  refine wq_loopS (fun s11 => [(0, vr Z 1 t), (1, vi s11.1), (2, vi s11.2)]) 30 (fun r16 => [(1, vi r16)]) (fun κ5 bk6 ex7 gr10 s11 J9 => ?_) (fun gr18 r16 J17 => ?_) gr _ rfl
  · unfold f_G_longestBody_w4
    refine wq_iload_n dX1_longestBody_4 2 rfl rfl ?_
    refine wq_bipush dX1_longestBody_5 (by decide) ?_
    refine wq_icmp_ge 30 dX1_longestBody_7 (by decide) rfl rfl (fun c15 => ?_) (fun c15 => ?_)
    · refine wq_iload_n dX1_longestBody_10 1 rfl rfl ?_
      refine wq_aload_n dX1_longestBody_11 0 rfl rfl ?_
      refine g_1_2 ht ln_RX1_21 dX1_longestBody_12 ?_
      refine wq_iload_n dX1_longestBody_15 2 rfl rfl ?_
      refine wq_grd (fun g12 => ?_)
      refine wq_aald (k := 13) (i := t) (t0 := 4) rfl rfl ht rfl rfl (m := 40) g12 (Nat.le_refl _) dX1_longestBody_16 ?_
      have hb13 : (43 * t + 3 + (w32 s11.2).toNat) < 516 := by omega
      refine wq_pV (v := vi (J9 2 (43 * t + 3 + (w32 s11.2).toNat) 1)) M_Row_many (R_Row_many Z (43 * t + 3 + (w32 s11.2).toNat) _ _ _ (if_pos hb13)) (ob_2 hb13) rfl rfl (by decide) (by decide) (Nat.le_of_ble_eq_true rfl) ln_RX1_73 dX1_longestBody_17 (fun gr14 => ?_)
      refine wq_max (by decide) (Nat.le_of_ble_eq_true rfl) ln_RX1_83 mt_max_s mt_i mt_max_c dX1_longestBody_20 ?_
      refine wq_istore_n (lv' := [(1, vi (imx s11.1 (J9 2 (43 * t + 3 + (w32 s11.2).toNat) 1))), (0, vr Z 1 t), (2, vi s11.2)]) dX1_longestBody_23 rfl (by decide) rfl ?_
      refine wq_iinc (lv' := [(2, vi (s11.2 + 1)), (1, vi (imx s11.1 (J9 2 (43 * t + 3 + (w32 s11.2).toNat) 1))), (0, vr Z 1 t)]) dX1_longestBody_24 2 rfl (by decide) rfl ?_
      refine wq_goto 4 dX1_longestBody_27 (by decide) ?_
      exact WQ.loc [2, 1, 0] rfl (bk6 _ _ _)
    · exact WQ.loc [1] rfl (ex7 _ _ _)
  · refine wq_iload_n dX1_longestBody_30 0 rfl rfl ?_
    exact wq_iret rfl rfl dX1_longestBody_31

theorem ln_RX1_93 : Cond.methodLink RX1 93 yX1_lengthOf ∈ lw_good := li_3 181 (by decide +kernel) (by decide +kernel)
theorem ln_RX1_89 : Cond.methodLink RX1 89 yX5_at ∈ lw_good := li_3 180 (by decide +kernel) (by decide +kernel)
noncomputable def f_G_textLength_w4 (v0 : Nat) (s : Int × Int) (I : Mem) : Option (((Int × Int) ⊕ (Int)) × Mem) :=
if (w32 s.2) < (w32 (I 2 (43 * v0) 1)) then
bnd (f_Row_at (43 * v0) s.2 I) fun x4 J3 =>
bnd (f_G_lengthOf v0 x4 J3) fun x7 J6 =>
some (.inl ((s.1 + x7), (s.2 + 1)), J6)
else
some (.inr s.1, I)

noncomputable def f_G_textLength (t : Nat) (I : Mem) : Option ((Int) × Mem) :=
if t < 12 then
bnd (whl (f_G_textLength_w4 t) (0, 0) I) fun r24 J25 =>
some (r24, J25)
else none
set_option maxRecDepth 20000 in
theorem R_G_textLength (Z : ZT) (t : Nat) (I : Mem) (r : Int) (J : Mem) (hf : f_G_textLength t I = some (r, J)) : Runs Z yX1_textLength cX1_textLength 3 (some .int) 2 [vr Z 1 t] I (some (vi r), J) := by
  refine Runs.of (rv := fun x => some (vi x)) (by decide +kernel) (Nat.le_of_ble_eq_true rfl) hf (fun gr => ?_)
  unfold f_G_textLength
  refine WQ.loc [0] (lv' := [(0, vr Z 1 t)]) rfl ?_
  refine wq_grd (fun ht => ?_)
  refine wq_iconst dX1_textLength_0 ?_
  refine wq_istore_n (lv' := [(1, vi 0), (0, vr Z 1 t)]) dX1_textLength_1 rfl (by decide) rfl ?_
  refine wq_iconst dX1_textLength_2 ?_
  refine wq_istore_n (lv' := [(2, vi 0), (1, vi 0), (0, vr Z 1 t)]) dX1_textLength_3 rfl (by decide) rfl ?_
  refine WQ.loc [2, 1, 0] (lv' := [(0, vr Z 1 t), (1, vi 0), (2, vi 0)]) rfl ?_
  refine wq_loopS (fun s15 => [(0, vr Z 1 t), (1, vi s15.1), (2, vi s15.2)]) 36 (fun r24 => [(1, vi r24)]) (fun κ9 bk10 ex11 gr14 s15 J13 => ?_) (fun gr26 r24 J25 => ?_) gr _ rfl
  · unfold f_G_textLength_w4
    refine wq_iload_n dX1_textLength_4 2 rfl rfl ?_
    refine wq_aload_n dX1_textLength_5 0 rfl rfl ?_
    refine g_1_0 ht ln_RX1_12 dX1_textLength_6 ?_
    refine wq_pV (v := vi (J13 2 (43 * t) 1)) M_Row_many (R_Row_many Z (43 * t) _ _ _ (if_pos (by omega))) (ob_2 (by omega)) rfl rfl (by decide) (by decide) (Nat.le_of_ble_eq_true rfl) ln_RX1_73 dX1_textLength_9 (fun gr16 => ?_)
    refine wq_icmp_ge 36 dX1_textLength_12 (by decide) rfl rfl (fun c23 => ?_) (fun c23 => ?_)
    · refine wq_iload_n dX1_textLength_15 1 rfl rfl ?_
      refine wq_aload_n dX1_textLength_16 0 rfl rfl ?_
      refine wq_aload_n dX1_textLength_17 0 rfl rfl ?_
      refine g_1_0 ht ln_RX1_12 dX1_textLength_18 ?_
      refine wq_iload_n dX1_textLength_21 2 rfl rfl ?_
      refine wq_cVi M_Row_at (R_Row_at Z (43 * t) s15.2 _) (ob_2 (by omega)) rfl rfl (by decide) (by decide) (Nat.le_of_ble_eq_true rfl) ln_RX1_89 dX1_textLength_22 (fun gr17 x19 J18 => ?_)
      refine wq_cVi M_G_lengthOf (R_G_lengthOf Z t x19 _) (ob_1 ht) rfl rfl (by decide) (by decide) (Nat.le_of_ble_eq_true rfl) ln_RX1_93 dX1_textLength_25 (fun gr20 x22 J21 => ?_)
      refine wq_iadd dX1_textLength_28 ?_
      refine wq_istore_n (lv' := [(1, vi (s15.1 + x22)), (0, vr Z 1 t), (2, vi s15.2)]) dX1_textLength_29 rfl (by decide) rfl ?_
      refine wq_iinc (lv' := [(2, vi (s15.2 + 1)), (1, vi (s15.1 + x22)), (0, vr Z 1 t)]) dX1_textLength_30 2 rfl (by decide) rfl ?_
      refine wq_goto 4 dX1_textLength_33 (by decide) ?_
      exact WQ.loc [2, 1, 0] rfl (bk10 _ _ _)
    · exact WQ.loc [1] rfl (ex11 _ _ _)
  · refine wq_iload_n dX1_textLength_36 0 rfl rfl ?_
    exact wq_iret rfl rfl dX1_textLength_37

theorem M_Row_timesOf : MwV yX5_timesOf cX5_timesOf 4 (some .int) 1 := ⟨li_4 171 (by decide +kernel) (by decide +kernel), li_4 169 (by decide +kernel) (by decide +kernel), li_4 170 (by decide +kernel) (by decide +kernel), li_1 3 (by decide +kernel) (by decide +kernel), by decide +kernel⟩
theorem ln_RX1_96 : Cond.methodLink RX1 96 yX5_timesOf ∈ lw_good := li_6 45 (by decide +kernel) (by decide +kernel)
noncomputable def f_G_usesOf_w14 (v0 : Nat) (v1 : Int) (s : Int × Int) (I : Mem) : Option (((Int × Int) ⊕ (Int)) × Mem) :=
if (w32 s.2) < 40 then
if 0 ≤ (w32 s.2) ∧ (w32 s.2) < 40 then
bnd (f_Row_timesOf (43 * v0 + 3 + (w32 s.2).toNat) (26 + v1) I) fun x8 J7 =>
some (.inl ((s.1 + x8), (s.2 + 1)), J7)
else none
else
some (.inr s.1, I)

noncomputable def f_G_usesOf (t : Nat) (a1 : Int) (I : Mem) : Option ((Int) × Mem) :=
if t < 12 then
bnd (f_Row_timesOf (43 * t) (26 + a1) I) fun x3 J2 =>
bnd (whl (f_G_usesOf_w14 t a1) (x3, 0) J2) fun r23 J24 =>
some (r23, J24)
else none
set_option maxRecDepth 20000 in
theorem R_G_usesOf (Z : ZT) (t : Nat) (a1 : Int) (I : Mem) (r : Int) (J : Mem) (hf : f_G_usesOf t a1 I = some (r, J)) : Runs Z yX1_usesOf cX1_usesOf 4 (some .int) 2 [vr Z 1 t, vi a1] I (some (vi r), J) := by
  refine Runs.of (rv := fun x => some (vi x)) (by decide +kernel) (Nat.le_of_ble_eq_true rfl) hf (fun gr => ?_)
  unfold f_G_usesOf
  refine WQ.loc [0, 1] (lv' := [(0, vr Z 1 t), (1, vi a1)]) rfl ?_
  refine wq_grd (fun ht => ?_)
  refine wq_aload_n dX1_usesOf_0 0 rfl rfl ?_
  refine g_1_0 ht ln_RX1_12 dX1_usesOf_1 ?_
  refine wq_bipush dX1_usesOf_4 (by decide) ?_
  refine wq_iload_n dX1_usesOf_6 1 rfl rfl ?_
  refine wq_iadd dX1_usesOf_7 ?_
  refine wq_cVi M_Row_timesOf (R_Row_timesOf Z (43 * t) (26 + a1) _) (ob_2 (by omega)) rfl rfl (by decide) (by decide) (Nat.le_of_ble_eq_true rfl) ln_RX1_96 dX1_usesOf_8 (fun gr1 x3 J2 => ?_)
  refine wq_istore_n (lv' := [(2, vi x3), (0, vr Z 1 t), (1, vi a1)]) dX1_usesOf_11 rfl (by decide) rfl ?_
  refine wq_iconst dX1_usesOf_12 ?_
  refine wq_istore_n (lv' := [(3, vi 0), (2, vi x3), (0, vr Z 1 t), (1, vi a1)]) dX1_usesOf_13 rfl (by decide) rfl ?_
  refine WQ.loc [2, 3, 1, 0] (lv' := [(0, vr Z 1 t), (1, vi a1), (2, vi x3), (3, vi 0)]) rfl ?_
  refine wq_loopS (fun s16 => [(0, vr Z 1 t), (1, vi a1), (2, vi s16.1), (3, vi s16.2)]) 42 (fun r23 => [(2, vi r23)]) (fun κ10 bk11 ex12 gr15 s16 J14 => ?_) (fun gr25 r23 J24 => ?_) gr1 _ rfl
  · unfold f_G_usesOf_w14
    refine wq_iload_n dX1_usesOf_14 3 rfl rfl ?_
    refine wq_bipush dX1_usesOf_15 (by decide) ?_
    refine wq_icmp_ge 42 dX1_usesOf_17 (by decide) rfl rfl (fun c22 => ?_) (fun c22 => ?_)
    · refine wq_iload_n dX1_usesOf_20 2 rfl rfl ?_
      refine wq_aload_n dX1_usesOf_21 0 rfl rfl ?_
      refine g_1_2 ht ln_RX1_21 dX1_usesOf_22 ?_
      refine wq_iload_n dX1_usesOf_25 3 rfl rfl ?_
      refine wq_grd (fun g17 => ?_)
      refine wq_aald (k := 13) (i := t) (t0 := 4) rfl rfl ht rfl rfl (m := 40) g17 (Nat.le_refl _) dX1_usesOf_26 ?_
      have hb18 : (43 * t + 3 + (w32 s16.2).toNat) < 516 := by omega
      refine wq_bipush dX1_usesOf_27 (by decide) ?_
      refine wq_iload_n dX1_usesOf_29 1 rfl rfl ?_
      refine wq_iadd dX1_usesOf_30 ?_
      refine wq_cVi M_Row_timesOf (R_Row_timesOf Z (43 * t + 3 + (w32 s16.2).toNat) (26 + a1) _) (ob_2 hb18) rfl rfl (by decide) (by decide) (Nat.le_of_ble_eq_true rfl) ln_RX1_96 dX1_usesOf_31 (fun gr19 x21 J20 => ?_)
      refine wq_iadd dX1_usesOf_34 ?_
      refine wq_istore_n (lv' := [(2, vi (s16.1 + x21)), (0, vr Z 1 t), (1, vi a1), (3, vi s16.2)]) dX1_usesOf_35 rfl (by decide) rfl ?_
      refine wq_iinc (lv' := [(3, vi (s16.2 + 1)), (2, vi (s16.1 + x21)), (0, vr Z 1 t), (1, vi a1)]) dX1_usesOf_36 3 rfl (by decide) rfl ?_
      refine wq_goto 14 dX1_usesOf_39 (by decide) ?_
      exact WQ.loc [2, 3, 1, 0] rfl (bk11 _ _ _)
    · exact WQ.loc [2] rfl (ex12 _ _ _)
  · refine wq_iload_n dX1_usesOf_42 0 rfl rfl ?_
    exact wq_iret rfl rfl dX1_usesOf_43

noncomputable def f_G_lowestFree_w2 (v0 : Nat) (s : Int) (I : Mem) : Option (((Int) ⊕ (Int)) × Mem) :=
if (w32 s) < 40 then
if 0 ≤ (w32 s) ∧ (w32 s) < 40 then
if (w32 (I 2 (43 * v0 + 3 + (w32 s).toNat) 1)) = 0 then
some (.inr (s), I)
else
some (.inl (s + 1), I)
else none
else
some (.inr ((-1)), I)

noncomputable def f_G_lowestFree (t : Nat) (I : Mem) : Option ((Int) × Mem) :=
if t < 12 then
whl (f_G_lowestFree_w2 t) 0 I
else none
set_option maxRecDepth 20000 in
theorem R_G_lowestFree (Z : ZT) (t : Nat) (I : Mem) (r : Int) (J : Mem) (hf : f_G_lowestFree t I = some (r, J)) : Runs Z yX1_lowestFree cX1_lowestFree 2 (some .int) 2 [vr Z 1 t] I (some (vi r), J) := by
  refine Runs.of (rv := fun x => some (vi x)) (by decide +kernel) (Nat.le_of_ble_eq_true rfl) hf (fun gr => ?_)
  unfold f_G_lowestFree
  refine WQ.loc [0] (lv' := [(0, vr Z 1 t)]) rfl ?_
  refine wq_grd (fun ht => ?_)
  refine wq_iconst dX1_lowestFree_0 ?_
  refine wq_istore_n (lv' := [(1, vi 0), (0, vr Z 1 t)]) dX1_lowestFree_1 rfl (by decide) rfl ?_
  refine WQ.loc [1, 0] (lv' := [(0, vr Z 1 t), (1, vi 0)]) rfl ?_
  refine wq_loop (fun s12 => [(0, vr Z 1 t), (1, vi s12)]) (fun κ6 bk7 hr9 gr11 s12 J10 => ?_) gr _ rfl
  unfold f_G_lowestFree_w2
  refine wq_iload_n dX1_lowestFree_2 1 rfl rfl ?_
  refine wq_bipush dX1_lowestFree_3 (by decide) ?_
  refine wq_icmp_ge 28 dX1_lowestFree_5 (by decide) rfl rfl (fun c17 => ?_) (fun c17 => ?_)
  · refine wq_aload_n dX1_lowestFree_8 0 rfl rfl ?_
    refine g_1_2 ht ln_RX1_21 dX1_lowestFree_9 ?_
    refine wq_iload_n dX1_lowestFree_12 1 rfl rfl ?_
    refine wq_grd (fun g13 => ?_)
    refine wq_aald (k := 13) (i := t) (t0 := 4) rfl rfl ht rfl rfl (m := 40) g13 (Nat.le_refl _) dX1_lowestFree_13 ?_
    have hb14 : (43 * t + 3 + (w32 s12).toNat) < 516 := by omega
    refine wq_pV (v := vi (J10 2 (43 * t + 3 + (w32 s12).toNat) 1)) M_Row_many (R_Row_many Z (43 * t + 3 + (w32 s12).toNat) _ _ _ (if_pos hb14)) (ob_2 hb14) rfl rfl (by decide) (by decide) (Nat.le_of_ble_eq_true rfl) ln_RX1_73 dX1_lowestFree_14 (fun gr15 => ?_)
    refine wq_if_ne 22 dX1_lowestFree_17 (by decide) rfl (fun c16 => ?_) (fun c16 => ?_)
    · refine wq_iload_n dX1_lowestFree_20 1 rfl rfl ?_
      exact wq_iret rfl ((hr9 _ _).trans rfl) dX1_lowestFree_21
    · refine wq_iinc (lv' := [(1, vi (s12 + 1)), (0, vr Z 1 t)]) dX1_lowestFree_22 1 rfl (by decide) rfl ?_
      refine wq_goto 2 dX1_lowestFree_25 (by decide) ?_
      exact WQ.loc [1, 0] rfl (bk7 _ _ _)
  · refine wq_iconst dX1_lowestFree_28 ?_
    exact wq_iret rfl ((hr9 _ _).trans rfl) dX1_lowestFree_29

noncomputable def f_G_placeOver_w5 (v0 : Nat) (v1 : Nat) (v2 : Int) (s : Int × Int) (I : Mem) : Option (((Int × Int) ⊕ (Int)) × Mem) :=
if (w32 s.2) < (w32 (I 2 v1 1)) then
bnd (f_Row_at v1 s.2 I) fun x5 J4 =>
bnd (f_G_lengthOf v0 x5 J4) fun x8 J7 =>
if (w32 v2) < (w32 (s.1 + x8)) then
some (.inr (s.2), J7)
else
some (.inl ((s.1 + x8), (s.2 + 1)), J7)
else
some (.inr (((I 2 v1 1) - 1)), I)

noncomputable def f_G_placeOver (t : Nat) (a1 : Nat) (a2 : Int) (I : Mem) : Option ((Int) × Mem) :=
if t < 12 then
if a1 < 516 then
whl (f_G_placeOver_w5 t a1 a2) (0, 0) I
else none
else none
set_option maxRecDepth 20000 in
theorem R_G_placeOver (Z : ZT) (t : Nat) (a1 : Nat) (a2 : Int) (I : Mem) (r : Int) (J : Mem) (hf : f_G_placeOver t a1 a2 I = some (r, J)) : Runs Z yX1_placeOver cX1_placeOver 5 (some .int) 2 [vr Z 1 t, vr Z 2 a1, vi a2] I (some (vi r), J) := by
  refine Runs.of (rv := fun x => some (vi x)) (by decide +kernel) (Nat.le_of_ble_eq_true rfl) hf (fun gr => ?_)
  unfold f_G_placeOver
  refine WQ.loc [0, 1, 2] (lv' := [(0, vr Z 1 t), (1, vr Z 2 a1), (2, vi a2)]) rfl ?_
  refine wq_grd (fun ht => ?_)
  refine wq_grd (fun h1 => ?_)
  refine wq_iconst dX1_placeOver_0 ?_
  refine wq_istore_n (lv' := [(3, vi 0), (0, vr Z 1 t), (1, vr Z 2 a1), (2, vi a2)]) dX1_placeOver_1 rfl (by decide) rfl ?_
  refine wq_iconst dX1_placeOver_2 ?_
  refine wq_istore (lv' := [(4, vi 0), (3, vi 0), (0, vr Z 1 t), (1, vr Z 2 a1), (2, vi a2)]) dX1_placeOver_3 (by decide) rfl ?_
  refine WQ.loc [2, 3, 4, 1, 0] (lv' := [(0, vr Z 1 t), (1, vr Z 2 a1), (2, vi a2), (3, vi 0), (4, vi 0)]) rfl ?_
  refine wq_loop (fun s17 => [(0, vr Z 1 t), (1, vr Z 2 a1), (2, vi a2), (3, vi s17.1), (4, vi s17.2)]) (fun κ11 bk12 hr14 gr16 s17 J15 => ?_) gr _ rfl
  unfold f_G_placeOver_w5
  refine wq_iload dX1_placeOver_5 4 rfl ?_
  refine wq_aload_n dX1_placeOver_7 1 rfl rfl ?_
  refine wq_pV (v := vi (J15 2 a1 1)) M_Row_many (R_Row_many Z a1 _ _ _ (if_pos h1)) (ob_2 h1) rfl rfl (by decide) (by decide) (Nat.le_of_ble_eq_true rfl) ln_RX1_73 dX1_placeOver_8 (fun gr18 => ?_)
  refine wq_icmp_ge 41 dX1_placeOver_11 (by decide) rfl rfl (fun c27 => ?_) (fun c27 => ?_)
  · refine wq_iload_n dX1_placeOver_14 3 rfl rfl ?_
    refine wq_aload_n dX1_placeOver_15 0 rfl rfl ?_
    refine wq_aload_n dX1_placeOver_16 1 rfl rfl ?_
    refine wq_iload dX1_placeOver_17 4 rfl ?_
    refine wq_cVi M_Row_at (R_Row_at Z a1 s17.2 _) (ob_2 h1) rfl rfl (by decide) (by decide) (Nat.le_of_ble_eq_true rfl) ln_RX1_89 dX1_placeOver_19 (fun gr20 x22 J21 => ?_)
    refine wq_cVi M_G_lengthOf (R_G_lengthOf Z t x22 _) (ob_1 ht) rfl rfl (by decide) (by decide) (Nat.le_of_ble_eq_true rfl) ln_RX1_93 dX1_placeOver_22 (fun gr23 x25 J24 => ?_)
    refine wq_iadd dX1_placeOver_25 ?_
    refine wq_istore_n (lv' := [(3, vi (s17.1 + x25)), (0, vr Z 1 t), (1, vr Z 2 a1), (2, vi a2), (4, vi s17.2)]) dX1_placeOver_26 rfl (by decide) rfl ?_
    refine wq_iload_n dX1_placeOver_27 3 rfl rfl ?_
    refine wq_iload_n dX1_placeOver_28 0 rfl rfl ?_
    refine wq_icmp_ge 35 dX1_placeOver_29 (by decide) rfl rfl (fun c26 => ?_) (fun c26 => ?_)
    · refine wq_iload dX1_placeOver_32 4 rfl ?_
      exact wq_iret rfl ((hr14 _ _).trans rfl) dX1_placeOver_34
    · refine wq_iinc (lv' := [(4, vi (s17.2 + 1)), (3, vi (s17.1 + x25)), (0, vr Z 1 t), (1, vr Z 2 a1), (2, vi a2)]) dX1_placeOver_35 4 rfl (by decide) rfl ?_
      refine wq_goto 5 dX1_placeOver_38 (by decide) ?_
      exact WQ.loc [2, 3, 4, 1, 0] rfl (bk12 _ _ _)
  · refine wq_aload_n dX1_placeOver_41 1 rfl rfl ?_
    refine wq_pV (v := vi (J15 2 a1 1)) M_Row_many (R_Row_many Z a1 _ _ _ (if_pos h1)) (ob_2 h1) rfl rfl (by decide) (by decide) (Nat.le_of_ble_eq_true rfl) ln_RX1_73 dX1_placeOver_42 (fun gr19 => ?_)
    refine wq_iconst dX1_placeOver_45 ?_
    refine wq_isub dX1_placeOver_46 ?_
    exact wq_iret rfl ((hr14 _ _).trans rfl) dX1_placeOver_47

theorem M_G_placeOver : MwV yX1_placeOver cX1_placeOver 5 (some .int) 2 := ⟨li_6 81 (by decide +kernel) (by decide +kernel), li_6 79 (by decide +kernel) (by decide +kernel), li_6 80 (by decide +kernel) (by decide +kernel), li_1 2 (by decide +kernel) (by decide +kernel), by decide +kernel⟩
theorem ln_RX1_99 : Cond.methodLink RX1 99 yX1_placeOver ∈ lw_good := li_6 78 (by decide +kernel) (by decide +kernel)
noncomputable def f_G_letterOfText_w28 (v0 : Nat) (v2 : Nat) (v4 : Int) (v5 : Int) (s : Int × Int) (I : Mem) : Option (((Int × Int) ⊕ (Int)) × Mem) :=
if (w32 s.2) < (w32 v5) then
bnd (f_Row_at v2 s.2 I) fun x6 J5 =>
bnd (f_G_lengthOf v0 x6 J5) fun x9 J8 =>
some (.inl ((s.1 - x9), (s.2 + 1)), J8)
else
some (.inr s.1, I)

noncomputable def f_G_letterOfText_w10 (v0 : Nat) (s : Nat × Int × Int) (I : Mem) : Option (((Nat × Int × Int) ⊕ (Int)) × Mem) :=
if s.1 < 516 then
if 40 < (w32 s.2.2) then
some (.inr ((-1)), I)
else
bnd (f_G_placeOver v0 s.1 s.2.1 I) fun x3 J2 =>
bnd (whl (f_G_letterOfText_w28 v0 s.1 s.2.2 x3) (s.2.1, 0) J2) fun r25 J26 =>
bnd (f_Row_at s.1 x3 J26) fun x30 J29 =>
if (w32 x30) < 26 then
some (.inr (x30), J29)
else
bnd (f_G_body v0 (x30 - 26) J29) fun x33 J32 =>
if x33 < 516 then
some (.inl (x33, r25, (s.2.2 + 1)), J32)
else none
else none

noncomputable def f_G_letterOfText (t : Nat) (a1 : Int) (I : Mem) : Option ((Int) × Mem) :=
if t < 12 then
whl (f_G_letterOfText_w10 t) ((43 * t), a1, 0) I
else none
set_option maxRecDepth 20000 in
theorem R_G_letterOfText (Z : ZT) (t : Nat) (a1 : Int) (I : Mem) (r : Int) (J : Mem) (hf : f_G_letterOfText t a1 I = some (r, J)) : Runs Z yX1_letterOfText cX1_letterOfText 7 (some .int) 3 [vr Z 1 t, vi a1] I (some (vi r), J) := by
  refine Runs.of (rv := fun x => some (vi x)) (by decide +kernel) (Nat.le_of_ble_eq_true rfl) hf (fun gr => ?_)
  unfold f_G_letterOfText
  refine WQ.loc [0, 1] (lv' := [(0, vr Z 1 t), (1, vi a1)]) rfl ?_
  refine wq_grd (fun ht => ?_)
  refine wq_aload_n dX1_letterOfText_0 0 rfl rfl ?_
  refine g_1_0 ht ln_RX1_12 dX1_letterOfText_1 ?_
  refine wq_astore_n (lv' := [(2, vr Z 2 (43 * t)), (0, vr Z 1 t), (1, vi a1)]) dX1_letterOfText_4 rfl (by decide) rfl ?_
  refine wq_iload_n dX1_letterOfText_5 2 rfl rfl ?_
  refine wq_istore_n (lv' := [(3, vi a1), (2, vr Z 2 (43 * t)), (0, vr Z 1 t), (1, vi a1)]) dX1_letterOfText_6 rfl (by decide) rfl ?_
  refine wq_iconst dX1_letterOfText_7 ?_
  refine wq_istore (lv' := [(4, vi 0), (3, vi a1), (2, vr Z 2 (43 * t)), (0, vr Z 1 t), (1, vi a1)]) dX1_letterOfText_8 (by decide) rfl ?_
  refine WQ.loc [3, 2, 1, 0] (lv' := [(0, vr Z 1 t), (2, vr Z 2 (43 * t)), (3, vi a1), (4, vi 0)]) rfl ?_
  refine wq_loop (fun s43 => [(0, vr Z 1 t), (2, vr Z 2 s43.1), (3, vi s43.2.1), (4, vi s43.2.2)]) (fun κ37 bk38 hr40 gr42 s43 J41 => ?_) gr _ rfl
  unfold f_G_letterOfText_w10
  refine wq_grd (fun hs43_2 => ?_)
  refine wq_iload dX1_letterOfText_10 3 rfl ?_
  refine wq_bipush dX1_letterOfText_12 (by decide) ?_
  refine wq_icmp_gt 88 dX1_letterOfText_14 (by decide) rfl rfl (fun c72 => ?_) (fun c72 => ?_)
  · refine wq_iconst dX1_letterOfText_88 ?_
    exact wq_iret rfl ((hr40 _ _).trans rfl) dX1_letterOfText_89
  · refine wq_aload_n dX1_letterOfText_17 0 rfl rfl ?_
    refine wq_aload_n dX1_letterOfText_18 1 rfl rfl ?_
    refine wq_iload_n dX1_letterOfText_19 2 rfl rfl ?_
    refine wq_cVi M_G_placeOver (R_G_placeOver Z t s43.1 s43.2.1 _) (ob_1 ht) rfl rfl (by decide) (by decide) (Nat.le_of_ble_eq_true rfl) ln_RX1_99 dX1_letterOfText_20 (fun gr44 x46 J45 => ?_)
    refine wq_istore (lv' := [(5, vi x46), (0, vr Z 1 t), (2, vr Z 2 s43.1), (3, vi s43.2.1), (4, vi s43.2.2)]) dX1_letterOfText_23 (by decide) rfl ?_
    refine wq_iconst dX1_letterOfText_25 ?_
    refine wq_istore (lv' := [(6, vi 0), (5, vi x46), (0, vr Z 1 t), (2, vr Z 2 s43.1), (3, vi s43.2.1), (4, vi s43.2.2)]) dX1_letterOfText_26 (by decide) rfl ?_
    refine WQ.loc [2, 3, 4, 5, 1, 0] (lv' := [(0, vr Z 1 t), (2, vr Z 2 s43.1), (3, vi s43.2.1), (4, vi s43.2.2), (5, vi x46), (6, vi 0)]) rfl ?_
    refine wq_loopS (fun s53 => [(0, vr Z 1 t), (2, vr Z 2 s43.1), (3, vi s53.1), (4, vi s43.2.2), (5, vi x46), (6, vi s53.2)]) 54 (fun r61 => [(0, vr Z 1 t), (2, vr Z 2 s43.1), (3, vi r61), (4, vi s43.2.2), (5, vi x46)]) (fun κ47 bk48 ex49 gr52 s53 J51 => ?_) (fun gr63 r61 J62 => ?_) gr44 _ rfl
    · unfold f_G_letterOfText_w28
      refine wq_iload dX1_letterOfText_28 5 rfl ?_
      refine wq_iload dX1_letterOfText_30 4 rfl ?_
      refine wq_icmp_ge 54 dX1_letterOfText_32 (by decide) rfl rfl (fun c60 => ?_) (fun c60 => ?_)
      · refine wq_iload_n dX1_letterOfText_35 2 rfl rfl ?_
        refine wq_aload_n dX1_letterOfText_36 0 rfl rfl ?_
        refine wq_aload_n dX1_letterOfText_37 1 rfl rfl ?_
        refine wq_iload dX1_letterOfText_38 5 rfl ?_
        refine wq_cVi M_Row_at (R_Row_at Z s43.1 s53.2 _) (ob_2 hs43_2) rfl rfl (by decide) (by decide) (Nat.le_of_ble_eq_true rfl) ln_RX1_89 dX1_letterOfText_40 (fun gr54 x56 J55 => ?_)
        refine wq_cVi M_G_lengthOf (R_G_lengthOf Z t x56 _) (ob_1 ht) rfl rfl (by decide) (by decide) (Nat.le_of_ble_eq_true rfl) ln_RX1_93 dX1_letterOfText_43 (fun gr57 x59 J58 => ?_)
        refine wq_isub dX1_letterOfText_46 ?_
        refine wq_istore_n (lv' := [(3, vi (s53.1 - x59)), (0, vr Z 1 t), (2, vr Z 2 s43.1), (4, vi s43.2.2), (5, vi x46), (6, vi s53.2)]) dX1_letterOfText_47 rfl (by decide) rfl ?_
        refine wq_iinc (lv' := [(6, vi (s53.2 + 1)), (3, vi (s53.1 - x59)), (0, vr Z 1 t), (2, vr Z 2 s43.1), (4, vi s43.2.2), (5, vi x46)]) dX1_letterOfText_48 5 rfl (by decide) rfl ?_
        refine wq_goto 28 dX1_letterOfText_51 (by decide) ?_
        exact WQ.loc [2, 3, 1, 4, 5, 0] rfl (bk48 _ _ _)
      · exact WQ.loc [0, 1, 2, 3, 4] rfl (ex49 _ _ _)
    · refine wq_aload_n dX1_letterOfText_54 1 rfl rfl ?_
      refine wq_iload dX1_letterOfText_55 4 rfl ?_
      refine wq_cVi M_Row_at (R_Row_at Z s43.1 x46 _) (ob_2 hs43_2) rfl rfl (by decide) (by decide) (Nat.le_of_ble_eq_true rfl) ln_RX1_89 dX1_letterOfText_57 (fun gr64 x66 J65 => ?_)
      refine wq_istore (lv' := [(6, vi x66), (0, vr Z 1 t), (2, vr Z 2 s43.1), (3, vi r61), (4, vi s43.2.2), (5, vi x46)]) dX1_letterOfText_60 (by decide) rfl ?_
      refine wq_iload dX1_letterOfText_62 0 rfl ?_
      refine wq_bipush dX1_letterOfText_64 (by decide) ?_
      refine wq_icmp_ge 72 dX1_letterOfText_66 (by decide) rfl rfl (fun c71 => ?_) (fun c71 => ?_)
      · refine wq_iload dX1_letterOfText_69 0 rfl ?_
        exact wq_iret rfl ((hr40 _ _).trans rfl) dX1_letterOfText_71
      · refine wq_aload_n dX1_letterOfText_72 1 rfl rfl ?_
        refine wq_iload dX1_letterOfText_73 0 rfl ?_
        refine wq_bipush dX1_letterOfText_75 (by decide) ?_
        refine wq_isub dX1_letterOfText_77 ?_
        refine wq_cVr 2 M_G_body (R_G_body Z t (x66 - 26) _) (ob_1 ht) rfl rfl (by decide) (by decide) (Nat.le_of_ble_eq_true rfl) ln_RX1_69 dX1_letterOfText_78 (fun gr67 x69 J68 => ?_)
        refine wq_grd (fun g70 => ?_)
        refine wq_astore_n (lv' := [(2, vr Z 2 x69), (6, vi x66), (0, vr Z 1 t), (3, vi r61), (4, vi s43.2.2), (5, vi x46)]) dX1_letterOfText_81 rfl (by decide) rfl ?_
        refine wq_iinc (lv' := [(4, vi (s43.2.2 + 1)), (2, vr Z 2 x69), (6, vi x66), (0, vr Z 1 t), (3, vi r61), (5, vi x46)]) dX1_letterOfText_82 4 rfl (by decide) rfl ?_
        refine wq_goto 10 dX1_letterOfText_85 (by decide) ?_
        exact WQ.loc [3, 1, 4, 0] rfl (bk38 _ _ _)

theorem M_Row_isPair : MwV yX5_isPair cX5_isPair 3 (some .boolean) 2 := ⟨li_4 123 (by decide +kernel) (by decide +kernel), li_4 121 (by decide +kernel) (by decide +kernel), li_4 122 (by decide +kernel) (by decide +kernel), li_1 3 (by decide +kernel) (by decide +kernel), by decide +kernel⟩
theorem ln_RX1_113 : Cond.methodLink RX1 113 yX5_isPair ∈ lw_good := li_4 120 (by decide +kernel) (by decide +kernel)
noncomputable def f_G_keptOf_w2 (v0 : Nat) (v1 : Int) (v2 : Int) (s : Int) (I : Mem) : Option (((Int) ⊕ (Int)) × Mem) :=
if (w32 s) < 40 then
if 0 ≤ (w32 s) ∧ (w32 s) < 40 then
bnd (f_Row_isPair (43 * v0 + 3 + (w32 s).toNat) v1 v2 I) fun x5 J4 =>
if (w32 x5) = 0 then
some (.inl (s + 1), J4)
else
some (.inr (s), J4)
else none
else
some (.inr ((-1)), I)

noncomputable def f_G_keptOf (t : Nat) (a1 : Int) (a2 : Int) (I : Mem) : Option ((Int) × Mem) :=
if t < 12 then
whl (f_G_keptOf_w2 t a1 a2) 0 I
else none
set_option maxRecDepth 20000 in
theorem R_G_keptOf (Z : ZT) (t : Nat) (a1 : Int) (a2 : Int) (I : Mem) (r : Int) (J : Mem) (hf : f_G_keptOf t a1 a2 I = some (r, J)) : Runs Z yX1_keptOf cX1_keptOf 4 (some .int) 2 [vr Z 1 t, vi a1, vi a2] I (some (vi r), J) := by
  refine Runs.of (rv := fun x => some (vi x)) (by decide +kernel) (Nat.le_of_ble_eq_true rfl) hf (fun gr => ?_)
  unfold f_G_keptOf
  refine WQ.loc [0, 1, 2] (lv' := [(0, vr Z 1 t), (1, vi a1), (2, vi a2)]) rfl ?_
  refine wq_grd (fun ht => ?_)
  refine wq_iconst dX1_keptOf_0 ?_
  refine wq_istore_n (lv' := [(3, vi 0), (0, vr Z 1 t), (1, vi a1), (2, vi a2)]) dX1_keptOf_1 rfl (by decide) rfl ?_
  refine WQ.loc [1, 2, 3, 0] (lv' := [(0, vr Z 1 t), (1, vi a1), (2, vi a2), (3, vi 0)]) rfl ?_
  refine wq_loop (fun s14 => [(0, vr Z 1 t), (1, vi a1), (2, vi a2), (3, vi s14)]) (fun κ8 bk9 hr11 gr13 s14 J12 => ?_) gr _ rfl
  unfold f_G_keptOf_w2
  refine wq_iload_n dX1_keptOf_2 3 rfl rfl ?_
  refine wq_bipush dX1_keptOf_3 (by decide) ?_
  refine wq_icmp_ge 30 dX1_keptOf_5 (by decide) rfl rfl (fun c21 => ?_) (fun c21 => ?_)
  · refine wq_aload_n dX1_keptOf_8 0 rfl rfl ?_
    refine g_1_2 ht ln_RX1_21 dX1_keptOf_9 ?_
    refine wq_iload_n dX1_keptOf_12 3 rfl rfl ?_
    refine wq_grd (fun g15 => ?_)
    refine wq_aald (k := 13) (i := t) (t0 := 4) rfl rfl ht rfl rfl (m := 40) g15 (Nat.le_refl _) dX1_keptOf_13 ?_
    have hb16 : (43 * t + 3 + (w32 s14).toNat) < 516 := by omega
    refine wq_iload_n dX1_keptOf_14 1 rfl rfl ?_
    refine wq_iload_n dX1_keptOf_15 2 rfl rfl ?_
    refine wq_cVi M_Row_isPair (R_Row_isPair Z (43 * t + 3 + (w32 s14).toNat) a1 a2 _) (ob_2 hb16) rfl rfl (by decide) (by decide) (Nat.le_of_ble_eq_true rfl) ln_RX1_113 dX1_keptOf_16 (fun gr17 x19 J18 => ?_)
    refine wq_if_eq 24 dX1_keptOf_19 (by decide) rfl (fun c20 => ?_) (fun c20 => ?_)
    · refine wq_iinc (lv' := [(3, vi (s14 + 1)), (0, vr Z 1 t), (1, vi a1), (2, vi a2)]) dX1_keptOf_24 3 rfl (by decide) rfl ?_
      refine wq_goto 2 dX1_keptOf_27 (by decide) ?_
      exact WQ.loc [1, 2, 3, 0] rfl (bk9 _ _ _)
    · refine wq_iload_n dX1_keptOf_22 3 rfl rfl ?_
      exact wq_iret rfl ((hr11 _ _).trans rfl) dX1_keptOf_23
  · refine wq_iconst dX1_keptOf_30 ?_
    exact wq_iret rfl ((hr11 _ _).trans rfl) dX1_keptOf_31

theorem M_Row_makeRoom : MwV yX5_makeRoom cX5_makeRoom 4 (some .boolean) 1 := ⟨li_2 93 (by decide +kernel) (by decide +kernel), li_2 92 (by decide +kernel) (by decide +kernel), lw_in 0 (by decide +kernel) (by decide +kernel), li_1 3 (by decide +kernel) (by decide +kernel), by decide +kernel⟩
theorem ln_RX5_19 : Cond.methodLink RX5 19 yX5_makeRoom ∈ lw_good := li_2 90 (by decide +kernel) (by decide +kernel)
noncomputable def f_Row_put (t : Nat) (a1 : Int) (I : Mem) : Option ((Unit) × Mem) :=
if t < 516 then
bnd (f_Row_makeRoom t ((I 2 t 1) + 1) I) fun x3 J2 =>
if (w32 x3) = 0 then
some ((), J2)
else
if 0 ≤ (w32 (J2 2 t 1)) ∧ (w32 (J2 2 t 1)) < (J2 2 t 2) then
ltI (sI J2 12 t (w32 (J2 2 t 1)).toNat a1) fun J5 =>
ltI (sI J5 2 t 1 ((J5 2 t 1) + 1)) fun J6 =>
some ((), J6)
else none
else none
set_option maxRecDepth 20000 in
theorem R_Row_put (Z : ZT) (t : Nat) (a1 : Int) (I : Mem) (r : Unit) (J : Mem) (hf : f_Row_put t a1 I = some (r, J)) : Runs Z yX5_put cX5_put 2 (none) 2 [vr Z 2 t, vi a1] I (none, J) := by
  refine Runs.of (rv := fun _ => none) (by decide +kernel) (Nat.le_of_ble_eq_true rfl) hf (fun gr => ?_)
  unfold f_Row_put
  refine WQ.loc [0, 1] (lv' := [(0, vr Z 2 t), (1, vi a1)]) rfl ?_
  refine wq_grd (fun ht => ?_)
  refine wq_aload_n dX5_put_0 0 rfl rfl ?_
  refine wq_aload_n dX5_put_1 0 rfl rfl ?_
  refine g_2_1 ht ln_RX5_15 dX5_put_2 ?_
  refine wq_iconst dX5_put_5 ?_
  refine wq_iadd dX5_put_6 ?_
  refine wq_cVi M_Row_makeRoom (R_Row_makeRoom Z t ((I 2 t 1) + 1) _) (ob_2 ht) rfl rfl (by decide) (by decide) (Nat.le_of_ble_eq_true rfl) ln_RX5_19 dX5_put_7 (fun gr1 x3 J2 => ?_)
  refine wq_if_eq 33 dX5_put_10 (by decide) rfl (fun c7 => ?_) (fun c7 => ?_)
  · exact wq_vret rfl rfl dX5_put_33
  · refine wq_aload_n dX5_put_13 0 rfl rfl ?_
    refine g_2_0 ht ln_RX5_9 dX5_put_14 ?_
    refine wq_aload_n dX5_put_17 0 rfl rfl ?_
    refine g_2_1 ht ln_RX5_15 dX5_put_18 ?_
    refine wq_iload_n dX5_put_21 1 rfl rfl ?_
    refine wq_grd (fun g4 => ?_)
    refine wq_iast (k := 12) (i := t) (fun K hK => by show arI _ (K 2 _ 2).toNat _ = _; rw [hK]) ht rfl rfl (m := (J2 2 t 2)) g4 (Nat.le_refl _) (by decide) (by decide) (by decide) dX5_put_22 (fun J5 => ?_)
    refine wq_aload_n dX5_put_23 0 rfl rfl ?_
    refine wq_dup dX5_put_24 rfl ?_
    refine g_2_1 ht ln_RX5_15 dX5_put_25 ?_
    refine wq_iconst dX5_put_28 ?_
    refine wq_iadd dX5_put_29 ?_
    refine p_2_1 ht ln_RX5_15 dX5_put_30 (fun J6 => ?_)
    exact wq_vret rfl rfl dX5_put_33

noncomputable def f_Row_putAll (t : Nat) (a1 : Nat) (I : Mem) : Option ((Unit) × Mem) :=
if t < 516 then
if a1 < 516 then
bnd (f_Row_makeRoom t ((I 2 t 1) + (I 2 a1 1)) I) fun x3 J2 =>
if (w32 x3) = 0 then
some ((), J2)
else
if 0 ≤ (0 : Int) ∧ 0 ≤ (w32 (J2 2 t 1)) ∧ 0 ≤ (w32 (J2 2 a1 1)) ∧ (0 : Int) + (w32 (J2 2 a1 1)) ≤ (J2 2 a1 2) ∧ (w32 (J2 2 t 1)) + (w32 (J2 2 a1 1)) ≤ (J2 2 t 2) then
ltI (cpI J2 12 a1 0 t (w32 (J2 2 t 1)).toNat (w32 (J2 2 a1 1)).toNat) fun J5 =>
ltI (sI J5 2 t 1 ((J5 2 t 1) + (J5 2 a1 1))) fun J6 =>
some ((), J6)
else none
else none
else none
set_option maxRecDepth 20000 in
theorem R_Row_putAll (Z : ZT) (t : Nat) (a1 : Nat) (I : Mem) (r : Unit) (J : Mem) (hf : f_Row_putAll t a1 I = some (r, J)) : Runs Z yX5_putAll cX5_putAll 2 (none) 2 [vr Z 2 t, vr Z 2 a1] I (none, J) := by
  refine Runs.of (rv := fun _ => none) (by decide +kernel) (Nat.le_of_ble_eq_true rfl) hf (fun gr => ?_)
  unfold f_Row_putAll
  refine WQ.loc [0, 1] (lv' := [(0, vr Z 2 t), (1, vr Z 2 a1)]) rfl ?_
  refine wq_grd (fun ht => ?_)
  refine wq_grd (fun h1 => ?_)
  refine wq_aload_n dX5_putAll_0 0 rfl rfl ?_
  refine wq_aload_n dX5_putAll_1 0 rfl rfl ?_
  refine g_2_1 ht ln_RX5_15 dX5_putAll_2 ?_
  refine wq_aload_n dX5_putAll_5 1 rfl rfl ?_
  refine g_2_1 h1 ln_RX5_15 dX5_putAll_6 ?_
  refine wq_iadd dX5_putAll_9 ?_
  refine wq_cVi M_Row_makeRoom (R_Row_makeRoom Z t ((I 2 t 1) + (I 2 a1 1)) _) (ob_2 ht) rfl rfl (by decide) (by decide) (Nat.le_of_ble_eq_true rfl) ln_RX5_19 dX5_putAll_10 (fun gr1 x3 J2 => ?_)
  refine wq_if_eq 49 dX5_putAll_13 (by decide) rfl (fun c7 => ?_) (fun c7 => ?_)
  · exact wq_vret rfl rfl dX5_putAll_49
  · refine wq_aload_n dX5_putAll_16 1 rfl rfl ?_
    refine g_2_0 h1 ln_RX5_9 dX5_putAll_17 ?_
    refine wq_iconst dX5_putAll_20 ?_
    refine wq_aload_n dX5_putAll_21 0 rfl rfl ?_
    refine g_2_0 ht ln_RX5_9 dX5_putAll_22 ?_
    refine wq_aload_n dX5_putAll_25 0 rfl rfl ?_
    refine g_2_1 ht ln_RX5_15 dX5_putAll_26 ?_
    refine wq_aload_n dX5_putAll_29 1 rfl rfl ?_
    refine g_2_1 h1 ln_RX5_15 dX5_putAll_30 ?_
    refine wq_grd (fun g4 => ?_)
    refine wq_acopy h1 ht rfl rfl rfl g4 (by decide) (Nat.le_of_ble_eq_true rfl) ln_RX5_23 dX5_putAll_33 (fun J5 => ?_)
    refine wq_aload_n dX5_putAll_36 0 rfl rfl ?_
    refine wq_dup dX5_putAll_37 rfl ?_
    refine g_2_1 ht ln_RX5_15 dX5_putAll_38 ?_
    refine wq_aload_n dX5_putAll_41 1 rfl rfl ?_
    refine g_2_1 h1 ln_RX5_15 dX5_putAll_42 ?_
    refine wq_iadd dX5_putAll_45 ?_
    refine p_2_1 ht ln_RX5_15 dX5_putAll_46 (fun J6 => ?_)
    exact wq_vret rfl rfl dX5_putAll_49

theorem M_Row_putAll : MwV yX5_putAll cX5_putAll 2 (none) 1 := ⟨li_3 167 (by decide +kernel) (by decide +kernel), li_3 165 (by decide +kernel) (by decide +kernel), li_3 166 (by decide +kernel) (by decide +kernel), li_1 3 (by decide +kernel) (by decide +kernel), by decide +kernel⟩
theorem ln_RX5_29 : Cond.methodLink RX5 29 yX5_putAll ∈ lw_good := li_3 164 (by decide +kernel) (by decide +kernel)
noncomputable def f_Row_takeFrom (t : Nat) (a1 : Nat) (I : Mem) : Option ((Unit) × Mem) :=
if t < 516 then
if a1 < 516 then
ltI (sI I 2 t 1 0) fun J1 =>
bnd (f_Row_putAll t a1 J1) fun _ J3 =>
some ((), J3)
else none
else none
set_option maxRecDepth 20000 in
theorem R_Row_takeFrom (Z : ZT) (t : Nat) (a1 : Nat) (I : Mem) (r : Unit) (J : Mem) (hf : f_Row_takeFrom t a1 I = some (r, J)) : Runs Z yX5_takeFrom cX5_takeFrom 2 (none) 3 [vr Z 2 t, vr Z 2 a1] I (none, J) := by
  refine Runs.of (rv := fun _ => none) (by decide +kernel) (Nat.le_of_ble_eq_true rfl) hf (fun gr => ?_)
  unfold f_Row_takeFrom
  refine WQ.loc [0, 1] (lv' := [(0, vr Z 2 t), (1, vr Z 2 a1)]) rfl ?_
  refine wq_grd (fun ht => ?_)
  refine wq_grd (fun h1 => ?_)
  refine wq_aload_n dX5_takeFrom_0 0 rfl rfl ?_
  refine wq_iconst dX5_takeFrom_1 ?_
  refine p_2_1 ht ln_RX5_15 dX5_takeFrom_2 (fun J1 => ?_)
  refine wq_aload_n dX5_takeFrom_5 0 rfl rfl ?_
  refine wq_aload_n dX5_takeFrom_6 1 rfl rfl ?_
  refine wq_cVv M_Row_putAll (R_Row_putAll Z t a1 _) (ob_2 ht) rfl rfl (by decide) (by decide) (Nat.le_of_ble_eq_true rfl) ln_RX5_29 dX5_takeFrom_7 (fun gr2 _ J3 => ?_)
  exact wq_vret rfl rfl dX5_takeFrom_10

theorem ln_RX5_33 : Cond.methodLink RX5 33 yX5_timesOf ∈ lw_good := li_4 168 (by decide +kernel) (by decide +kernel)
noncomputable def f_Row_open_w55 (v0 : Nat) (v1 : Int) (v2 : Nat) (v3 : Int) (v4 : Int) (s : Int × Int) (I : Mem) : Option (((Int × Int) ⊕ (Unit)) × Mem) :=
if (w32 s.2) < 0 then
some (.inr (), I)
else
if 0 ≤ (w32 s.2) ∧ (w32 s.2) < (I 2 v0 2) then
if (w32 (I 12 v0 (w32 s.2).toNat)) = (w32 v1) then
if 0 ≤ (0 : Int) ∧ 0 ≤ (w32 (s.1 - (I 2 v2 1))) ∧ 0 ≤ (w32 (I 2 v2 1)) ∧ (0 : Int) + (w32 (I 2 v2 1)) ≤ (I 2 v2 2) ∧ (w32 (s.1 - (I 2 v2 1))) + (w32 (I 2 v2 1)) ≤ (I 2 v0 2) then
ltI (cpI I 12 v2 0 v0 (w32 (s.1 - (I 2 v2 1))).toNat (w32 (I 2 v2 1)).toNat) fun J11 =>
some (.inl ((s.1 - (I 2 v2 1)), (s.2 + (-1))), J11)
else none
else
if 0 ≤ (w32 (s.1 + (-1))) ∧ (w32 (s.1 + (-1))) < (I 2 v0 2) then
ltI (sI I 12 v0 (w32 (s.1 + (-1))).toNat (I 12 v0 (w32 s.2).toNat)) fun J9 =>
some (.inl ((s.1 + (-1)), (s.2 + (-1))), J9)
else none
else none

noncomputable def f_Row_open (t : Nat) (a1 : Int) (a2 : Nat) (I : Mem) : Option ((Int) × Mem) :=
if t < 516 then
if a2 < 516 then
bnd (f_Row_timesOf t a1 I) fun x3 J2 =>
if (w32 x3) = 0 then
some (0, J2)
else
if (w32 (J2 2 a2 1)) = 0 then
some (0, J2)
else
bnd (f_Row_makeRoom t ((J2 2 t 1) + (x3 * ((J2 2 a2 1) - 1))) J2) fun x6 J5 =>
if (w32 x6) = 0 then
some (0, J5)
else
bnd (whl (f_Row_open_w55 t a1 a2 x3 ((J2 2 t 1) + (x3 * ((J2 2 a2 1) - 1)))) (((J2 2 t 1) + (x3 * ((J2 2 a2 1) - 1))), ((J5 2 t 1) - 1)) J5) fun r28 J29 =>
ltI (sI J29 2 t 1 ((J2 2 t 1) + (x3 * ((J2 2 a2 1) - 1)))) fun J31 =>
some (x3, J31)
else none
else none
set_option maxRecDepth 20000 in
theorem R_Row_open (Z : ZT) (t : Nat) (a1 : Int) (a2 : Nat) (I : Mem) (r : Int) (J : Mem) (hf : f_Row_open t a1 a2 I = some (r, J)) : Runs Z yX5_open cX5_open 7 (some .int) 2 [vr Z 2 t, vi a1, vr Z 2 a2] I (some (vi r), J) := by
  refine Runs.of (rv := fun x => some (vi x)) (by decide +kernel) (Nat.le_of_ble_eq_true rfl) hf (fun gr => ?_)
  unfold f_Row_open
  refine WQ.loc [0, 1, 2] (lv' := [(0, vr Z 2 t), (1, vi a1), (2, vr Z 2 a2)]) rfl ?_
  refine wq_grd (fun ht => ?_)
  refine wq_grd (fun h2 => ?_)
  refine wq_aload_n dX5_open_0 0 rfl rfl ?_
  refine wq_iload_n dX5_open_1 1 rfl rfl ?_
  refine wq_cVi M_Row_timesOf (R_Row_timesOf Z t a1 _) (ob_2 ht) rfl rfl (by decide) (by decide) (Nat.le_of_ble_eq_true rfl) ln_RX5_33 dX5_open_2 (fun gr1 x3 J2 => ?_)
  refine wq_istore_n (lv' := [(3, vi x3), (0, vr Z 2 t), (1, vi a1), (2, vr Z 2 a2)]) dX5_open_5 rfl (by decide) rfl ?_
  refine wq_aload_n dX5_open_6 1 rfl rfl ?_
  refine g_2_1 ht ln_RX5_15 dX5_open_7 ?_
  refine wq_iload_n dX5_open_10 0 rfl rfl ?_
  refine wq_aload_n dX5_open_11 3 rfl rfl ?_
  refine g_2_1 h2 ln_RX5_15 dX5_open_12 ?_
  refine wq_iconst dX5_open_15 ?_
  refine wq_isub dX5_open_16 ?_
  refine wq_imul dX5_open_17 ?_
  refine wq_iadd dX5_open_18 ?_
  refine wq_istore (lv' := [(4, vi ((J2 2 t 1) + (x3 * ((J2 2 a2 1) - 1)))), (3, vi x3), (0, vr Z 2 t), (1, vi a1), (2, vr Z 2 a2)]) dX5_open_19 (by decide) rfl ?_
  refine wq_iload_n dX5_open_21 1 rfl rfl ?_
  refine wq_if_eq 41 dX5_open_22 (by decide) rfl (fun c34 => ?_) (fun c34 => ?_)
  · refine wq_iconst dX5_open_41 ?_
    exact wq_iret rfl rfl dX5_open_42
  · refine wq_aload_n dX5_open_25 4 rfl rfl ?_
    refine g_2_1 h2 ln_RX5_15 dX5_open_26 ?_
    refine wq_if_eq 41 dX5_open_29 (by decide) rfl (fun c33 => ?_) (fun c33 => ?_)
    · refine wq_iconst dX5_open_41 ?_
      exact wq_iret rfl rfl dX5_open_42
    · refine wq_aload_n dX5_open_32 2 rfl rfl ?_
      refine wq_iload dX5_open_33 0 rfl ?_
      refine wq_cVi M_Row_makeRoom (R_Row_makeRoom Z t ((J2 2 t 1) + (x3 * ((J2 2 a2 1) - 1))) _) (ob_2 ht) rfl rfl (by decide) (by decide) (Nat.le_of_ble_eq_true rfl) ln_RX5_19 dX5_open_35 (fun gr4 x6 J5 => ?_)
      refine wq_if_ne 43 dX5_open_38 (by decide) rfl (fun c32 => ?_) (fun c32 => ?_)
      · refine wq_iconst dX5_open_41 ?_
        exact wq_iret rfl rfl dX5_open_42
      · refine wq_iload dX5_open_43 0 rfl ?_
        refine wq_istore (lv' := [(5, vi ((J2 2 t 1) + (x3 * ((J2 2 a2 1) - 1)))), (4, vi ((J2 2 t 1) + (x3 * ((J2 2 a2 1) - 1)))), (3, vi x3), (0, vr Z 2 t), (1, vi a1), (2, vr Z 2 a2)]) dX5_open_45 (by decide) rfl ?_
        refine wq_aload_n dX5_open_47 3 rfl rfl ?_
        refine g_2_1 ht ln_RX5_15 dX5_open_48 ?_
        refine wq_iconst dX5_open_51 ?_
        refine wq_isub dX5_open_52 ?_
        refine wq_istore (lv' := [(6, vi ((J5 2 t 1) - 1)), (5, vi ((J2 2 t 1) + (x3 * ((J2 2 a2 1) - 1)))), (4, vi ((J2 2 t 1) + (x3 * ((J2 2 a2 1) - 1)))), (3, vi x3), (0, vr Z 2 t), (1, vi a1), (2, vr Z 2 a2)]) dX5_open_53 (by decide) rfl ?_
        refine WQ.loc [4, 5, 6, 3, 2, 1, 0] (lv' := [(0, vr Z 2 t), (1, vi a1), (2, vr Z 2 a2), (3, vi x3), (4, vi ((J2 2 t 1) + (x3 * ((J2 2 a2 1) - 1)))), (5, vi ((J2 2 t 1) + (x3 * ((J2 2 a2 1) - 1)))), (6, vi ((J5 2 t 1) - 1))]) rfl ?_
        refine wq_loopS (fun s20 => [(0, vr Z 2 t), (1, vi a1), (2, vr Z 2 a2), (3, vi x3), (4, vi ((J2 2 t 1) + (x3 * ((J2 2 a2 1) - 1)))), (5, vi s20.1), (6, vi s20.2)]) 124 (fun _ => [(0, vr Z 2 t), (3, vi x3), (4, vi ((J2 2 t 1) + (x3 * ((J2 2 a2 1) - 1))))]) (fun κ14 bk15 ex16 gr19 s20 J18 => ?_) (fun gr30 r28 J29 => ?_) gr4 _ rfl
        · unfold f_Row_open_w55
          refine wq_iload dX5_open_55 6 rfl ?_
          refine wq_if_lt 124 dX5_open_57 (by decide) rfl (fun c27 => ?_) (fun c27 => ?_)
          · exact WQ.loc [0, 3, 4] rfl (ex16 _ _ _)
          · refine wq_aload_n dX5_open_60 0 rfl rfl ?_
            refine g_2_0 ht ln_RX5_9 dX5_open_61 ?_
            refine wq_iload dX5_open_64 6 rfl ?_
            refine wq_grd (fun g21 => ?_)
            refine wq_iald (k := 12) (i := t) rfl ht rfl rfl (m := (J18 2 t 2)) g21 (Nat.le_refl _) dX5_open_66 ?_
            refine wq_iload_n dX5_open_67 1 rfl rfl ?_
            refine wq_icmp_ne 101 dX5_open_68 (by decide) rfl rfl (fun c26 => ?_) (fun c26 => ?_)
            · refine wq_iload dX5_open_71 5 rfl ?_
              refine wq_aload_n dX5_open_73 2 rfl rfl ?_
              refine g_2_1 h2 ln_RX5_15 dX5_open_74 ?_
              refine wq_isub dX5_open_77 ?_
              refine wq_istore (lv' := [(5, vi (s20.1 - (J18 2 a2 1))), (0, vr Z 2 t), (1, vi a1), (2, vr Z 2 a2), (3, vi x3), (4, vi ((J2 2 t 1) + (x3 * ((J2 2 a2 1) - 1)))), (6, vi s20.2)]) dX5_open_78 (by decide) rfl ?_
              refine wq_aload_n dX5_open_80 3 rfl rfl ?_
              refine g_2_0 h2 ln_RX5_9 dX5_open_81 ?_
              refine wq_iconst dX5_open_84 ?_
              refine wq_aload_n dX5_open_85 1 rfl rfl ?_
              refine g_2_0 ht ln_RX5_9 dX5_open_86 ?_
              refine wq_iload dX5_open_89 0 rfl ?_
              refine wq_aload_n dX5_open_91 3 rfl rfl ?_
              refine g_2_1 h2 ln_RX5_15 dX5_open_92 ?_
              refine wq_grd (fun g24 => ?_)
              refine wq_acopy h2 ht rfl rfl rfl g24 (by decide) (Nat.le_of_ble_eq_true rfl) ln_RX5_23 dX5_open_95 (fun J25 => ?_)
              refine wq_goto 118 dX5_open_98 (by decide) ?_
              refine wq_iinc (lv' := [(6, vi (s20.2 + (-1))), (5, vi (s20.1 - (J18 2 a2 1))), (0, vr Z 2 t), (1, vi a1), (2, vr Z 2 a2), (3, vi x3), (4, vi ((J2 2 t 1) + (x3 * ((J2 2 a2 1) - 1))))]) dX5_open_118 6 rfl (by decide) rfl ?_
              refine wq_goto 55 dX5_open_121 (by decide) ?_
              exact WQ.loc [2, 3, 4, 5, 6, 1, 0] rfl (bk15 _ _ _)
            · refine wq_iinc (lv' := [(5, vi (s20.1 + (-1))), (0, vr Z 2 t), (1, vi a1), (2, vr Z 2 a2), (3, vi x3), (4, vi ((J2 2 t 1) + (x3 * ((J2 2 a2 1) - 1)))), (6, vi s20.2)]) dX5_open_101 5 rfl (by decide) rfl ?_
              refine wq_aload_n dX5_open_104 1 rfl rfl ?_
              refine g_2_0 ht ln_RX5_9 dX5_open_105 ?_
              refine wq_iload dX5_open_108 0 rfl ?_
              refine wq_aload_n dX5_open_110 1 rfl rfl ?_
              refine g_2_0 ht ln_RX5_9 dX5_open_111 ?_
              refine wq_iload dX5_open_114 6 rfl ?_
              refine wq_iald (k := 12) (i := t) rfl ht rfl rfl (m := (J18 2 t 2)) g21 (Nat.le_refl _) dX5_open_116 ?_
              refine wq_grd (fun g22 => ?_)
              refine wq_iast (k := 12) (i := t) (fun K hK => by show arI _ (K 2 _ 2).toNat _ = _; rw [hK]) ht rfl rfl (m := (J18 2 t 2)) g22 (Nat.le_refl _) (by decide) (by decide) (by decide) dX5_open_117 (fun J23 => ?_)
              refine wq_iinc (lv' := [(6, vi (s20.2 + (-1))), (5, vi (s20.1 + (-1))), (0, vr Z 2 t), (1, vi a1), (2, vr Z 2 a2), (3, vi x3), (4, vi ((J2 2 t 1) + (x3 * ((J2 2 a2 1) - 1))))]) dX5_open_118 6 rfl (by decide) rfl ?_
              refine wq_goto 55 dX5_open_121 (by decide) ?_
              exact WQ.loc [2, 3, 4, 5, 6, 1, 0] rfl (bk15 _ _ _)
        · refine wq_aload_n dX5_open_124 0 rfl rfl ?_
          refine wq_iload dX5_open_125 2 rfl ?_
          refine p_2_1 ht ln_RX5_15 dX5_open_127 (fun J31 => ?_)
          refine wq_iload_n dX5_open_130 1 rfl rfl ?_
          exact wq_iret rfl rfl dX5_open_131

theorem ln_RX9_71 : Cond.methodLink RX9 71 yX1_startRow ∈ lw_good := li_4 143 (by decide +kernel) (by decide +kernel)
theorem M_Stp_noteUses : MwV yX9_noteUses cX9_noteUses 5 (none) 2 := ⟨li_4 147 (by decide +kernel) (by decide +kernel), li_4 146 (by decide +kernel) (by decide +kernel), lw_in 33 (by decide +kernel) (by decide +kernel), li_1 4 (by decide +kernel) (by decide +kernel), by decide +kernel⟩
theorem ln_RX9_67 : Cond.methodLink RX9 67 yX9_noteUses ∈ lw_good := li_4 144 (by decide +kernel) (by decide +kernel)
theorem ln_RX9_63 : Cond.methodLink RX9 63 yX1_body ∈ lw_good := li_4 150 (by decide +kernel) (by decide +kernel)
noncomputable def f_Stp_countUses_w2 (v1 : Nat) (s : Int) (I : Mem) : Option (((Int) ⊕ (Unit)) × Mem) :=
if (w32 s) < 40 then
if 0 ≤ (w32 s) ∧ (w32 s) < 40 then
ltI (sI I 17 0 (w32 s).toNat 0) fun J2 =>
some (.inl (s + 1), J2)
else none
else
some (.inr (), I)

noncomputable def f_Stp_countUses_w32 (v1 : Nat) (s : Int) (I : Mem) : Option (((Int) ⊕ (Unit)) × Mem) :=
if (w32 s) < 40 then
bnd (f_G_body v1 s I) fun x23 J22 =>
if x23 < 516 then
bnd (f_Stp_noteUses x23 1 J22) fun _ J26 =>
some (.inl (s + 1), J26)
else none
else
some (.inr (), I)

noncomputable def f_Stp_countUses (a1 : Nat) (I : Mem) : Option ((Unit) × Mem) :=
if a1 < 12 then
bnd (whl (f_Stp_countUses_w2 a1) 0 I) fun r14 J15 =>
bnd (f_Stp_noteUses (43 * a1) 1 J15) fun _ J19 =>
bnd (whl (f_Stp_countUses_w32 a1) 0 J19) fun r44 J45 =>
some ((), J45)
else none
set_option maxRecDepth 20000 in
theorem R_Stp_countUses (Z : ZT) (a1 : Nat) (I : Mem) (r : Unit) (J : Mem) (hf : f_Stp_countUses a1 I = some (r, J)) : Runs Z yX9_countUses cX9_countUses 3 (none) 3 [vr Z 3 0, vr Z 1 a1] I (none, J) := by
  refine Runs.of (rv := fun _ => none) (by decide +kernel) (Nat.le_of_ble_eq_true rfl) hf (fun gr => ?_)
  unfold f_Stp_countUses
  refine WQ.loc [0, 1] (lv' := [(0, vr Z 3 0), (1, vr Z 1 a1)]) rfl ?_
  refine wq_grd (fun h1 => ?_)
  refine wq_iconst dX9_countUses_0 ?_
  refine wq_istore_n (lv' := [(2, vi 0), (0, vr Z 3 0), (1, vr Z 1 a1)]) dX9_countUses_1 rfl (by decide) rfl ?_
  refine WQ.loc [1, 2, 0] (lv' := [(0, vr Z 3 0), (1, vr Z 1 a1), (2, vi 0)]) rfl ?_
  refine wq_loopS (fun s10 => [(0, vr Z 3 0), (1, vr Z 1 a1), (2, vi s10)]) 21 (fun _ => [(0, vr Z 3 0), (1, vr Z 1 a1)]) (fun κ4 bk5 ex6 gr9 s10 J8 => ?_) (fun gr16 r14 J15 => ?_) gr _ rfl
  · unfold f_Stp_countUses_w2
    refine wq_iload_n dX9_countUses_2 2 rfl rfl ?_
    refine wq_bipush dX9_countUses_3 (by decide) ?_
    refine wq_icmp_ge 21 dX9_countUses_5 (by decide) rfl rfl (fun c13 => ?_) (fun c13 => ?_)
    · refine wq_aload_n dX9_countUses_8 0 rfl rfl ?_
      refine g_3_1 ln_RX9_18 dX9_countUses_9 ?_
      refine wq_iload_n dX9_countUses_12 2 rfl rfl ?_
      refine wq_iconst dX9_countUses_13 ?_
      refine wq_grd (fun g11 => ?_)
      refine wq_iast (k := 17) (i := 0) (fun _ _ => rfl) (by decide) rfl rfl (m := 40) g11 (Nat.le_refl _) (by decide) (by decide) (by decide) dX9_countUses_14 (fun J12 => ?_)
      refine wq_iinc (lv' := [(2, vi (s10 + 1)), (0, vr Z 3 0), (1, vr Z 1 a1)]) dX9_countUses_15 2 rfl (by decide) rfl ?_
      refine wq_goto 2 dX9_countUses_18 (by decide) ?_
      exact WQ.loc [1, 2, 0] rfl (bk5 _ _ _)
    · exact WQ.loc [0, 1] rfl (ex6 _ _ _)
  · refine wq_aload_n dX9_countUses_21 0 rfl rfl ?_
    refine wq_aload_n dX9_countUses_22 1 rfl rfl ?_
    refine wq_pV (v := vr Z 2 (43 * a1)) M_G_startRow (R_G_startRow Z a1 _ _ _ (if_pos h1)) (ob_1 h1) rfl rfl (by decide) (by decide) (Nat.le_of_ble_eq_true rfl) ln_RX9_71 dX9_countUses_23 (fun gr17 => ?_)
    refine wq_iconst dX9_countUses_26 ?_
    refine wq_cVv M_Stp_noteUses (R_Stp_noteUses Z (43 * a1) 1 _) ob_3 rfl rfl (by decide) (by decide) (Nat.le_of_ble_eq_true rfl) ln_RX9_67 dX9_countUses_27 (fun gr18 _ J19 => ?_)
    refine wq_iconst dX9_countUses_30 ?_
    refine wq_istore_n (lv' := [(2, vi 0), (0, vr Z 3 0), (1, vr Z 1 a1)]) dX9_countUses_31 rfl (by decide) rfl ?_
    refine WQ.loc [1, 2, 0] (lv' := [(0, vr Z 3 0), (1, vr Z 1 a1), (2, vi 0)]) rfl ?_
    refine wq_loopS (fun s35 => [(0, vr Z 3 0), (1, vr Z 1 a1), (2, vi s35)]) 54 (fun _ => []) (fun κ29 bk30 ex31 gr34 s35 J33 => ?_) (fun gr46 r44 J45 => ?_) gr18 _ rfl
    · unfold f_Stp_countUses_w32
      refine wq_iload_n dX9_countUses_32 2 rfl rfl ?_
      refine wq_bipush dX9_countUses_33 (by decide) ?_
      refine wq_icmp_ge 54 dX9_countUses_35 (by decide) rfl rfl (fun c43 => ?_) (fun c43 => ?_)
      · refine wq_aload_n dX9_countUses_38 0 rfl rfl ?_
        refine wq_aload_n dX9_countUses_39 1 rfl rfl ?_
        refine wq_iload_n dX9_countUses_40 2 rfl rfl ?_
        refine wq_cVr 2 M_G_body (R_G_body Z a1 s35 _) (ob_1 h1) rfl rfl (by decide) (by decide) (Nat.le_of_ble_eq_true rfl) ln_RX9_63 dX9_countUses_41 (fun gr36 x38 J37 => ?_)
        refine wq_grd (fun g39 => ?_)
        refine wq_iconst dX9_countUses_44 ?_
        refine wq_cVv M_Stp_noteUses (R_Stp_noteUses Z x38 1 _) ob_3 rfl rfl (by decide) (by decide) (Nat.le_of_ble_eq_true rfl) ln_RX9_67 dX9_countUses_45 (fun gr40 _ J41 => ?_)
        refine wq_iinc (lv' := [(2, vi (s35 + 1)), (0, vr Z 3 0), (1, vr Z 1 a1)]) dX9_countUses_48 2 rfl (by decide) rfl ?_
        refine wq_goto 32 dX9_countUses_51 (by decide) ?_
        exact WQ.loc [1, 2, 0] rfl (bk30 _ _ _)
      · exact WQ.loc [] rfl (ex31 _ _ _)
    · exact wq_vret rfl rfl dX9_countUses_54

theorem ln_RX9_83 : Cond.methodLink RX9 83 yX1_hasRule ∈ lw_good := li_4 155 (by decide +kernel) (by decide +kernel)
noncomputable def f_Stp_lowestHardlyUsed_w2 (v1 : Nat) (s : Int) (I : Mem) : Option (((Int) ⊕ (Int)) × Mem) :=
if (w32 s) < 40 then
if 0 ≤ (w32 s) ∧ (w32 s) < 40 then
if (w32 (I 17 0 (w32 s).toNat)) < 2 then
bnd (f_G_hasRule v1 s I) fun x4 J3 =>
if (w32 x4) = 0 then
some (.inl (s + 1), J3)
else
some (.inr (s), J3)
else
some (.inl (s + 1), I)
else none
else
some (.inr ((-1)), I)

noncomputable def f_Stp_lowestHardlyUsed (a1 : Nat) (I : Mem) : Option ((Int) × Mem) :=
if a1 < 12 then
whl (f_Stp_lowestHardlyUsed_w2 a1) 0 I
else none
set_option maxRecDepth 20000 in
theorem R_Stp_lowestHardlyUsed (Z : ZT) (a1 : Nat) (I : Mem) (r : Int) (J : Mem) (hf : f_Stp_lowestHardlyUsed a1 I = some (r, J)) : Runs Z yX9_lowestHardlyUsed cX9_lowestHardlyUsed 3 (some .int) 3 [vr Z 3 0, vr Z 1 a1] I (some (vi r), J) := by
  refine Runs.of (rv := fun x => some (vi x)) (by decide +kernel) (Nat.le_of_ble_eq_true rfl) hf (fun gr => ?_)
  unfold f_Stp_lowestHardlyUsed
  refine WQ.loc [0, 1] (lv' := [(0, vr Z 3 0), (1, vr Z 1 a1)]) rfl ?_
  refine wq_grd (fun h1 => ?_)
  refine wq_iconst dX9_lowestHardlyUsed_0 ?_
  refine wq_istore_n (lv' := [(2, vi 0), (0, vr Z 3 0), (1, vr Z 1 a1)]) dX9_lowestHardlyUsed_1 rfl (by decide) rfl ?_
  refine WQ.loc [1, 2, 0] (lv' := [(0, vr Z 3 0), (1, vr Z 1 a1), (2, vi 0)]) rfl ?_
  refine wq_loop (fun s14 => [(0, vr Z 3 0), (1, vr Z 1 a1), (2, vi s14)]) (fun κ8 bk9 hr11 gr13 s14 J12 => ?_) gr _ rfl
  unfold f_Stp_lowestHardlyUsed_w2
  refine wq_iload_n dX9_lowestHardlyUsed_2 2 rfl rfl ?_
  refine wq_bipush dX9_lowestHardlyUsed_3 (by decide) ?_
  refine wq_icmp_ge 34 dX9_lowestHardlyUsed_5 (by decide) rfl rfl (fun c21 => ?_) (fun c21 => ?_)
  · refine wq_aload_n dX9_lowestHardlyUsed_8 0 rfl rfl ?_
    refine g_3_1 ln_RX9_18 dX9_lowestHardlyUsed_9 ?_
    refine wq_iload_n dX9_lowestHardlyUsed_12 2 rfl rfl ?_
    refine wq_grd (fun g15 => ?_)
    refine wq_iald (k := 17) (i := 0) rfl (by decide) rfl rfl (m := 40) g15 (Nat.le_refl _) dX9_lowestHardlyUsed_13 ?_
    refine wq_iconst dX9_lowestHardlyUsed_14 ?_
    refine wq_icmp_ge 28 dX9_lowestHardlyUsed_15 (by decide) rfl rfl (fun c20 => ?_) (fun c20 => ?_)
    · refine wq_aload_n dX9_lowestHardlyUsed_18 1 rfl rfl ?_
      refine wq_iload_n dX9_lowestHardlyUsed_19 2 rfl rfl ?_
      refine wq_cVi M_G_hasRule (R_G_hasRule Z a1 s14 _) (ob_1 h1) rfl rfl (by decide) (by decide) (Nat.le_of_ble_eq_true rfl) ln_RX9_83 dX9_lowestHardlyUsed_20 (fun gr16 x18 J17 => ?_)
      refine wq_if_eq 28 dX9_lowestHardlyUsed_23 (by decide) rfl (fun c19 => ?_) (fun c19 => ?_)
      · refine wq_iinc (lv' := [(2, vi (s14 + 1)), (0, vr Z 3 0), (1, vr Z 1 a1)]) dX9_lowestHardlyUsed_28 2 rfl (by decide) rfl ?_
        refine wq_goto 2 dX9_lowestHardlyUsed_31 (by decide) ?_
        exact WQ.loc [1, 2, 0] rfl (bk9 _ _ _)
      · refine wq_iload_n dX9_lowestHardlyUsed_26 2 rfl rfl ?_
        exact wq_iret rfl ((hr11 _ _).trans rfl) dX9_lowestHardlyUsed_27
    · refine wq_iinc (lv' := [(2, vi (s14 + 1)), (0, vr Z 3 0), (1, vr Z 1 a1)]) dX9_lowestHardlyUsed_28 2 rfl (by decide) rfl ?_
      refine wq_goto 2 dX9_lowestHardlyUsed_31 (by decide) ?_
      exact WQ.loc [1, 2, 0] rfl (bk9 _ _ _)
  · refine wq_iconst dX9_lowestHardlyUsed_34 ?_
    exact wq_iret rfl ((hr11 _ _).trans rfl) dX9_lowestHardlyUsed_35

theorem ln_RX3_49 : Cond.methodLink RX3 49 yX5_many ∈ lw_good := li_4 47 (by decide +kernel) (by decide +kernel)
theorem M_PT_notePair : MwV yX3_notePair cX3_notePair 3 (none) 2 := ⟨li_4 72 (by decide +kernel) (by decide +kernel), li_4 71 (by decide +kernel) (by decide +kernel), lw_in 28 (by decide +kernel) (by decide +kernel), li_1 5 (by decide +kernel) (by decide +kernel), by decide +kernel⟩
theorem ln_RX3_103 : Cond.methodLink RX3 103 yX3_notePair ∈ lw_good := li_4 69 (by decide +kernel) (by decide +kernel)
noncomputable def f_PT_noteRow_j66 (v1 : Nat) (v2 : Int) (v4 : Int) (v5 : Int) (v6 : Int)  (e0 : Int) (I : Mem) : Option (((Int × Int) ⊕ (Unit)) × Mem) :=
bnd (f_PT_pairOf v5 v6 I) fun x15 J14 =>
bnd (f_PT_notePair x15 (v2 + v4) J14) fun _ J17 =>
some (.inl (e0, (v4 + 1)), J17)

noncomputable def f_PT_noteRow_j53 (v1 : Nat) (v2 : Int) (v3 : Int) (v4 : Int) (v5 : Int) (v6 : Int)   (I : Mem) : Option (((Int × Int) ⊕ (Unit)) × Mem) :=
if (w32 v5) = (w32 v6) then
f_PT_noteRow_j66 v1 v2 v4 v5 v6 v4 I
else
f_PT_noteRow_j66 v1 v2 v4 v5 v6 v3 I

noncomputable def f_PT_noteRow_w6 (v1 : Nat) (v2 : Int) (s : Int × Int) (I : Mem) : Option (((Int × Int) ⊕ (Unit)) × Mem) :=
if (w32 (s.2 + 1)) < (w32 (I 2 v1 1)) then
bnd (f_Row_at v1 s.2 I) fun x4 J3 =>
bnd (f_Row_at v1 (s.2 + 1) J3) fun x7 J6 =>
if (w32 x4) = (w32 x7) then
if (w32 s.1) = (w32 (s.2 - 1)) then
some (.inl (s.1, (s.2 + 1)), J6)
else
f_PT_noteRow_j53 v1 v2 s.1 s.2 x4 x7 J6
else
f_PT_noteRow_j53 v1 v2 s.1 s.2 x4 x7 J6
else
some (.inr (), I)

noncomputable def f_PT_noteRow (a1 : Nat) (a2 : Int) (I : Mem) : Option ((Unit) × Mem) :=
if a1 < 516 then
bnd (whl (f_PT_noteRow_w6 a1 a2) ((-2), 0) I) fun r70 J71 =>
some ((), J71)
else none
set_option maxRecDepth 20000 in
theorem R_PT_noteRow (Z : ZT) (a1 : Nat) (a2 : Int) (I : Mem) (r : Unit) (J : Mem) (hf : f_PT_noteRow a1 a2 I = some (r, J)) : Runs Z yX3_noteRow cX3_noteRow 7 (none) 3 [vr Z 4 0, vr Z 2 a1, vi a2] I (none, J) := by
  refine Runs.of (rv := fun _ => none) (by decide +kernel) (Nat.le_of_ble_eq_true rfl) hf (fun gr => ?_)
  unfold f_PT_noteRow
  refine WQ.loc [0, 1, 2] (lv' := [(0, vr Z 4 0), (1, vr Z 2 a1), (2, vi a2)]) rfl ?_
  refine wq_grd (fun h1 => ?_)
  refine wq_bipush dX3_noteRow_0 (by decide) ?_
  refine wq_istore_n (lv' := [(3, vi (-2)), (0, vr Z 4 0), (1, vr Z 2 a1), (2, vi a2)]) dX3_noteRow_2 rfl (by decide) rfl ?_
  refine wq_iconst dX3_noteRow_3 ?_
  refine wq_istore (lv' := [(4, vi 0), (3, vi (-2)), (0, vr Z 4 0), (1, vr Z 2 a1), (2, vi a2)]) dX3_noteRow_4 (by decide) rfl ?_
  refine WQ.loc [2, 3, 4, 1, 0] (lv' := [(0, vr Z 4 0), (1, vr Z 2 a1), (2, vi a2), (3, vi (-2)), (4, vi 0)]) rfl ?_
  refine wq_loopS (fun s46 => [(0, vr Z 4 0), (1, vr Z 2 a1), (2, vi a2), (3, vi s46.1), (4, vi s46.2)]) 89 (fun _ => []) (fun κ40 bk41 ex42 gr45 s46 J44 => ?_) (fun gr72 r70 J71 => ?_) gr _ rfl
  · unfold f_PT_noteRow_w6
    refine wq_iload dX3_noteRow_6 4 rfl ?_
    refine wq_iconst dX3_noteRow_8 ?_
    refine wq_iadd dX3_noteRow_9 ?_
    refine wq_aload_n dX3_noteRow_10 1 rfl rfl ?_
    refine wq_pV (v := vi (J44 2 a1 1)) M_Row_many (R_Row_many Z a1 _ _ _ (if_pos h1)) (ob_2 h1) rfl rfl (by decide) (by decide) (Nat.le_of_ble_eq_true rfl) ln_RX3_49 dX3_noteRow_11 (fun gr47 => ?_)
    refine wq_icmp_ge 89 dX3_noteRow_14 (by decide) rfl rfl (fun c69 => ?_) (fun c69 => ?_)
    · refine wq_aload_n dX3_noteRow_17 1 rfl rfl ?_
      refine wq_iload dX3_noteRow_18 4 rfl ?_
      refine wq_cVi M_Row_at (R_Row_at Z a1 s46.2 _) (ob_2 h1) rfl rfl (by decide) (by decide) (Nat.le_of_ble_eq_true rfl) ln_RX3_92 dX3_noteRow_20 (fun gr48 x50 J49 => ?_)
      refine wq_istore (lv' := [(5, vi x50), (0, vr Z 4 0), (1, vr Z 2 a1), (2, vi a2), (3, vi s46.1), (4, vi s46.2)]) dX3_noteRow_23 (by decide) rfl ?_
      refine wq_aload_n dX3_noteRow_25 2 rfl rfl ?_
      refine wq_iload dX3_noteRow_26 5 rfl ?_
      refine wq_iconst dX3_noteRow_28 ?_
      refine wq_iadd dX3_noteRow_29 ?_
      refine wq_cVi M_Row_at (R_Row_at Z a1 (s46.2 + 1) _) (ob_2 h1) rfl rfl (by decide) (by decide) (Nat.le_of_ble_eq_true rfl) ln_RX3_92 dX3_noteRow_30 (fun gr51 x53 J52 => ?_)
      refine wq_istore (lv' := [(6, vi x53), (5, vi x50), (0, vr Z 4 0), (1, vr Z 2 a1), (2, vi a2), (3, vi s46.1), (4, vi s46.2)]) dX3_noteRow_33 (by decide) rfl ?_
      refine wq_iload dX3_noteRow_35 1 rfl ?_
      refine wq_iload dX3_noteRow_37 0 rfl ?_
      have hj54 : ∀ (gr58 : Nat → Nat)   (J57 : Mem), WQ Z (yX3_noteRow, cX3_noteRow, 7, none, 3) I gr58 53 [(0, vr Z 4 0), (1, vr Z 2 a1), (2, vi a2), (3, vi s46.1), (4, vi s46.2), (5, vi x50), (6, vi x53)] [] J57 (f_PT_noteRow_j53 a1 a2 s46.1 s46.2 x50 x53 J57) κ40 := by
        intro gr58 J57
        unfold f_PT_noteRow_j53
        refine wq_iload dX3_noteRow_53 5 rfl ?_
        refine wq_iload dX3_noteRow_55 6 rfl ?_
        have hj59 : ∀ (gr62 : Nat → Nat)  (hj59e0 : Int) (J61 : Mem), WQ Z (yX3_noteRow, cX3_noteRow, 7, none, 3) I gr62 66 [(0, vr Z 4 0), (1, vr Z 2 a1), (2, vi a2), (4, vi s46.2), (5, vi x50), (6, vi x53)] [vi hj59e0] J61 (f_PT_noteRow_j66 a1 a2 s46.2 x50 x53 hj59e0 J61) κ40 := by
          intro gr62 hj59e0 J61
          unfold f_PT_noteRow_j66
          refine wq_istore_n (lv' := [(3, vi hj59e0), (0, vr Z 4 0), (1, vr Z 2 a1), (2, vi a2), (4, vi s46.2), (5, vi x50), (6, vi x53)]) dX3_noteRow_66 rfl (by decide) rfl ?_
          refine wq_aload_n dX3_noteRow_67 1 rfl rfl ?_
          refine wq_aload_n dX3_noteRow_68 1 rfl rfl ?_
          refine wq_iload dX3_noteRow_69 5 rfl ?_
          refine wq_iload dX3_noteRow_71 6 rfl ?_
          refine wq_cVi M_PT_pairOf (R_PT_pairOf Z x50 x53 _) ob_4 rfl rfl (by decide) (by decide) (Nat.le_of_ble_eq_true rfl) ln_RX3_95 dX3_noteRow_73 (fun gr63 x65 J64 => ?_)
          refine wq_iload_n dX3_noteRow_76 3 rfl rfl ?_
          refine wq_iload dX3_noteRow_77 4 rfl ?_
          refine wq_iadd dX3_noteRow_79 ?_
          refine wq_cVv M_PT_notePair (R_PT_notePair Z x65 (a2 + s46.2) _) ob_4 rfl rfl (by decide) (by decide) (Nat.le_of_ble_eq_true rfl) ln_RX3_103 dX3_noteRow_80 (fun gr66 _ J67 => ?_)
          refine wq_iinc (lv' := [(4, vi (s46.2 + 1)), (3, vi hj59e0), (0, vr Z 4 0), (1, vr Z 2 a1), (2, vi a2), (5, vi x50), (6, vi x53)]) dX3_noteRow_83 4 rfl (by decide) rfl ?_
          refine wq_goto 6 dX3_noteRow_86 (by decide) ?_
          exact WQ.loc [2, 3, 4, 1, 0] rfl (bk41 _ _ _)
        refine wq_icmp_ne 65 dX3_noteRow_57 (by decide) rfl rfl (fun c60 => ?_) (fun c60 => ?_)
        · refine wq_iload dX3_noteRow_60 4 rfl ?_
          refine wq_goto 66 dX3_noteRow_62 (by decide) ?_
          exact WQ.loc [0, 1, 2, 4, 5, 6] rfl (hj59 _  _ _)
        · refine wq_iload_n dX3_noteRow_65 3 rfl rfl ?_
          exact WQ.loc [0, 1, 2, 4, 5, 6] rfl (hj59 _  _ _)
      refine wq_icmp_ne 53 dX3_noteRow_39 (by decide) rfl rfl (fun c56 => ?_) (fun c56 => ?_)
      · refine wq_iload_n dX3_noteRow_42 5 rfl rfl ?_
        refine wq_iload dX3_noteRow_43 6 rfl ?_
        refine wq_iconst dX3_noteRow_45 ?_
        refine wq_isub dX3_noteRow_46 ?_
        refine wq_icmp_ne 53 dX3_noteRow_47 (by decide) rfl rfl (fun c55 => ?_) (fun c55 => ?_)
        · refine wq_goto 83 dX3_noteRow_50 (by decide) ?_
          refine wq_iinc (lv' := [(4, vi (s46.2 + 1)), (6, vi x53), (5, vi x50), (0, vr Z 4 0), (1, vr Z 2 a1), (2, vi a2), (3, vi s46.1)]) dX3_noteRow_83 6 rfl (by decide) rfl ?_
          refine wq_goto 6 dX3_noteRow_86 (by decide) ?_
          exact WQ.loc [3, 4, 5, 6, 0] rfl (bk41 _ _ _)
        · exact WQ.loc [2, 3, 4, 5, 6, 1, 0] rfl (hj54 _   _)
      · exact WQ.loc [2, 3, 4, 5, 6, 1, 0] rfl (hj54 _   _)
    · exact WQ.loc [] rfl (ex42 _ _ _)
  · exact wq_vret rfl rfl dX3_noteRow_89

theorem M_PT_isWorth : MwV yX3_isWorth cX3_isWorth 2 (some .boolean) 1 := ⟨li_4 80 (by decide +kernel) (by decide +kernel), li_4 78 (by decide +kernel) (by decide +kernel), li_4 79 (by decide +kernel) (by decide +kernel), li_1 5 (by decide +kernel) (by decide +kernel), by decide +kernel⟩
theorem M_PT_isAheadByTie : MwV yX3_isAheadByTie cX3_isAheadByTie 4 (some .boolean) 2 := ⟨li_4 96 (by decide +kernel) (by decide +kernel), li_4 95 (by decide +kernel) (by decide +kernel), lw_in 30 (by decide +kernel) (by decide +kernel), li_1 5 (by decide +kernel) (by decide +kernel), by decide +kernel⟩
theorem ln_RX3_110 : Cond.methodLink RX3 110 yX3_isAheadByTie ∈ lw_good := li_4 93 (by decide +kernel) (by decide +kernel)
theorem ln_RX3_107 : Cond.methodLink RX3 107 yX3_isWorth ∈ lw_good := li_4 77 (by decide +kernel) (by decide +kernel)
noncomputable def f_PT_choose_j79 (v1 : Int) (v2 : Int)   (I : Mem) : Option (((Int) ⊕ (Unit)) × Mem) :=
ltI (sI I 4 0 7 v2) fun J22 =>
ltI (sI J22 4 0 9 1) fun J23 =>
some (.inl (v1 + 1), J23)

noncomputable def f_PT_choose_w17  (s : Int) (I : Mem) : Option (((Int) ⊕ (Unit)) × Mem) :=
if (w32 s) < (w32 (I 4 0 4)) then
if 0 ≤ (w32 s) ∧ (w32 s) < 4356 then
bnd (f_PT_isWorth (I 16 3 (w32 s).toNat) I) fun x7 J6 =>
if (w32 x7) = 0 then
some (.inl (s + 1), J6)
else
ltI (sI J6 4 0 8 ((J6 4 0 8) + 1)) fun J8 =>
if (w32 (J8 4 0 7)) = (-1) then
f_PT_choose_j79 s (I 16 3 (w32 s).toNat) J8
else
if 0 ≤ (w32 (I 16 3 (w32 s).toNat)) ∧ (w32 (I 16 3 (w32 s).toNat)) < 4356 then
if 0 ≤ (w32 (J8 4 0 7)) ∧ (w32 (J8 4 0 7)) < 4356 then
if (w32 (J8 16 0 (w32 (J8 4 0 7)).toNat)) < (w32 (J8 16 0 (w32 (I 16 3 (w32 s).toNat)).toNat)) then
f_PT_choose_j79 s (I 16 3 (w32 s).toNat) J8
else
if (w32 (J8 16 0 (w32 (I 16 3 (w32 s).toNat)).toNat)) = (w32 (J8 16 0 (w32 (J8 4 0 7)).toNat)) then
ltI (sI J8 4 0 9 ((J8 4 0 9) + 1)) fun J12 =>
bnd (f_PT_isAheadByTie (I 16 3 (w32 s).toNat) (J12 4 0 7) J12) fun x15 J14 =>
if (w32 x15) = 0 then
ltI (sI J14 4 0 7 (J14 4 0 7)) fun J16 =>
some (.inl (s + 1), J16)
else
ltI (sI J14 4 0 7 (I 16 3 (w32 s).toNat)) fun J17 =>
some (.inl (s + 1), J17)
else
some (.inl (s + 1), J8)
else none
else none
else none
else
some (.inr (), I)

noncomputable def f_PT_choose  (I : Mem) : Option ((Unit) × Mem) :=
ltI (sI I 4 0 7 (-1)) fun J1 =>
ltI (sI J1 4 0 8 0) fun J2 =>
ltI (sI J2 4 0 9 0) fun J3 =>
bnd (whl (f_PT_choose_w17) 0 J3) fun r61 J62 =>
some ((), J62)
set_option maxRecDepth 20000 in
theorem R_PT_choose (Z : ZT)  (I : Mem) (r : Unit) (J : Mem) (hf : f_PT_choose I = some (r, J)) : Runs Z yX3_choose cX3_choose 3 (none) 3 [vr Z 4 0] I (none, J) := by
  refine Runs.of (rv := fun _ => none) (by decide +kernel) (Nat.le_of_ble_eq_true rfl) hf (fun gr => ?_)
  unfold f_PT_choose
  refine WQ.loc [0] (lv' := [(0, vr Z 4 0)]) rfl ?_
  refine wq_aload_n dX3_choose_0 0 rfl rfl ?_
  refine wq_iconst dX3_choose_1 ?_
  refine p_4_7 ln_RX3_24 dX3_choose_2 (fun J1 => ?_)
  refine wq_aload_n dX3_choose_5 0 rfl rfl ?_
  refine wq_iconst dX3_choose_6 ?_
  refine p_4_8 ln_RX3_83 dX3_choose_7 (fun J2 => ?_)
  refine wq_aload_n dX3_choose_10 0 rfl rfl ?_
  refine wq_iconst dX3_choose_11 ?_
  refine p_4_9 ln_RX3_86 dX3_choose_12 (fun J3 => ?_)
  refine wq_iconst dX3_choose_15 ?_
  refine wq_istore_n (lv' := [(1, vi 0), (0, vr Z 4 0)]) dX3_choose_16 rfl (by decide) rfl ?_
  refine WQ.loc [1, 0] (lv' := [(0, vr Z 4 0), (1, vi 0)]) rfl ?_
  refine wq_loopS (fun s36 => [(0, vr Z 4 0), (1, vi s36)]) 150 (fun _ => []) (fun κ30 bk31 ex32 gr35 s36 J34 => ?_) (fun gr63 r61 J62 => ?_) gr _ rfl
  · unfold f_PT_choose_w17
    refine wq_iload_n dX3_choose_17 1 rfl rfl ?_
    refine wq_aload_n dX3_choose_18 0 rfl rfl ?_
    refine g_4_4 ln_RX3_89 dX3_choose_19 ?_
    refine wq_icmp_ge 150 dX3_choose_22 (by decide) rfl rfl (fun c60 => ?_) (fun c60 => ?_)
    · refine wq_aload_n dX3_choose_25 0 rfl rfl ?_
      refine g_4_3 ln_RX3_21 dX3_choose_26 ?_
      refine wq_iload_n dX3_choose_29 1 rfl rfl ?_
      refine wq_grd (fun g37 => ?_)
      refine wq_iald (k := 16) (i := 3) rfl (by decide) rfl rfl (m := 4356) g37 (Nat.le_refl _) dX3_choose_30 ?_
      refine wq_istore_n (lv' := [(2, vi (J34 16 3 (w32 s36).toNat)), (0, vr Z 4 0), (1, vi s36)]) dX3_choose_31 rfl (by decide) rfl ?_
      refine wq_aload_n dX3_choose_32 1 rfl rfl ?_
      refine wq_iload_n dX3_choose_33 0 rfl rfl ?_
      refine wq_cVi M_PT_isWorth (R_PT_isWorth Z (J34 16 3 (w32 s36).toNat) _) ob_4 rfl rfl (by decide) (by decide) (Nat.le_of_ble_eq_true rfl) ln_RX3_107 dX3_choose_34 (fun gr38 x40 J39 => ?_)
      refine wq_if_ne 43 dX3_choose_37 (by decide) rfl (fun c59 => ?_) (fun c59 => ?_)
      · refine wq_goto 144 dX3_choose_40 (by decide) ?_
        refine wq_iinc (lv' := [(1, vi (s36 + 1)), (2, vi (J34 16 3 (w32 s36).toNat)), (0, vr Z 4 0)]) dX3_choose_144 2 rfl (by decide) rfl ?_
        refine wq_goto 17 dX3_choose_147 (by decide) ?_
        exact WQ.loc [2, 0] rfl (bk31 _ _ _)
      · refine wq_aload_n dX3_choose_43 1 rfl rfl ?_
        refine wq_dup dX3_choose_44 rfl ?_
        refine g_4_8 ln_RX3_83 dX3_choose_45 ?_
        refine wq_iconst dX3_choose_48 ?_
        refine wq_iadd dX3_choose_49 ?_
        refine p_4_8 ln_RX3_83 dX3_choose_50 (fun J41 => ?_)
        refine wq_aload_n dX3_choose_53 1 rfl rfl ?_
        refine g_4_7 ln_RX3_24 dX3_choose_54 ?_
        refine wq_iconst dX3_choose_57 ?_
        have hj42 : ∀ (gr56 : Nat → Nat)   (J55 : Mem), WQ Z (yX3_choose, cX3_choose, 3, none, 3) I gr56 79 [(0, vr Z 4 0), (1, vi s36), (2, vi (J34 16 3 (w32 s36).toNat))] [] J55 (f_PT_choose_j79 s36 (J34 16 3 (w32 s36).toNat) J55) κ30 := by
          intro gr56 J55
          unfold f_PT_choose_j79
          refine wq_aload_n dX3_choose_79 0 rfl rfl ?_
          refine wq_iload_n dX3_choose_80 2 rfl rfl ?_
          refine p_4_7 ln_RX3_24 dX3_choose_81 (fun J57 => ?_)
          refine wq_aload_n dX3_choose_84 0 rfl rfl ?_
          refine wq_iconst dX3_choose_85 ?_
          refine p_4_9 ln_RX3_86 dX3_choose_86 (fun J58 => ?_)
          refine wq_goto 144 dX3_choose_89 (by decide) ?_
          refine wq_iinc (lv' := [(1, vi (s36 + 1)), (0, vr Z 4 0), (2, vi (J34 16 3 (w32 s36).toNat))]) dX3_choose_144 1 rfl (by decide) rfl ?_
          refine wq_goto 17 dX3_choose_147 (by decide) ?_
          exact WQ.loc [1, 0] rfl (bk31 _ _ _)
        refine wq_icmp_eq 79 dX3_choose_58 (by decide) rfl rfl (fun c54 => ?_) (fun c54 => ?_)
        · exact WQ.loc [1, 2, 0] rfl (hj42 _   _)
        · refine wq_aload_n dX3_choose_61 1 rfl rfl ?_
          refine g_4_0 ln_RX3_11 dX3_choose_62 ?_
          refine wq_iload_n dX3_choose_65 0 rfl rfl ?_
          refine wq_grd (fun g43 => ?_)
          refine wq_iald (k := 16) (i := 0) rfl (by decide) rfl rfl (m := 4356) g43 (Nat.le_refl _) dX3_choose_66 ?_
          refine wq_aload_n dX3_choose_67 1 rfl rfl ?_
          refine g_4_0 ln_RX3_11 dX3_choose_68 ?_
          refine wq_aload_n dX3_choose_71 1 rfl rfl ?_
          refine g_4_7 ln_RX3_24 dX3_choose_72 ?_
          refine wq_grd (fun g44 => ?_)
          refine wq_iald (k := 16) (i := 0) rfl (by decide) rfl rfl (m := 4356) g44 (Nat.le_refl _) dX3_choose_75 ?_
          refine wq_icmp_le 92 dX3_choose_76 (by decide) rfl rfl (fun c53 => ?_) (fun c53 => ?_)
          · exact WQ.loc [1, 2, 0] rfl (hj42 _   _)
          · refine wq_aload_n dX3_choose_92 1 rfl rfl ?_
            refine g_4_0 ln_RX3_11 dX3_choose_93 ?_
            refine wq_iload_n dX3_choose_96 0 rfl rfl ?_
            refine wq_iald (k := 16) (i := 0) rfl (by decide) rfl rfl (m := 4356) g43 (Nat.le_refl _) dX3_choose_97 ?_
            refine wq_aload_n dX3_choose_98 1 rfl rfl ?_
            refine g_4_0 ln_RX3_11 dX3_choose_99 ?_
            refine wq_aload_n dX3_choose_102 1 rfl rfl ?_
            refine g_4_7 ln_RX3_24 dX3_choose_103 ?_
            refine wq_iald (k := 16) (i := 0) rfl (by decide) rfl rfl (m := 4356) g44 (Nat.le_refl _) dX3_choose_106 ?_
            refine wq_icmp_ne 144 dX3_choose_107 (by decide) rfl rfl (fun c52 => ?_) (fun c52 => ?_)
            · refine wq_aload_n dX3_choose_110 1 rfl rfl ?_
              refine wq_dup dX3_choose_111 rfl ?_
              refine g_4_9 ln_RX3_86 dX3_choose_112 ?_
              refine wq_iconst dX3_choose_115 ?_
              refine wq_iadd dX3_choose_116 ?_
              refine p_4_9 ln_RX3_86 dX3_choose_117 (fun J45 => ?_)
              refine wq_aload_n dX3_choose_120 1 rfl rfl ?_
              refine wq_aload_n dX3_choose_121 1 rfl rfl ?_
              refine wq_iload_n dX3_choose_122 0 rfl rfl ?_
              refine wq_aload_n dX3_choose_123 1 rfl rfl ?_
              refine g_4_7 ln_RX3_24 dX3_choose_124 ?_
              refine wq_cVi M_PT_isAheadByTie (R_PT_isAheadByTie Z (J34 16 3 (w32 s36).toNat) (J45 4 0 7) _) ob_4 rfl rfl (by decide) (by decide) (Nat.le_of_ble_eq_true rfl) ln_RX3_110 dX3_choose_127 (fun gr46 x48 J47 => ?_)
              refine wq_if_eq 137 dX3_choose_130 (by decide) rfl (fun c51 => ?_) (fun c51 => ?_)
              · refine wq_aload_n dX3_choose_137 1 rfl rfl ?_
                refine g_4_7 ln_RX3_24 dX3_choose_138 ?_
                refine p_4_7 ln_RX3_24 dX3_choose_141 (fun J49 => ?_)
                refine wq_iinc (lv' := [(1, vi (s36 + 1)), (2, vi (J34 16 3 (w32 s36).toNat)), (0, vr Z 4 0)]) dX3_choose_144 2 rfl (by decide) rfl ?_
                refine wq_goto 17 dX3_choose_147 (by decide) ?_
                exact WQ.loc [2, 0] rfl (bk31 _ _ _)
              · refine wq_iload_n dX3_choose_133 0 rfl rfl ?_
                refine wq_goto 141 dX3_choose_134 (by decide) ?_
                refine p_4_7 ln_RX3_24 dX3_choose_141 (fun J50 => ?_)
                refine wq_iinc (lv' := [(1, vi (s36 + 1)), (2, vi (J34 16 3 (w32 s36).toNat)), (0, vr Z 4 0)]) dX3_choose_144 2 rfl (by decide) rfl ?_
                refine wq_goto 17 dX3_choose_147 (by decide) ?_
                exact WQ.loc [2, 0] rfl (bk31 _ _ _)
            · refine wq_iinc (lv' := [(1, vi (s36 + 1)), (2, vi (J34 16 3 (w32 s36).toNat)), (0, vr Z 4 0)]) dX3_choose_144 2 rfl (by decide) rfl ?_
              refine wq_goto 17 dX3_choose_147 (by decide) ?_
              exact WQ.loc [2, 0] rfl (bk31 _ _ _)
    · exact WQ.loc [] rfl (ex32 _ _ _)
  · exact wq_vret rfl rfl dX3_choose_150

theorem ln_RX10_34 : Cond.fieldLink RX10 34 RX10 "manyOrdered" "I" ∈ lw_good := li_1 152 (by decide +kernel) (by decide +kernel)
theorem ln_RX10_9 : Cond.fieldLink RX10 9 RX10 "order" "[I" ∈ lw_good := li_1 146 (by decide +kernel) (by decide +kernel)
theorem ln_RX10_79 : Cond.methodLink RX10 79 yX1_lengthOf ∈ lw_good := li_5 157 (by decide +kernel) (by decide +kernel)
theorem ln_RX10_75 : Cond.methodLink RX10 75 yX1_hasRule ∈ lw_good := li_5 156 (by decide +kernel) (by decide +kernel)
noncomputable def f_Sv_orderByLength_w39 (v1 : Nat) (v2 : Int) (v3 : Int) (s : Int) (I : Mem) : Option (((Int) ⊕ (Int)) × Mem) :=
if 0 < (w32 s) then
if 0 ≤ (w32 (s - 1)) ∧ (w32 (s - 1)) < 40 then
bnd (f_G_lengthOf v1 (26 + (I 18 0 (w32 (s - 1)).toNat)) I) fun x11 J10 =>
if (w32 v3) < (w32 x11) then
if 0 ≤ (w32 s) ∧ (w32 s) < 40 then
ltI (sI J10 18 0 (w32 s).toNat (J10 18 0 (w32 (s - 1)).toNat)) fun J13 =>
some (.inl (s + (-1)), J13)
else none
else
some (.inr s, J10)
else none
else
some (.inr s, I)

noncomputable def f_Sv_orderByLength_w7 (v1 : Nat) (s : Int) (I : Mem) : Option (((Int) ⊕ (Unit)) × Mem) :=
if (w32 s) < 40 then
bnd (f_G_hasRule v1 s I) fun x4 J3 =>
if (w32 x4) = 0 then
some (.inl (s + 1), J3)
else
bnd (f_G_lengthOf v1 (26 + s) J3) fun x7 J6 =>
bnd (whl (f_Sv_orderByLength_w39 v1 s x7) (J6 5 0 6) J6) fun r31 J32 =>
if 0 ≤ (w32 r31) ∧ (w32 r31) < 40 then
ltI (sI J32 18 0 (w32 r31).toNat s) fun J35 =>
ltI (sI J35 5 0 6 ((J35 5 0 6) + 1)) fun J36 =>
some (.inl (s + 1), J36)
else none
else
some (.inr (), I)

noncomputable def f_Sv_orderByLength (a1 : Nat) (I : Mem) : Option ((Unit) × Mem) :=
if a1 < 12 then
ltI (sI I 5 0 6 0) fun J1 =>
bnd (whl (f_Sv_orderByLength_w7 a1) 0 J1) fun r75 J76 =>
some ((), J76)
else none
set_option maxRecDepth 20000 in
theorem R_Sv_orderByLength (Z : ZT) (a1 : Nat) (I : Mem) (r : Unit) (J : Mem) (hf : f_Sv_orderByLength a1 I = some (r, J)) : Runs Z yX10_orderByLength cX10_orderByLength 5 (none) 3 [vr Z 5 0, vr Z 1 a1] I (none, J) := by
  refine Runs.of (rv := fun _ => none) (by decide +kernel) (Nat.le_of_ble_eq_true rfl) hf (fun gr => ?_)
  unfold f_Sv_orderByLength
  refine WQ.loc [0, 1] (lv' := [(0, vr Z 5 0), (1, vr Z 1 a1)]) rfl ?_
  refine wq_grd (fun h1 => ?_)
  refine wq_aload_n dX10_orderByLength_0 0 rfl rfl ?_
  refine wq_iconst dX10_orderByLength_1 ?_
  refine p_5_6 ln_RX10_34 dX10_orderByLength_2 (fun J1 => ?_)
  refine wq_iconst dX10_orderByLength_5 ?_
  refine wq_istore_n (lv' := [(2, vi 0), (0, vr Z 5 0), (1, vr Z 1 a1)]) dX10_orderByLength_6 rfl (by decide) rfl ?_
  refine WQ.loc [1, 2, 0] (lv' := [(0, vr Z 5 0), (1, vr Z 1 a1), (2, vi 0)]) rfl ?_
  refine wq_loopS (fun s45 => [(0, vr Z 5 0), (1, vr Z 1 a1), (2, vi s45)]) 110 (fun _ => []) (fun κ39 bk40 ex41 gr44 s45 J43 => ?_) (fun gr77 r75 J76 => ?_) gr _ rfl
  · unfold f_Sv_orderByLength_w7
    refine wq_iload_n dX10_orderByLength_7 2 rfl rfl ?_
    refine wq_bipush dX10_orderByLength_8 (by decide) ?_
    refine wq_icmp_ge 110 dX10_orderByLength_10 (by decide) rfl rfl (fun c74 => ?_) (fun c74 => ?_)
    · refine wq_aload_n dX10_orderByLength_13 1 rfl rfl ?_
      refine wq_iload_n dX10_orderByLength_14 2 rfl rfl ?_
      refine wq_cVi M_G_hasRule (R_G_hasRule Z a1 s45 _) (ob_1 h1) rfl rfl (by decide) (by decide) (Nat.le_of_ble_eq_true rfl) ln_RX10_75 dX10_orderByLength_15 (fun gr46 x48 J47 => ?_)
      refine wq_if_ne 24 dX10_orderByLength_18 (by decide) rfl (fun c73 => ?_) (fun c73 => ?_)
      · refine wq_goto 104 dX10_orderByLength_21 (by decide) ?_
        refine wq_iinc (lv' := [(2, vi (s45 + 1)), (0, vr Z 5 0), (1, vr Z 1 a1)]) dX10_orderByLength_104 2 rfl (by decide) rfl ?_
        refine wq_goto 7 dX10_orderByLength_107 (by decide) ?_
        exact WQ.loc [1, 2, 0] rfl (bk40 _ _ _)
      · refine wq_aload_n dX10_orderByLength_24 1 rfl rfl ?_
        refine wq_bipush dX10_orderByLength_25 (by decide) ?_
        refine wq_iload_n dX10_orderByLength_27 2 rfl rfl ?_
        refine wq_iadd dX10_orderByLength_28 ?_
        refine wq_cVi M_G_lengthOf (R_G_lengthOf Z a1 (26 + s45) _) (ob_1 h1) rfl rfl (by decide) (by decide) (Nat.le_of_ble_eq_true rfl) ln_RX10_79 dX10_orderByLength_29 (fun gr49 x51 J50 => ?_)
        refine wq_istore_n (lv' := [(3, vi x51), (0, vr Z 5 0), (1, vr Z 1 a1), (2, vi s45)]) dX10_orderByLength_32 rfl (by decide) rfl ?_
        refine wq_aload_n dX10_orderByLength_33 1 rfl rfl ?_
        refine g_5_6 ln_RX10_34 dX10_orderByLength_34 ?_
        refine wq_istore (lv' := [(4, vi (J50 5 0 6)), (3, vi x51), (0, vr Z 5 0), (1, vr Z 1 a1), (2, vi s45)]) dX10_orderByLength_37 (by decide) rfl ?_
        refine WQ.loc [2, 3, 4, 1, 0] (lv' := [(0, vr Z 5 0), (1, vr Z 1 a1), (2, vi s45), (3, vi x51), (4, vi (J50 5 0 6))]) rfl ?_
        refine wq_loopS (fun s58 => [(0, vr Z 5 0), (1, vr Z 1 a1), (2, vi s45), (3, vi x51), (4, vi s58)]) 86 (fun r67 => [(0, vr Z 5 0), (1, vr Z 1 a1), (2, vi s45), (4, vi r67)]) (fun κ52 bk53 ex54 gr57 s58 J56 => ?_) (fun gr69 r67 J68 => ?_) gr49 _ rfl
        · unfold f_Sv_orderByLength_w39
          refine wq_iload dX10_orderByLength_39 4 rfl ?_
          refine wq_if_le 86 dX10_orderByLength_41 (by decide) rfl (fun c66 => ?_) (fun c66 => ?_)
          · refine wq_aload_n dX10_orderByLength_44 1 rfl rfl ?_
            refine wq_bipush dX10_orderByLength_45 (by decide) ?_
            refine wq_aload_n dX10_orderByLength_47 0 rfl rfl ?_
            refine g_5_0 ln_RX10_9 dX10_orderByLength_48 ?_
            refine wq_iload dX10_orderByLength_51 4 rfl ?_
            refine wq_iconst dX10_orderByLength_53 ?_
            refine wq_isub dX10_orderByLength_54 ?_
            refine wq_grd (fun g59 => ?_)
            refine wq_iald (k := 18) (i := 0) rfl (by decide) rfl rfl (m := 40) g59 (by decide) dX10_orderByLength_55 ?_
            refine wq_iadd dX10_orderByLength_56 ?_
            refine wq_cVi M_G_lengthOf (R_G_lengthOf Z a1 (26 + (J56 18 0 (w32 (s58 - 1)).toNat)) _) (ob_1 h1) rfl rfl (by decide) (by decide) (Nat.le_of_ble_eq_true rfl) ln_RX10_79 dX10_orderByLength_57 (fun gr60 x62 J61 => ?_)
            refine wq_iload_n dX10_orderByLength_60 3 rfl rfl ?_
            refine wq_icmp_le 86 dX10_orderByLength_61 (by decide) rfl rfl (fun c65 => ?_) (fun c65 => ?_)
            · refine wq_aload_n dX10_orderByLength_64 0 rfl rfl ?_
              refine g_5_0 ln_RX10_9 dX10_orderByLength_65 ?_
              refine wq_iload dX10_orderByLength_68 4 rfl ?_
              refine wq_aload_n dX10_orderByLength_70 0 rfl rfl ?_
              refine g_5_0 ln_RX10_9 dX10_orderByLength_71 ?_
              refine wq_iload dX10_orderByLength_74 4 rfl ?_
              refine wq_iconst dX10_orderByLength_76 ?_
              refine wq_isub dX10_orderByLength_77 ?_
              refine wq_iald (k := 18) (i := 0) rfl (by decide) rfl rfl (m := 40) g59 (by decide) dX10_orderByLength_78 ?_
              refine wq_grd (fun g63 => ?_)
              refine wq_iast (k := 18) (i := 0) (fun _ _ => rfl) (by decide) rfl rfl (m := 40) g63 (by decide) (by decide) (by decide) (by decide) dX10_orderByLength_79 (fun J64 => ?_)
              refine wq_iinc (lv' := [(4, vi (s58 + (-1))), (0, vr Z 5 0), (1, vr Z 1 a1), (2, vi s45), (3, vi x51)]) dX10_orderByLength_80 4 rfl (by decide) rfl ?_
              refine wq_goto 39 dX10_orderByLength_83 (by decide) ?_
              exact WQ.loc [1, 2, 3, 4, 0] rfl (bk53 _ _ _)
            · exact WQ.loc [0, 1, 2, 4] rfl (ex54 _ _ _)
          · exact WQ.loc [0, 1, 2, 4] rfl (ex54 _ _ _)
        · refine wq_aload_n dX10_orderByLength_86 0 rfl rfl ?_
          refine g_5_0 ln_RX10_9 dX10_orderByLength_87 ?_
          refine wq_iload dX10_orderByLength_90 3 rfl ?_
          refine wq_iload_n dX10_orderByLength_92 2 rfl rfl ?_
          refine wq_grd (fun g70 => ?_)
          refine wq_iast (k := 18) (i := 0) (fun _ _ => rfl) (by decide) rfl rfl (m := 40) g70 (by decide) (by decide) (by decide) (by decide) dX10_orderByLength_93 (fun J71 => ?_)
          refine wq_aload_n dX10_orderByLength_94 0 rfl rfl ?_
          refine wq_dup dX10_orderByLength_95 rfl ?_
          refine g_5_6 ln_RX10_34 dX10_orderByLength_96 ?_
          refine wq_iconst dX10_orderByLength_99 ?_
          refine wq_iadd dX10_orderByLength_100 ?_
          refine p_5_6 ln_RX10_34 dX10_orderByLength_101 (fun J72 => ?_)
          refine wq_iinc (lv' := [(2, vi (s45 + 1)), (0, vr Z 5 0), (1, vr Z 1 a1), (4, vi r67)]) dX10_orderByLength_104 2 rfl (by decide) rfl ?_
          refine wq_goto 7 dX10_orderByLength_107 (by decide) ?_
          exact WQ.loc [1, 2, 0] rfl (bk40 _ _ _)
    · exact WQ.loc [] rfl (ex41 _ _ _)
  · exact wq_vret rfl rfl dX10_orderByLength_110
end
section
theorem ln_RX10_27 : Cond.fieldLink RX10 27 RX10 "openPlaces" "[I" ∈ lw_good := li_1 151 (by decide +kernel) (by decide +kernel)
theorem ln_RX10_85 : Cond.constant RX10 85 (Int32.ofInt 1000000) ∈ lw_good := li_3 130 (by decide +kernel) (by decide +kernel)
theorem ln_RX10_24 : Cond.fieldLink RX10 24 RX10 "openRules" "[I" ∈ lw_good := li_1 150 (by decide +kernel) (by decide +kernel)
theorem ln_RX10_38 : Cond.methodLink RX10 38 yX1_body ∈ lw_good := li_3 132 (by decide +kernel) (by decide +kernel)
theorem ln_RX10_48 : Cond.methodLink RX10 48 yX1_startRow ∈ lw_good := li_3 131 (by decide +kernel) (by decide +kernel)
theorem M_Sv_addLetter : MwV yX10_addLetter cX10_addLetter 2 (none) 1 := ⟨li_3 140 (by decide +kernel) (by decide +kernel), li_3 139 (by decide +kernel) (by decide +kernel), lw_in 13 (by decide +kernel) (by decide +kernel), li_1 6 (by decide +kernel) (by decide +kernel), by decide +kernel⟩
theorem ln_RX10_86 : Cond.methodLink RX10 86 yX10_addLetter ∈ lw_good := li_3 137 (by decide +kernel) (by decide +kernel)
noncomputable def f_Sv_unfold_j47 (v1 : Nat) (v2 : Int) (v3 : Int)  (e0 : Nat) (I : Mem) : Option (((Int × Int) ⊕ (Unit)) × Mem) :=
if e0 < 516 then
if 0 ≤ (w32 v2) ∧ (w32 v2) < 41 then
bnd (f_Row_at e0 (I 18 5 (w32 v2).toNat) I) fun x15 J14 =>
ltI (sI J14 18 5 (w32 v2).toNat ((J14 18 5 (w32 v2).toNat) + 1)) fun J16 =>
if (w32 x15) = (-1) then
some (.inl ((v2 + (-1)), (v3 + 1)), J16)
else
if (w32 x15) < 26 then
bnd (f_Sv_addLetter x15 J16) fun _ J22 =>
some (.inl (v2, (v3 + 1)), J22)
else
if (w32 v2) < 40 then
if 0 ≤ (w32 (v2 + 1)) ∧ (w32 (v2 + 1)) < 41 then
ltI (sI J16 18 4 (w32 (v2 + 1)).toNat (x15 - 26)) fun J18 =>
ltI (sI J18 18 5 (w32 (v2 + 1)).toNat 0) fun J19 =>
some (.inl ((v2 + 1), (v3 + 1)), J19)
else none
else
some (.inl (v2, (v3 + 1)), J16)
else none
else none

noncomputable def f_Sv_unfold_w16 (v1 : Nat) (s : Int × Int) (I : Mem) : Option (((Int × Int) ⊕ (Unit)) × Mem) :=
if (w32 s.2) < 1000000 then
if (w32 s.1) < 0 then
some (.inr (), I)
else
if (w32 s.1) = 0 then
f_Sv_unfold_j47 v1 s.1 s.2 (43 * v1) I
else
if 0 ≤ (w32 s.1) ∧ (w32 s.1) < 41 then
bnd (f_G_body v1 (I 18 4 (w32 s.1).toNat) I) fun x8 J7 =>
if x8 < 516 then
f_Sv_unfold_j47 v1 s.1 s.2 x8 J7
else none
else none
else
some (.inr (), I)

noncomputable def f_Sv_unfold (a1 : Nat) (I : Mem) : Option ((Unit) × Mem) :=
if a1 < 12 then
ltI (sI I 5 0 7 0) fun J1 =>
ltI (sI J1 18 5 0 0) fun J3 =>
bnd (whl (f_Sv_unfold_w16 a1) (0, 0) J3) fun r77 J78 =>
some ((), J78)
else none
set_option maxRecDepth 20000 in
theorem R_Sv_unfold (Z : ZT) (a1 : Nat) (I : Mem) (r : Unit) (J : Mem) (hf : f_Sv_unfold a1 I = some (r, J)) : Runs Z yX10_unfold cX10_unfold 6 (none) 2 [vr Z 5 0, vr Z 1 a1] I (none, J) := by
  refine Runs.of (rv := fun _ => none) (by decide +kernel) (Nat.le_of_ble_eq_true rfl) hf (fun gr => ?_)
  unfold f_Sv_unfold
  refine WQ.loc [0, 1] (lv' := [(0, vr Z 5 0), (1, vr Z 1 a1)]) rfl ?_
  refine wq_grd (fun h1 => ?_)
  refine wq_aload_n dX10_unfold_0 0 rfl rfl ?_
  refine wq_iconst dX10_unfold_1 ?_
  refine p_5_7 ln_RX10_82 dX10_unfold_2 (fun J1 => ?_)
  refine wq_iconst dX10_unfold_5 ?_
  refine wq_istore_n (lv' := [(2, vi 0), (0, vr Z 5 0), (1, vr Z 1 a1)]) dX10_unfold_6 rfl (by decide) rfl ?_
  refine wq_aload_n dX10_unfold_7 1 rfl rfl ?_
  refine g_5_5 ln_RX10_27 dX10_unfold_8 ?_
  refine wq_iconst dX10_unfold_11 ?_
  refine wq_iconst dX10_unfold_12 ?_
  refine wq_iast (k := 18) (i := 5) (fun _ _ => rfl) (by decide) rfl rfl (m := 41) (by decide) (by decide) (by decide) (by decide) (by decide) dX10_unfold_13 (fun J3 => ?_)
  refine wq_iconst dX10_unfold_14 ?_
  refine wq_istore_n (lv' := [(3, vi 0), (2, vi 0), (0, vr Z 5 0), (1, vr Z 1 a1)]) dX10_unfold_15 rfl (by decide) rfl ?_
  refine WQ.loc [2, 3, 1, 0] (lv' := [(0, vr Z 5 0), (1, vr Z 1 a1), (2, vi 0), (3, vi 0)]) rfl ?_
  refine wq_loopS (fun s50 => [(0, vr Z 5 0), (1, vr Z 1 a1), (2, vi s50.1), (3, vi s50.2)]) 133 (fun _ => []) (fun κ44 bk45 ex46 gr49 s50 J48 => ?_) (fun gr79 r77 J78 => ?_) gr _ rfl
  · unfold f_Sv_unfold_w16
    refine wq_iload_n dX10_unfold_16 3 rfl rfl ?_
    refine wq_ldc ln_RX10_85 dX10_unfold_17 ?_
    refine wq_icmp_ge 133 dX10_unfold_19 (by decide) rfl rfl (fun c76 => ?_) (fun c76 => ?_)
    · refine wq_iload_n dX10_unfold_22 2 rfl rfl ?_
      refine wq_if_lt 133 dX10_unfold_23 (by decide) rfl (fun c75 => ?_) (fun c75 => ?_)
      · exact WQ.loc [] rfl (ex46 _ _ _)
      · refine wq_iload_n dX10_unfold_26 2 rfl rfl ?_
        have hj51 : ∀ (gr60 : Nat → Nat)  (hj51e0 : Nat) (J59 : Mem), WQ Z (yX10_unfold, cX10_unfold, 6, none, 2) I gr60 47 [(0, vr Z 5 0), (1, vr Z 1 a1), (2, vi s50.1), (3, vi s50.2)] [vr Z 2 hj51e0] J59 (f_Sv_unfold_j47 a1 s50.1 s50.2 hj51e0 J59) κ44 := by
          intro gr60 hj51e0 J59
          unfold f_Sv_unfold_j47
          refine wq_grd (fun hj51he0 => ?_)
          refine wq_astore (lv' := [(4, vr Z 2 hj51e0), (0, vr Z 5 0), (1, vr Z 1 a1), (2, vi s50.1), (3, vi s50.2)]) dX10_unfold_47 (by decide) rfl ?_
          refine wq_aload dX10_unfold_49 0 rfl ?_
          refine wq_aload_n dX10_unfold_51 1 rfl rfl ?_
          refine g_5_5 ln_RX10_27 dX10_unfold_52 ?_
          refine wq_iload_n dX10_unfold_55 3 rfl rfl ?_
          refine wq_grd (fun g61 => ?_)
          refine wq_iald (k := 18) (i := 5) rfl (by decide) rfl rfl (m := 41) g61 (by decide) dX10_unfold_56 ?_
          refine wq_cVi M_Row_at (R_Row_at Z hj51e0 (J59 18 5 (w32 s50.1).toNat) _) (ob_2 hj51he0) rfl rfl (by decide) (by decide) (Nat.le_of_ble_eq_true rfl) ln_RX10_62 dX10_unfold_57 (fun gr62 x64 J63 => ?_)
          refine wq_istore (lv' := [(5, vi x64), (4, vr Z 2 hj51e0), (0, vr Z 5 0), (1, vr Z 1 a1), (2, vi s50.1), (3, vi s50.2)]) dX10_unfold_60 (by decide) rfl ?_
          refine wq_aload_n dX10_unfold_62 2 rfl rfl ?_
          refine g_5_5 ln_RX10_27 dX10_unfold_63 ?_
          refine wq_iload_n dX10_unfold_66 4 rfl rfl ?_
          refine wq_dup2 dX10_unfold_67 rfl rfl ?_
          refine wq_iald (k := 18) (i := 5) rfl (by decide) rfl rfl (m := 41) g61 (by decide) dX10_unfold_68 ?_
          refine wq_iconst dX10_unfold_69 ?_
          refine wq_iadd dX10_unfold_70 ?_
          refine wq_iast (k := 18) (i := 5) (fun _ _ => rfl) (by decide) rfl rfl (m := 41) g61 (by decide) (by decide) (by decide) (by decide) dX10_unfold_71 (fun J65 => ?_)
          refine wq_iload dX10_unfold_72 0 rfl ?_
          refine wq_iconst dX10_unfold_74 ?_
          refine wq_icmp_ne 84 dX10_unfold_75 (by decide) rfl rfl (fun c74 => ?_) (fun c74 => ?_)
          · refine wq_iinc (lv' := [(2, vi (s50.1 + (-1))), (5, vi x64), (4, vr Z 2 hj51e0), (0, vr Z 5 0), (1, vr Z 1 a1), (3, vi s50.2)]) dX10_unfold_78 4 rfl (by decide) rfl ?_
            refine wq_goto 127 dX10_unfold_81 (by decide) ?_
            refine wq_iinc (lv' := [(3, vi (s50.2 + 1)), (2, vi (s50.1 + (-1))), (5, vi x64), (4, vr Z 2 hj51e0), (0, vr Z 5 0), (1, vr Z 1 a1)]) dX10_unfold_127 5 rfl (by decide) rfl ?_
            refine wq_goto 16 dX10_unfold_130 (by decide) ?_
            exact WQ.loc [4, 5, 1, 0] rfl (bk45 _ _ _)
          · refine wq_iload dX10_unfold_84 0 rfl ?_
            refine wq_bipush dX10_unfold_86 (by decide) ?_
            refine wq_icmp_ge 100 dX10_unfold_88 (by decide) rfl rfl (fun c73 => ?_) (fun c73 => ?_)
            · refine wq_aload_n dX10_unfold_91 2 rfl rfl ?_
              refine wq_iload dX10_unfold_92 0 rfl ?_
              refine wq_cVv M_Sv_addLetter (R_Sv_addLetter Z x64 _) ob_5 rfl rfl (by decide) (by decide) (Nat.le_of_ble_eq_true rfl) ln_RX10_86 dX10_unfold_94 (fun gr70 _ J71 => ?_)
              refine wq_goto 127 dX10_unfold_97 (by decide) ?_
              refine wq_iinc (lv' := [(3, vi (s50.2 + 1)), (5, vi x64), (4, vr Z 2 hj51e0), (0, vr Z 5 0), (1, vr Z 1 a1), (2, vi s50.1)]) dX10_unfold_127 5 rfl (by decide) rfl ?_
              refine wq_goto 16 dX10_unfold_130 (by decide) ?_
              exact WQ.loc [3, 4, 5, 0] rfl (bk45 _ _ _)
            · refine wq_iload_n dX10_unfold_100 4 rfl rfl ?_
              refine wq_bipush dX10_unfold_101 (by decide) ?_
              refine wq_icmp_ge 127 dX10_unfold_103 (by decide) rfl rfl (fun c69 => ?_) (fun c69 => ?_)
              · refine wq_iinc (lv' := [(2, vi (s50.1 + 1)), (5, vi x64), (4, vr Z 2 hj51e0), (0, vr Z 5 0), (1, vr Z 1 a1), (3, vi s50.2)]) dX10_unfold_106 4 rfl (by decide) rfl ?_
                refine wq_aload_n dX10_unfold_109 3 rfl rfl ?_
                refine g_5_4 ln_RX10_24 dX10_unfold_110 ?_
                refine wq_iload_n dX10_unfold_113 0 rfl rfl ?_
                refine wq_iload dX10_unfold_114 1 rfl ?_
                refine wq_bipush dX10_unfold_116 (by decide) ?_
                refine wq_isub dX10_unfold_118 ?_
                refine wq_grd (fun g66 => ?_)
                refine wq_iast (k := 18) (i := 4) (fun _ _ => rfl) (by decide) rfl rfl (m := 41) g66 (by decide) (by decide) (by decide) (by decide) dX10_unfold_119 (fun J67 => ?_)
                refine wq_aload_n dX10_unfold_120 3 rfl rfl ?_
                refine g_5_5 ln_RX10_27 dX10_unfold_121 ?_
                refine wq_iload_n dX10_unfold_124 0 rfl rfl ?_
                refine wq_iconst dX10_unfold_125 ?_
                refine wq_iast (k := 18) (i := 5) (fun _ _ => rfl) (by decide) rfl rfl (m := 41) g66 (by decide) (by decide) (by decide) (by decide) dX10_unfold_126 (fun J68 => ?_)
                refine wq_iinc (lv' := [(3, vi (s50.2 + 1)), (2, vi (s50.1 + 1)), (5, vi x64), (4, vr Z 2 hj51e0), (0, vr Z 5 0), (1, vr Z 1 a1)]) dX10_unfold_127 5 rfl (by decide) rfl ?_
                refine wq_goto 16 dX10_unfold_130 (by decide) ?_
                exact WQ.loc [4, 5, 1, 0] rfl (bk45 _ _ _)
              · refine wq_iinc (lv' := [(3, vi (s50.2 + 1)), (5, vi x64), (4, vr Z 2 hj51e0), (0, vr Z 5 0), (1, vr Z 1 a1), (2, vi s50.1)]) dX10_unfold_127 5 rfl (by decide) rfl ?_
                refine wq_goto 16 dX10_unfold_130 (by decide) ?_
                exact WQ.loc [3, 4, 5, 0] rfl (bk45 _ _ _)
        refine wq_if_ne 37 dX10_unfold_27 (by decide) rfl (fun c58 => ?_) (fun c58 => ?_)
        · refine wq_aload_n dX10_unfold_30 1 rfl rfl ?_
          refine wq_pV (v := vr Z 2 (43 * a1)) M_G_startRow (R_G_startRow Z a1 _ _ _ (if_pos h1)) (ob_1 h1) rfl rfl (by decide) (by decide) (Nat.le_of_ble_eq_true rfl) ln_RX10_48 dX10_unfold_31 (fun gr57 => ?_)
          refine wq_goto 47 dX10_unfold_34 (by decide) ?_
          exact WQ.loc [0, 1, 2, 3] rfl (hj51 _  _ _)
        · refine wq_aload_n dX10_unfold_37 1 rfl rfl ?_
          refine wq_aload_n dX10_unfold_38 0 rfl rfl ?_
          refine g_5_4 ln_RX10_24 dX10_unfold_39 ?_
          refine wq_iload_n dX10_unfold_42 2 rfl rfl ?_
          refine wq_grd (fun g52 => ?_)
          refine wq_iald (k := 18) (i := 4) rfl (by decide) rfl rfl (m := 41) g52 (by decide) dX10_unfold_43 ?_
          refine wq_cVr 2 M_G_body (R_G_body Z a1 (J48 18 4 (w32 s50.1).toNat) _) (ob_1 h1) rfl rfl (by decide) (by decide) (Nat.le_of_ble_eq_true rfl) ln_RX10_38 dX10_unfold_44 (fun gr53 x55 J54 => ?_)
          refine wq_grd (fun g56 => ?_)
          exact WQ.loc [0, 1, 2, 3] rfl (hj51 _  _ _)
    · exact WQ.loc [] rfl (ex46 _ _ _)
  · exact wq_vret rfl rfl dX10_unfold_133

theorem M_Row_put : MwV yX5_put cX5_put 2 (none) 1 := ⟨li_2 89 (by decide +kernel) (by decide +kernel), li_2 87 (by decide +kernel) (by decide +kernel), li_2 88 (by decide +kernel) (by decide +kernel), li_1 3 (by decide +kernel) (by decide +kernel), by decide +kernel⟩
theorem ln_RX10_93 : Cond.methodLink RX10 93 yX5_put ∈ lw_good := li_3 150 (by decide +kernel) (by decide +kernel)
theorem ln_RX10_90 : Cond.methodLink RX10 90 yX5_clear ∈ lw_good := li_3 149 (by decide +kernel) (by decide +kernel)
noncomputable def f_Sv_writeTextTo_w6 (v1 : Nat) (s : Int) (I : Mem) : Option (((Int) ⊕ (Unit)) × Mem) :=
if (w32 s) < (w32 (I 5 0 7)) then
if 0 ≤ (w32 s) ∧ (w32 s) < 400 then
bnd (f_Row_put v1 (I 18 3 (w32 s).toNat) I) fun _ J6 =>
some (.inl (s + 1), J6)
else none
else
some (.inr (), I)

noncomputable def f_Sv_writeTextTo (a1 : Nat) (I : Mem) : Option ((Unit) × Mem) :=
if a1 < 516 then
bnd (f_Row_clear a1 I) fun _ J2 =>
bnd (whl (f_Sv_writeTextTo_w6 a1) 0 J2) fun r21 J22 =>
some ((), J22)
else none
set_option maxRecDepth 20000 in
theorem R_Sv_writeTextTo (Z : ZT) (a1 : Nat) (I : Mem) (r : Unit) (J : Mem) (hf : f_Sv_writeTextTo a1 I = some (r, J)) : Runs Z yX10_writeTextTo cX10_writeTextTo 3 (none) 3 [vr Z 5 0, vr Z 2 a1] I (none, J) := by
  refine Runs.of (rv := fun _ => none) (by decide +kernel) (Nat.le_of_ble_eq_true rfl) hf (fun gr => ?_)
  unfold f_Sv_writeTextTo
  refine WQ.loc [0, 1] (lv' := [(0, vr Z 5 0), (1, vr Z 2 a1)]) rfl ?_
  refine wq_grd (fun h1 => ?_)
  refine wq_aload_n dX10_writeTextTo_0 1 rfl rfl ?_
  refine wq_cVv M_Row_clear (R_Row_clear Z a1 _) (ob_2 h1) rfl rfl (by decide) (by decide) (Nat.le_of_ble_eq_true rfl) ln_RX10_90 dX10_writeTextTo_1 (fun gr1 _ J2 => ?_)
  refine wq_iconst dX10_writeTextTo_4 ?_
  refine wq_istore_n (lv' := [(2, vi 0), (0, vr Z 5 0), (1, vr Z 2 a1)]) dX10_writeTextTo_5 rfl (by decide) rfl ?_
  refine WQ.loc [1, 2, 0] (lv' := [(0, vr Z 5 0), (1, vr Z 2 a1), (2, vi 0)]) rfl ?_
  refine wq_loopS (fun s15 => [(0, vr Z 5 0), (1, vr Z 2 a1), (2, vi s15)]) 30 (fun _ => []) (fun κ9 bk10 ex11 gr14 s15 J13 => ?_) (fun gr23 r21 J22 => ?_) gr1 _ rfl
  · unfold f_Sv_writeTextTo_w6
    refine wq_iload_n dX10_writeTextTo_6 2 rfl rfl ?_
    refine wq_aload_n dX10_writeTextTo_7 0 rfl rfl ?_
    refine g_5_7 ln_RX10_82 dX10_writeTextTo_8 ?_
    refine wq_icmp_ge 30 dX10_writeTextTo_11 (by decide) rfl rfl (fun c20 => ?_) (fun c20 => ?_)
    · refine wq_aload_n dX10_writeTextTo_14 1 rfl rfl ?_
      refine wq_aload_n dX10_writeTextTo_15 0 rfl rfl ?_
      refine g_5_3 ln_RX10_21 dX10_writeTextTo_16 ?_
      refine wq_iload_n dX10_writeTextTo_19 2 rfl rfl ?_
      refine wq_grd (fun g16 => ?_)
      refine wq_iald (k := 18) (i := 3) rfl (by decide) rfl rfl (m := 400) g16 (by decide) dX10_writeTextTo_20 ?_
      refine wq_cVv M_Row_put (R_Row_put Z a1 (J13 18 3 (w32 s15).toNat) _) (ob_2 h1) rfl rfl (by decide) (by decide) (Nat.le_of_ble_eq_true rfl) ln_RX10_93 dX10_writeTextTo_21 (fun gr17 _ J18 => ?_)
      refine wq_iinc (lv' := [(2, vi (s15 + 1)), (0, vr Z 5 0), (1, vr Z 2 a1)]) dX10_writeTextTo_24 2 rfl (by decide) rfl ?_
      refine wq_goto 6 dX10_writeTextTo_27 (by decide) ?_
      exact WQ.loc [1, 2, 0] rfl (bk10 _ _ _)
    · exact WQ.loc [] rfl (ex11 _ _ _)
  · exact wq_vret rfl rfl dX10_writeTextTo_30

theorem M_Src_kindOf : MwV yX8_kindOf cX8_kindOf 2 (some .int) 1 := ⟨li_2 171 (by decide +kernel) (by decide +kernel), li_2 170 (by decide +kernel) (by decide +kernel), lw_in 1 (by decide +kernel) (by decide +kernel), li_1 7 (by decide +kernel) (by decide +kernel), by decide +kernel⟩
theorem ln_RX8_34 : Cond.methodLink RX8 34 yX8_kindOf ∈ lw_good := li_2 168 (by decide +kernel) (by decide +kernel)
noncomputable def f_Src_advance_w5  (s : Int) (I : Mem) : Option (((Int) ⊕ (Int)) × Mem) :=
if (w32 s) < (w32 (I 6 0 1)) then
if 0 ≤ (w32 s) ∧ (w32 s) < 600 then
if (w32 (I 19 0 (w32 s).toNat)) = 32 then
some (.inl (s + 1), I)
else
if (w32 (I 19 0 (w32 s).toNat)) = 10 then
some (.inl (s + 1), I)
else
some (.inr s, I)
else none
else
some (.inr s, I)

noncomputable def f_Src_advance_w109 (v2 : Int) (s : Int) (I : Mem) : Option (((Int) ⊕ (Int)) × Mem) :=
if (w32 v2) = 0 then
some (.inr s, I)
else
if (w32 s) < (w32 (I 6 0 1)) then
if 0 ≤ (w32 s) ∧ (w32 s) < 600 then
bnd (f_Src_kindOf (I 19 0 (w32 s).toNat) I) fun x34 J33 =>
if (w32 x34) = (w32 (J33 6 0 2)) then
some (.inl (s + 1), J33)
else
some (.inr s, J33)
else none
else
some (.inr s, I)

noncomputable def f_Src_advance_j93 (v1 : Int)  (e0 : Int) (I : Mem) : Option ((Unit) × Mem) :=
bnd (whl (f_Src_advance_w109 e0) (v1 + (if (w32 (I 6 0 2)) = 0 then 0 else 1)) I) fun r52 J53 =>
ltI (sI J53 6 0 4 r52) fun J55 =>
some ((), J55)

noncomputable def f_Src_advance_j88 (v1 : Int)   (I : Mem) : Option ((Unit) × Mem) :=
f_Src_advance_j93 v1 1 I

noncomputable def f_Src_advance_j69 (v1 : Int)  (e0 : Int) (I : Mem) : Option ((Unit) × Mem) :=
ltI (sI I 6 0 2 e0) fun J26 =>
if (w32 (J26 6 0 2)) = 1 then
f_Src_advance_j88 v1 J26
else
if (w32 (J26 6 0 2)) = 2 then
f_Src_advance_j88 v1 J26
else
f_Src_advance_j93 v1 0 J26

noncomputable def f_Src_advance  (I : Mem) : Option ((Unit) × Mem) :=
bnd (whl (f_Src_advance_w5) (I 6 0 4) I) fun r16 J17 =>
ltI (sI J17 6 0 3 r16) fun J19 =>
if (w32 r16) < (w32 (J19 6 0 1)) then
if 0 ≤ (w32 r16) ∧ (w32 r16) < 600 then
bnd (f_Src_kindOf (J19 19 0 (w32 r16).toNat) J19) fun x24 J23 =>
f_Src_advance_j69 r16 x24 J23
else none
else
f_Src_advance_j69 r16 0 J19
set_option maxRecDepth 20000 in
theorem R_Src_advance (Z : ZT)  (I : Mem) (r : Unit) (J : Mem) (hf : f_Src_advance I = some (r, J)) : Runs Z yX8_advance cX8_advance 3 (none) 2 [vr Z 6 0] I (none, J) := by
  refine Runs.of (rv := fun _ => none) (by decide +kernel) (Nat.le_of_ble_eq_true rfl) hf (fun gr => ?_)
  unfold f_Src_advance
  refine WQ.loc [0] (lv' := [(0, vr Z 6 0)]) rfl ?_
  refine wq_aload_n dX8_advance_0 0 rfl rfl ?_
  refine g_6_4 ln_RX8_19 dX8_advance_1 ?_
  refine wq_istore_n (lv' := [(1, vi (I 6 0 4)), (0, vr Z 6 0)]) dX8_advance_4 rfl (by decide) rfl ?_
  refine WQ.loc [1, 0] (lv' := [(0, vr Z 6 0), (1, vi (I 6 0 4))]) rfl ?_
  refine wq_loopS (fun s11 => [(0, vr Z 6 0), (1, vi s11)]) 41 (fun r16 => [(0, vr Z 6 0), (1, vi r16)]) (fun κ5 bk6 ex7 gr10 s11 J9 => ?_) (fun gr18 r16 J17 => ?_) gr _ rfl
  · unfold f_Src_advance_w5
    refine wq_iload_n dX8_advance_5 1 rfl rfl ?_
    refine wq_aload_n dX8_advance_6 0 rfl rfl ?_
    refine g_6_1 ln_RX8_15 dX8_advance_7 ?_
    refine wq_icmp_ge 41 dX8_advance_10 (by decide) rfl rfl (fun c15 => ?_) (fun c15 => ?_)
    · refine wq_aload_n dX8_advance_13 0 rfl rfl ?_
      refine g_6_0 ln_RX8_9 dX8_advance_14 ?_
      refine wq_iload_n dX8_advance_17 1 rfl rfl ?_
      refine wq_grd (fun g12 => ?_)
      refine wq_iald (k := 19) (i := 0) rfl (by decide) rfl rfl (m := 600) g12 (Nat.le_refl _) dX8_advance_18 ?_
      refine wq_bipush dX8_advance_19 (by decide) ?_
      refine wq_icmp_eq 35 dX8_advance_21 (by decide) rfl rfl (fun c14 => ?_) (fun c14 => ?_)
      · refine wq_iinc (lv' := [(1, vi (s11 + 1)), (0, vr Z 6 0)]) dX8_advance_35 1 rfl (by decide) rfl ?_
        refine wq_goto 5 dX8_advance_38 (by decide) ?_
        exact WQ.loc [1, 0] rfl (bk6 _ _ _)
      · refine wq_aload_n dX8_advance_24 0 rfl rfl ?_
        refine g_6_0 ln_RX8_9 dX8_advance_25 ?_
        refine wq_iload_n dX8_advance_28 1 rfl rfl ?_
        refine wq_iald (k := 19) (i := 0) rfl (by decide) rfl rfl (m := 600) g12 (Nat.le_refl _) dX8_advance_29 ?_
        refine wq_bipush dX8_advance_30 (by decide) ?_
        refine wq_icmp_ne 41 dX8_advance_32 (by decide) rfl rfl (fun c13 => ?_) (fun c13 => ?_)
        · refine wq_iinc (lv' := [(1, vi (s11 + 1)), (0, vr Z 6 0)]) dX8_advance_35 1 rfl (by decide) rfl ?_
          refine wq_goto 5 dX8_advance_38 (by decide) ?_
          exact WQ.loc [1, 0] rfl (bk6 _ _ _)
        · exact WQ.loc [0, 1] rfl (ex7 _ _ _)
    · exact WQ.loc [0, 1] rfl (ex7 _ _ _)
  · refine wq_aload_n dX8_advance_41 0 rfl rfl ?_
    refine wq_iload_n dX8_advance_42 1 rfl rfl ?_
    refine p_6_3 ln_RX8_31 dX8_advance_43 (fun J19 => ?_)
    refine wq_aload_n dX8_advance_46 0 rfl rfl ?_
    refine wq_iload_n dX8_advance_47 1 rfl rfl ?_
    refine wq_aload_n dX8_advance_48 0 rfl rfl ?_
    refine g_6_1 ln_RX8_15 dX8_advance_49 ?_
    have hj20 : ∀ (gr83 : Nat → Nat)  (hj20e0 : Int) (J82 : Mem), WQ Z (yX8_advance, cX8_advance, 3, none, 2) I gr83 69 [(0, vr Z 6 0), (1, vi r16)] [vi hj20e0, vr Z 6 0] J82 (f_Src_advance_j69 r16 hj20e0 J82) (fun b K => some (.inl ((fun _ => none) b), K)) := by
      intro gr83 hj20e0 J82
      unfold f_Src_advance_j69
      refine p_6_2 ln_RX8_38 dX8_advance_69 (fun J84 => ?_)
      refine wq_aload_n dX8_advance_72 0 rfl rfl ?_
      refine g_6_2 ln_RX8_38 dX8_advance_73 ?_
      refine wq_iconst dX8_advance_76 ?_
      have hj85 : ∀ (gr90 : Nat → Nat)  (hj85e0 : Int) (J89 : Mem), WQ Z (yX8_advance, cX8_advance, 3, none, 2) I gr90 93 [(0, vr Z 6 0), (1, vi r16)] [vi hj85e0] J89 (f_Src_advance_j93 r16 hj85e0 J89) (fun b K => some (.inl ((fun _ => none) b), K)) := by
        intro gr90 hj85e0 J89
        unfold f_Src_advance_j93
        refine wq_istore_n (lv' := [(2, vi hj85e0), (0, vr Z 6 0), (1, vi r16)]) dX8_advance_93 rfl (by decide) rfl ?_
        refine wq_iload_n dX8_advance_94 2 rfl rfl ?_
        refine wq_aload_n dX8_advance_95 1 rfl rfl ?_
        refine g_6_2 ln_RX8_38 dX8_advance_96 ?_
        refine WQ.via 107 [vi (if (w32 (J89 6 0 2)) = 0 then 0 else 1), vi r16] (by
            refine wq_iadd dX8_advance_107 ?_
            refine wq_istore_n (lv' := [(1, vi (r16 + (if (w32 (J89 6 0 2)) = 0 then 0 else 1))), (2, vi hj85e0), (0, vr Z 6 0)]) dX8_advance_108 rfl (by decide) rfl ?_
            refine WQ.loc [2, 0, 1] (lv' := [(0, vr Z 6 0), (1, vi (r16 + (if (w32 (J89 6 0 2)) = 0 then 0 else 1))), (2, vi hj85e0)]) rfl ?_
            refine wq_loopS (fun s97 => [(0, vr Z 6 0), (1, vi s97), (2, vi hj85e0)]) 144 (fun r105 => [(0, vr Z 6 0), (1, vi r105)]) (fun κ91 bk92 ex93 gr96 s97 J95 => ?_) (fun gr107 r105 J106 => ?_) gr90 _ rfl
            · unfold f_Src_advance_w109
              refine wq_iload_n dX8_advance_109 2 rfl rfl ?_
              refine wq_if_eq 144 dX8_advance_110 (by decide) rfl (fun c104 => ?_) (fun c104 => ?_)
              · exact WQ.loc [0, 1] rfl (ex93 _ _ _)
              · refine wq_iload_n dX8_advance_113 1 rfl rfl ?_
                refine wq_aload_n dX8_advance_114 0 rfl rfl ?_
                refine g_6_1 ln_RX8_15 dX8_advance_115 ?_
                refine wq_icmp_ge 144 dX8_advance_118 (by decide) rfl rfl (fun c103 => ?_) (fun c103 => ?_)
                · refine wq_aload_n dX8_advance_121 0 rfl rfl ?_
                  refine wq_aload_n dX8_advance_122 0 rfl rfl ?_
                  refine g_6_0 ln_RX8_9 dX8_advance_123 ?_
                  refine wq_iload_n dX8_advance_126 1 rfl rfl ?_
                  refine wq_grd (fun g98 => ?_)
                  refine wq_iald (k := 19) (i := 0) rfl (by decide) rfl rfl (m := 600) g98 (Nat.le_refl _) dX8_advance_127 ?_
                  refine wq_cVi M_Src_kindOf (R_Src_kindOf Z (J95 19 0 (w32 s97).toNat) _) ob_6 rfl rfl (by decide) (by decide) (Nat.le_of_ble_eq_true rfl) ln_RX8_34 dX8_advance_128 (fun gr99 x101 J100 => ?_)
                  refine wq_aload_n dX8_advance_131 0 rfl rfl ?_
                  refine g_6_2 ln_RX8_38 dX8_advance_132 ?_
                  refine wq_icmp_ne 144 dX8_advance_135 (by decide) rfl rfl (fun c102 => ?_) (fun c102 => ?_)
                  · refine wq_iinc (lv' := [(1, vi (s97 + 1)), (0, vr Z 6 0), (2, vi hj85e0)]) dX8_advance_138 1 rfl (by decide) rfl ?_
                    refine wq_goto 109 dX8_advance_141 (by decide) ?_
                    exact WQ.loc [1, 0, 2] rfl (bk92 _ _ _)
                  · exact WQ.loc [0, 1] rfl (ex93 _ _ _)
                · exact WQ.loc [0, 1] rfl (ex93 _ _ _)
            · refine wq_aload_n dX8_advance_144 0 rfl rfl ?_
              refine wq_iload_n dX8_advance_145 1 rfl rfl ?_
              refine p_6_4 ln_RX8_19 dX8_advance_146 (fun J108 => ?_)
              exact wq_vret rfl rfl dX8_advance_149) (fun hj109 => ?_)
        refine WQ.both ((w32 (J89 6 0 2)) = 0) ?_
        refine wq_if_ne 106 dX8_advance_99 (by decide) rfl (fun c110 => ?_) (fun c110 => ?_)
        · refine wq_iconst dX8_advance_102 ?_
          refine wq_goto 107 dX8_advance_103 (by decide) ?_
          exact WQ.top (if_pos c110) hj109
        · refine wq_iconst dX8_advance_106 ?_
          exact WQ.top (if_neg c110) hj109
      have hj86 : ∀ (gr112 : Nat → Nat)   (J111 : Mem), WQ Z (yX8_advance, cX8_advance, 3, none, 2) I gr112 88 [(0, vr Z 6 0), (1, vi r16)] [] J111 (f_Src_advance_j88 r16 J111) (fun b K => some (.inl ((fun _ => none) b), K)) := by
        intro gr112 J111
        unfold f_Src_advance_j88
        refine wq_iconst dX8_advance_88 ?_
        refine wq_goto 93 dX8_advance_89 (by decide) ?_
        exact WQ.loc [0, 1] rfl (hj85 _  _ _)
      refine wq_icmp_eq 88 dX8_advance_77 (by decide) rfl rfl (fun c88 => ?_) (fun c88 => ?_)
      · exact WQ.loc [0, 1] rfl (hj86 _   _)
      · refine wq_aload_n dX8_advance_80 0 rfl rfl ?_
        refine g_6_2 ln_RX8_38 dX8_advance_81 ?_
        refine wq_iconst dX8_advance_84 ?_
        refine wq_icmp_ne 92 dX8_advance_85 (by decide) rfl rfl (fun c87 => ?_) (fun c87 => ?_)
        · exact WQ.loc [0, 1] rfl (hj86 _   _)
        · refine wq_iconst dX8_advance_92 ?_
          exact WQ.loc [0, 1] rfl (hj85 _  _ _)
    refine wq_icmp_ge 68 dX8_advance_52 (by decide) rfl rfl (fun c25 => ?_) (fun c25 => ?_)
    · refine wq_aload_n dX8_advance_55 0 rfl rfl ?_
      refine wq_aload_n dX8_advance_56 0 rfl rfl ?_
      refine g_6_0 ln_RX8_9 dX8_advance_57 ?_
      refine wq_iload_n dX8_advance_60 1 rfl rfl ?_
      refine wq_grd (fun g21 => ?_)
      refine wq_iald (k := 19) (i := 0) rfl (by decide) rfl rfl (m := 600) g21 (Nat.le_refl _) dX8_advance_61 ?_
      refine wq_cVi M_Src_kindOf (R_Src_kindOf Z (J19 19 0 (w32 r16).toNat) _) ob_6 rfl rfl (by decide) (by decide) (Nat.le_of_ble_eq_true rfl) ln_RX8_34 dX8_advance_62 (fun gr22 x24 J23 => ?_)
      refine wq_goto 69 dX8_advance_65 (by decide) ?_
      exact WQ.loc [0, 1] rfl (hj20 _  _ _)
    · refine wq_iconst dX8_advance_68 ?_
      exact WQ.loc [0, 1] rfl (hj20 _  _ _)

theorem ln_RX8_55 : Cond.fieldLink RX8 55 RX11 "OTHER" "LPairRules$Word;" ∈ lw_good := li_2 238 (by decide +kernel) (by decide +kernel)
theorem ln_RX8_41 : Cond.fieldLink RX8 41 RX8 "WORDS" "[LPairRules$Word;" ∈ lw_good := li_2 180 (by decide +kernel) (by decide +kernel)
theorem ln_RX8_45 : Cond.fieldLinkNest RX8 45 RX11 "text" "Ljava/lang/String;" RX12 ∈ lw_nw := nw_in 2319 (by decide +kernel) (by decide +kernel)
theorem M_Src_spells : MwV yX8_spells cX8_spells 3 (some .boolean) 1 := ⟨li_2 185 (by decide +kernel) (by decide +kernel), li_2 184 (by decide +kernel) (by decide +kernel), lw_in 3 (by decide +kernel) (by decide +kernel), li_1 7 (by decide +kernel) (by decide +kernel), by decide +kernel⟩
theorem ln_RX8_51 : Cond.methodLink RX8 51 yX8_spells ∈ lw_good := li_2 182 (by decide +kernel) (by decide +kernel)
noncomputable def f_Src_word_w10  (s : Int) (I : Mem) : Option (((Int) ⊕ (Nat)) × Mem) :=
if (w32 s) < 15 then
if 0 ≤ (w32 s) ∧ (w32 s) < 15 then
bnd (f_Src_spells ((w32 s).toNat) I) fun x4 J3 =>
if (w32 x4) = 0 then
some (.inl (s + 1), J3)
else
if 0 ≤ (w32 s) ∧ (w32 s) < 15 then
some (.inr ((w32 s).toNat), J3)
else none
else none
else
some (.inr (14), I)

noncomputable def f_Src_word  (I : Mem) : Option ((Nat) × Mem) :=
if (w32 (I 6 0 2)) = 1 then
whl (f_Src_word_w10) 0 I
else
some (14, I)
set_option maxRecDepth 20000 in
theorem R_Src_word (Z : ZT)  (I : Mem) (r : Nat) (J : Mem) (hf : f_Src_word I = some (r, J)) : Runs Z yX8_word cX8_word 2 (some (.object RX11)) 6 [vr Z 6 0] I (some (vr Z 11 r), J) := by
  refine Runs.of (rv := fun x => some (vr Z 11 x)) (by decide +kernel) (Nat.le_of_ble_eq_true rfl) hf (fun gr => ?_)
  unfold f_Src_word
  refine WQ.loc [0] (lv' := [(0, vr Z 6 0)]) rfl ?_
  refine wq_aload_n dX8_word_0 0 rfl rfl ?_
  refine g_6_2 ln_RX8_38 dX8_word_1 ?_
  refine wq_iconst dX8_word_4 ?_
  refine wq_icmp_ne 45 dX8_word_5 (by decide) rfl rfl (fun c22 => ?_) (fun c22 => ?_)
  · refine wq_iconst dX8_word_8 ?_
    refine wq_istore_n (lv' := [(1, vi 0), (0, vr Z 6 0)]) dX8_word_9 rfl (by decide) rfl ?_
    refine WQ.loc [1, 0] (lv' := [(0, vr Z 6 0), (1, vi 0)]) rfl ?_
    refine wq_loop (fun s14 => [(0, vr Z 6 0), (1, vi s14)]) (fun κ8 bk9 hr11 gr13 s14 J12 => ?_) gr _ rfl
    unfold f_Src_word_w10
    refine wq_iload_n dX8_word_10 1 rfl rfl ?_
    refine wq_gets sta_WORDS ln_RX8_41 dX8_word_11 ?_
    refine wq_WORDSlen dX8_word_14 ?_
    refine wq_icmp_ge 45 dX8_word_15 (by decide) rfl rfl (fun c21 => ?_) (fun c21 => ?_)
    · refine wq_aload_n dX8_word_18 0 rfl rfl ?_
      refine wq_gets sta_WORDS ln_RX8_41 dX8_word_19 ?_
      refine wq_iload_n dX8_word_22 1 rfl rfl ?_
      refine wq_grd (fun g15 => ?_)
      refine wq_WORDS rfl g15 dX8_word_23 ?_
      refine wq_wtext (by omega) ln_RX8_45 dX8_word_24 ?_
      refine wq_cVi M_Src_spells (R_Src_spells Z ((w32 s14).toNat) _) ob_6 rfl rfl (by decide) (by decide) (Nat.le_of_ble_eq_true rfl) ln_RX8_51 dX8_word_27 (fun gr16 x18 J17 => ?_)
      refine wq_if_eq 39 dX8_word_30 (by decide) rfl (fun c20 => ?_) (fun c20 => ?_)
      · refine wq_iinc (lv' := [(1, vi (s14 + 1)), (0, vr Z 6 0)]) dX8_word_39 1 rfl (by decide) rfl ?_
        refine wq_goto 10 dX8_word_42 (by decide) ?_
        exact WQ.loc [1, 0] rfl (bk9 _ _ _)
      · refine wq_gets sta_WORDS ln_RX8_41 dX8_word_33 ?_
        refine wq_iload_n dX8_word_36 1 rfl rfl ?_
        refine wq_grd (fun g19 => ?_)
        refine wq_WORDS rfl g19 dX8_word_37 ?_
        exact wq_aret rfl (Or.inl ⟨_, rfl⟩) ((hr11 _ _).trans rfl) dX8_word_38
    · refine wq_gets (sta_word 14 (by decide)) ln_RX8_55 dX8_word_45 ?_
      exact wq_aret rfl (Or.inl ⟨_, rfl⟩) ((hr11 _ _).trans rfl) dX8_word_48
  · refine wq_gets (sta_word 14 (by decide)) ln_RX8_55 dX8_word_45 ?_
    exact wq_aret rfl (Or.inl ⟨_, rfl⟩) rfl dX8_word_48

theorem M_Src_failAt : MwV yX8_failAt cX8_failAt 3 (some .boolean) 2 := ⟨li_3 8 (by decide +kernel) (by decide +kernel), li_3 6 (by decide +kernel) (by decide +kernel), li_3 7 (by decide +kernel) (by decide +kernel), li_1 7 (by decide +kernel) (by decide +kernel), by decide +kernel⟩
theorem ln_RX8_79 : Cond.methodLink RX8 79 yX8_failAt ∈ lw_good := li_3 5 (by decide +kernel) (by decide +kernel)
noncomputable def f_Src_fail (a1 : Int) (I : Mem) : Option ((Int) × Mem) :=
bnd (f_Src_failAt a1 (I 6 0 3) I) fun x3 J2 =>
if x3 = 0 ∨ x3 = 1 then
some (x3, J2)
else none
set_option maxRecDepth 20000 in
theorem R_Src_fail (Z : ZT) (a1 : Int) (I : Mem) (r : Int) (J : Mem) (hf : f_Src_fail a1 I = some (r, J)) : Runs Z yX8_fail cX8_fail 2 (some .boolean) 2 [vr Z 6 0, vi a1] I (some (vi r), J) := by
  refine Runs.of (rv := fun x => some (vi x)) (by decide +kernel) (Nat.le_of_ble_eq_true rfl) hf (fun gr => ?_)
  unfold f_Src_fail
  refine WQ.loc [0, 1] (lv' := [(0, vr Z 6 0), (1, vi a1)]) rfl ?_
  refine wq_aload_n dX8_fail_0 0 rfl rfl ?_
  refine wq_iload_n dX8_fail_1 1 rfl rfl ?_
  refine wq_aload_n dX8_fail_2 0 rfl rfl ?_
  refine g_6_3 ln_RX8_31 dX8_fail_3 ?_
  refine wq_cVi M_Src_failAt (R_Src_failAt Z a1 (I 6 0 3) _) ob_6 rfl rfl (by decide) (by decide) (Nat.le_of_ble_eq_true rfl) ln_RX8_79 dX8_fail_6 (fun gr1 x3 J2 => ?_)
  refine wq_grd (fun g4 => ?_)
  exact wq_zret rfl g4 rfl dX8_fail_9

theorem ln_RX7_9 : Cond.fieldLink RX7 9 RX7 "source" "LPairRules$Source;" ∈ lw_good := li_1 208 (by decide +kernel) (by decide +kernel)
theorem M_Src_manyInToken : MwV yX8_manyInToken cX8_manyInToken 1 (some .int) 0 := ⟨li_3 29 (by decide +kernel) (by decide +kernel), li_3 27 (by decide +kernel) (by decide +kernel), li_3 28 (by decide +kernel) (by decide +kernel), li_1 7 (by decide +kernel) (by decide +kernel), by decide +kernel⟩
theorem ln_RX7_110 : Cond.methodLink RX7 110 yX8_manyInToken ∈ lw_good := li_3 26 (by decide +kernel) (by decide +kernel)
theorem ln_RX7_90 : Cond.fieldLink RX7 90 RX7 "length" "I" ∈ lw_good := li_1 211 (by decide +kernel) (by decide +kernel)
theorem M_Src_from : MwV yX8_from cX8_from 1 (some .int) 0 := ⟨li_3 33 (by decide +kernel) (by decide +kernel), li_3 31 (by decide +kernel) (by decide +kernel), li_3 32 (by decide +kernel) (by decide +kernel), li_1 7 (by decide +kernel) (by decide +kernel), by decide +kernel⟩
theorem ln_RX7_113 : Cond.methodLink RX7 113 yX8_from ∈ lw_good := li_3 30 (by decide +kernel) (by decide +kernel)
theorem ln_RX7_120 : Cond.methodLink RX7 120 yX5_put ∈ lw_good := li_3 35 (by decide +kernel) (by decide +kernel)
theorem ln_RX7_116 : Cond.methodLink RX7 116 yX8_byteAt ∈ lw_good := li_3 34 (by decide +kernel) (by decide +kernel)
theorem M_Src_advance : MwV yX8_advance cX8_advance 3 (none) 0 := ⟨li_2 167 (by decide +kernel) (by decide +kernel), li_2 165 (by decide +kernel) (by decide +kernel), li_2 166 (by decide +kernel) (by decide +kernel), li_1 7 (by decide +kernel) (by decide +kernel), by decide +kernel⟩
theorem ln_RX7_67 : Cond.methodLink RX7 67 yX8_advance ∈ lw_good := li_3 9 (by decide +kernel) (by decide +kernel)
theorem M_Src_fail : MwV yX8_fail cX8_fail 2 (some .boolean) 1 := ⟨li_3 4 (by decide +kernel) (by decide +kernel), li_3 2 (by decide +kernel) (by decide +kernel), li_3 3 (by decide +kernel) (by decide +kernel), li_1 7 (by decide +kernel) (by decide +kernel), by decide +kernel⟩
theorem ln_RX7_63 : Cond.methodLink RX7 63 yX8_fail ∈ lw_good := li_3 1 (by decide +kernel) (by decide +kernel)
noncomputable def f_Set_readLetters_w31 (v1 : Nat) (v2 : Int) (s : Int) (I : Mem) : Option (((Int) ⊕ (Unit)) × Mem) :=
if (w32 s) < (w32 v2) then
bnd (f_Src_byteAt ((I 6 0 3) + s) I) fun x5 J4 =>
bnd (f_Row_put v1 (x5 - 97) J4) fun _ J7 =>
some (.inl (s + 1), J7)
else
some (.inr (), I)

noncomputable def f_Set_readLetters (a1 : Nat) (I : Mem) : Option ((Int) × Mem) :=
if a1 < 516 then
if 400 < (w32 ((I 7 0 3) + ((I 6 0 4) - (I 6 0 3)))) then
bnd (f_Src_fail 5 I) fun x34 J33 =>
if x34 = 0 ∨ x34 = 1 then
some (x34, J33)
else none
else
bnd (whl (f_Set_readLetters_w31 a1 ((I 6 0 4) - (I 6 0 3))) 0 I) fun r25 J26 =>
ltI (sI J26 7 0 3 ((J26 7 0 3) + ((I 6 0 4) - (I 6 0 3)))) fun J28 =>
bnd (f_Src_advance J28) fun _ J30 =>
some (1, J30)
else none
set_option maxRecDepth 20000 in
theorem R_Set_readLetters (Z : ZT) (a1 : Nat) (I : Mem) (r : Int) (J : Mem) (hf : f_Set_readLetters a1 I = some (r, J)) : Runs Z yX7_readLetters cX7_readLetters 4 (some .boolean) 3 [vr Z 7 0, vr Z 2 a1] I (some (vi r), J) := by
  refine Runs.of (rv := fun x => some (vi x)) (by decide +kernel) (Nat.le_of_ble_eq_true rfl) hf (fun gr => ?_)
  unfold f_Set_readLetters
  refine WQ.loc [0, 1] (lv' := [(0, vr Z 7 0), (1, vr Z 2 a1)]) rfl ?_
  refine wq_grd (fun h1 => ?_)
  refine wq_aload_n dX7_readLetters_0 0 rfl rfl ?_
  refine g_7_0 ln_RX7_9 dX7_readLetters_1 ?_
  refine wq_pV (v := vi ((I 6 0 4) - (I 6 0 3))) M_Src_manyInToken (R_Src_manyInToken Z  _ _ _ rfl) ob_6 rfl rfl (by decide) (by decide) (Nat.le_of_ble_eq_true rfl) ln_RX7_110 dX7_readLetters_4 (fun gr1 => ?_)
  refine wq_istore_n (lv' := [(2, vi ((I 6 0 4) - (I 6 0 3))), (0, vr Z 7 0), (1, vr Z 2 a1)]) dX7_readLetters_7 rfl (by decide) rfl ?_
  refine wq_aload_n dX7_readLetters_8 1 rfl rfl ?_
  refine g_7_3 ln_RX7_90 dX7_readLetters_9 ?_
  refine wq_iload_n dX7_readLetters_12 0 rfl rfl ?_
  refine wq_iadd dX7_readLetters_13 ?_
  refine wq_sipush dX7_readLetters_14 (by decide) ?_
  refine wq_icmp_le 29 dX7_readLetters_17 (by decide) rfl rfl (fun c36 => ?_) (fun c36 => ?_)
  · refine wq_aload_n dX7_readLetters_20 1 rfl rfl ?_
    refine g_7_0 ln_RX7_9 dX7_readLetters_21 ?_
    refine wq_iconst dX7_readLetters_24 ?_
    refine wq_cVi M_Src_fail (R_Src_fail Z 5 _) ob_6 rfl rfl (by decide) (by decide) (Nat.le_of_ble_eq_true rfl) ln_RX7_63 dX7_readLetters_25 (fun gr32 x34 J33 => ?_)
    refine wq_grd (fun g35 => ?_)
    exact wq_zret rfl g35 rfl dX7_readLetters_28
  · refine wq_iconst dX7_readLetters_29 ?_
    refine wq_istore_n (lv' := [(3, vi 0), (2, vi ((I 6 0 4) - (I 6 0 3))), (0, vr Z 7 0), (1, vr Z 2 a1)]) dX7_readLetters_30 rfl (by decide) rfl ?_
    refine WQ.loc [2, 3, 1, 0] (lv' := [(0, vr Z 7 0), (1, vr Z 2 a1), (2, vi ((I 6 0 4) - (I 6 0 3))), (3, vi 0)]) rfl ?_
    refine wq_loopS (fun s16 => [(0, vr Z 7 0), (1, vr Z 2 a1), (2, vi ((I 6 0 4) - (I 6 0 3))), (3, vi s16)]) 65 (fun _ => [(0, vr Z 7 0), (2, vi ((I 6 0 4) - (I 6 0 3)))]) (fun κ10 bk11 ex12 gr15 s16 J14 => ?_) (fun gr27 r25 J26 => ?_) gr1 _ rfl
    · unfold f_Set_readLetters_w31
      refine wq_iload_n dX7_readLetters_31 3 rfl rfl ?_
      refine wq_iload_n dX7_readLetters_32 2 rfl rfl ?_
      refine wq_icmp_ge 65 dX7_readLetters_33 (by decide) rfl rfl (fun c24 => ?_) (fun c24 => ?_)
      · refine wq_aload_n dX7_readLetters_36 1 rfl rfl ?_
        refine wq_aload_n dX7_readLetters_37 0 rfl rfl ?_
        refine g_7_0 ln_RX7_9 dX7_readLetters_38 ?_
        refine wq_aload_n dX7_readLetters_41 0 rfl rfl ?_
        refine g_7_0 ln_RX7_9 dX7_readLetters_42 ?_
        refine wq_pV (v := vi (J14 6 0 3)) M_Src_from (R_Src_from Z  _ _ _ rfl) ob_6 rfl rfl (by decide) (by decide) (Nat.le_of_ble_eq_true rfl) ln_RX7_113 dX7_readLetters_45 (fun gr17 => ?_)
        refine wq_iload_n dX7_readLetters_48 3 rfl rfl ?_
        refine wq_iadd dX7_readLetters_49 ?_
        refine wq_cVi M_Src_byteAt (R_Src_byteAt Z ((J14 6 0 3) + s16) _) ob_6 rfl rfl (by decide) (by decide) (Nat.le_of_ble_eq_true rfl) ln_RX7_116 dX7_readLetters_50 (fun gr18 x20 J19 => ?_)
        refine wq_bipush dX7_readLetters_53 (by decide) ?_
        refine wq_isub dX7_readLetters_55 ?_
        refine wq_cVv M_Row_put (R_Row_put Z a1 (x20 - 97) _) (ob_2 h1) rfl rfl (by decide) (by decide) (Nat.le_of_ble_eq_true rfl) ln_RX7_120 dX7_readLetters_56 (fun gr21 _ J22 => ?_)
        refine wq_iinc (lv' := [(3, vi (s16 + 1)), (0, vr Z 7 0), (1, vr Z 2 a1), (2, vi ((I 6 0 4) - (I 6 0 3)))]) dX7_readLetters_59 3 rfl (by decide) rfl ?_
        refine wq_goto 31 dX7_readLetters_62 (by decide) ?_
        exact WQ.loc [1, 2, 3, 0] rfl (bk11 _ _ _)
      · exact WQ.loc [0, 2] rfl (ex12 _ _ _)
    · refine wq_aload_n dX7_readLetters_65 0 rfl rfl ?_
      refine wq_dup dX7_readLetters_66 rfl ?_
      refine g_7_3 ln_RX7_90 dX7_readLetters_67 ?_
      refine wq_iload_n dX7_readLetters_70 1 rfl rfl ?_
      refine wq_iadd dX7_readLetters_71 ?_
      refine p_7_3 ln_RX7_90 dX7_readLetters_72 (fun J28 => ?_)
      refine wq_aload_n dX7_readLetters_75 0 rfl rfl ?_
      refine g_7_0 ln_RX7_9 dX7_readLetters_76 ?_
      refine wq_cVv M_Src_advance (R_Src_advance Z _) ob_6 rfl rfl (by decide) (by decide) (Nat.le_of_ble_eq_true rfl) ln_RX7_67 dX7_readLetters_79 (fun gr29 _ J30 => ?_)
      refine wq_iconst dX7_readLetters_82 ?_
      exact wq_zret rfl (by decide) rfl dX7_readLetters_83

theorem M_Src_is : MwV yX8_is cX8_is 2 (some .boolean) 1 := ⟨li_3 21 (by decide +kernel) (by decide +kernel), li_3 19 (by decide +kernel) (by decide +kernel), li_3 20 (by decide +kernel) (by decide +kernel), li_1 7 (by decide +kernel) (by decide +kernel), by decide +kernel⟩
theorem ln_RX6_129 : Cond.fieldLink RX6 129 RX11 "MAKE" "LPairRules$Word;" ∈ lw_good := li_3 217 (by decide +kernel) (by decide +kernel)
theorem ln_RX6_132 : Cond.methodLink RX6 132 yX8_manyInToken ∈ lw_good := li_3 219 (by decide +kernel) (by decide +kernel)
theorem ln_RX6_70 : Cond.methodLink RX6 70 yX8_fail ∈ lw_good := li_3 210 (by decide +kernel) (by decide +kernel)
theorem ln_RX6_135 : Cond.methodLink RX6 135 yX8_from ∈ lw_good := li_3 220 (by decide +kernel) (by decide +kernel)
theorem ln_RX6_80 : Cond.methodLink RX6 80 yX8_advance ∈ lw_good := li_3 203 (by decide +kernel) (by decide +kernel)
theorem ln_RX6_59 : Cond.methodLink RX6 59 yX8_is ∈ lw_good := li_3 191 (by decide +kernel) (by decide +kernel)
noncomputable def f_Scr_readLetters_j52 (v1 : Int)   (I : Mem) : Option ((Int) × Mem) :=
if 0 ≤ (w32 v1) ∧ (w32 v1) < 60 then
ltI (sI I 21 1 (w32 v1).toNat (I 6 0 3)) fun J17 =>
ltI (sI J17 21 2 (w32 v1).toNat ((J17 6 0 4) - (J17 6 0 3))) fun J19 =>
bnd (f_Src_advance J19) fun _ J21 =>
some (1, J21)
else none

noncomputable def f_Scr_readLetters (a1 : Int) (I : Mem) : Option ((Int) × Mem) :=
bnd (f_Src_is 1 I) fun x3 J2 =>
if (w32 x3) = 0 then
bnd (f_Src_fail 1 J2) fun x35 J34 =>
if x35 = 0 ∨ x35 = 1 then
some (x35, J34)
else none
else
if 0 ≤ (w32 a1) ∧ (w32 a1) < 60 then
if (J2 20 0 (w32 a1).toNat).toNat < 15 then
if (J2 20 0 (w32 a1).toNat).toNat = 8 then
if (w32 ((J2 6 0 4) - (J2 6 0 3))) = 2 then
f_Scr_readLetters_j52 a1 J2
else
bnd (f_Src_fail 4 J2) fun x11 J10 =>
if x11 = 0 ∨ x11 = 1 then
some (x11, J10)
else none
else
f_Scr_readLetters_j52 a1 J2
else none
else none
set_option maxRecDepth 20000 in
theorem R_Scr_readLetters (Z : ZT) (a1 : Int) (I : Mem) (r : Int) (J : Mem) (hf : f_Scr_readLetters a1 I = some (r, J)) : Runs Z yX6_readLetters cX6_readLetters 2 (some .boolean) 3 [vr Z 8 0, vi a1] I (some (vi r), J) := by
  refine Runs.of (rv := fun x => some (vi x)) (by decide +kernel) (Nat.le_of_ble_eq_true rfl) hf (fun gr => ?_)
  unfold f_Scr_readLetters
  refine WQ.loc [0, 1] (lv' := [(0, vr Z 8 0), (1, vi a1)]) rfl ?_
  refine wq_aload_n dX6_readLetters_0 0 rfl rfl ?_
  refine g_8_0 ln_RX6_36 dX6_readLetters_1 ?_
  refine wq_iconst dX6_readLetters_4 ?_
  refine wq_cVi M_Src_is (R_Src_is Z 1 _) ob_6 rfl rfl (by decide) (by decide) (Nat.le_of_ble_eq_true rfl) ln_RX6_59 dX6_readLetters_5 (fun gr1 x3 J2 => ?_)
  refine wq_if_ne 20 dX6_readLetters_8 (by decide) rfl (fun c37 => ?_) (fun c37 => ?_)
  · refine wq_aload_n dX6_readLetters_11 0 rfl rfl ?_
    refine g_8_0 ln_RX6_36 dX6_readLetters_12 ?_
    refine wq_iconst dX6_readLetters_15 ?_
    refine wq_cVi M_Src_fail (R_Src_fail Z 1 _) ob_6 rfl rfl (by decide) (by decide) (Nat.le_of_ble_eq_true rfl) ln_RX6_70 dX6_readLetters_16 (fun gr33 x35 J34 => ?_)
    refine wq_grd (fun g36 => ?_)
    exact wq_zret rfl g36 rfl dX6_readLetters_19
  · refine wq_aload_n dX6_readLetters_20 0 rfl rfl ?_
    refine g_8_1 ln_RX6_13 dX6_readLetters_21 ?_
    refine wq_iload_n dX6_readLetters_24 1 rfl rfl ?_
    refine wq_grd (fun g4 => ?_)
    refine wq_aald (k := 20) (i := 0) (t0 := 6) rfl rfl (by decide) rfl rfl (m := 60) g4 (Nat.le_refl _) dX6_readLetters_25 ?_
    refine wq_grd (fun g5 => ?_)
    refine wq_gets (sta_word 8 (by decide)) ln_RX6_129 dX6_readLetters_26 ?_
    have hj7 : ∀ (gr24 : Nat → Nat)   (J23 : Mem), WQ Z (yX6_readLetters, cX6_readLetters, 2, some .boolean, 3) I gr24 52 [(0, vr Z 8 0), (1, vi a1)] [] J23 (f_Scr_readLetters_j52 a1 J23) (fun b K => some (.inl ((fun x => some (vi x)) b), K)) := by
      intro gr24 J23
      unfold f_Scr_readLetters_j52
      refine wq_aload_n dX6_readLetters_52 0 rfl rfl ?_
      refine g_8_3 ln_RX6_21 dX6_readLetters_53 ?_
      refine wq_iload_n dX6_readLetters_56 1 rfl rfl ?_
      refine wq_aload_n dX6_readLetters_57 0 rfl rfl ?_
      refine g_8_0 ln_RX6_36 dX6_readLetters_58 ?_
      refine wq_pV (v := vi (J23 6 0 3)) M_Src_from (R_Src_from Z  _ _ _ rfl) ob_6 rfl rfl (by decide) (by decide) (Nat.le_of_ble_eq_true rfl) ln_RX6_135 dX6_readLetters_61 (fun gr25 => ?_)
      refine wq_grd (fun g26 => ?_)
      refine wq_iast (k := 21) (i := 1) (fun _ _ => rfl) (by decide) rfl rfl (m := 60) g26 (by decide) (by decide) (by decide) (by decide) dX6_readLetters_64 (fun J27 => ?_)
      refine wq_aload_n dX6_readLetters_65 0 rfl rfl ?_
      refine g_8_4 ln_RX6_24 dX6_readLetters_66 ?_
      refine wq_iload_n dX6_readLetters_69 1 rfl rfl ?_
      refine wq_aload_n dX6_readLetters_70 0 rfl rfl ?_
      refine g_8_0 ln_RX6_36 dX6_readLetters_71 ?_
      refine wq_pV (v := vi ((J27 6 0 4) - (J27 6 0 3))) M_Src_manyInToken (R_Src_manyInToken Z  _ _ _ rfl) ob_6 rfl rfl (by decide) (by decide) (Nat.le_of_ble_eq_true rfl) ln_RX6_132 dX6_readLetters_74 (fun gr28 => ?_)
      refine wq_iast (k := 21) (i := 2) (fun _ _ => rfl) (by decide) rfl rfl (m := 60) g26 (by decide) (by decide) (by decide) (by decide) dX6_readLetters_77 (fun J29 => ?_)
      refine wq_aload_n dX6_readLetters_78 0 rfl rfl ?_
      refine g_8_0 ln_RX6_36 dX6_readLetters_79 ?_
      refine wq_cVv M_Src_advance (R_Src_advance Z _) ob_6 rfl rfl (by decide) (by decide) (Nat.le_of_ble_eq_true rfl) ln_RX6_80 dX6_readLetters_82 (fun gr30 _ J31 => ?_)
      refine wq_iconst dX6_readLetters_85 ?_
      exact wq_zret rfl (by decide) rfl dX6_readLetters_86
    refine wq_acmp_ne 52 dX6_readLetters_29 (by decide) g5 (by decide) (fun c14 => ?_) (fun c14 => ?_)
    · refine wq_aload_n dX6_readLetters_32 0 rfl rfl ?_
      refine g_8_0 ln_RX6_36 dX6_readLetters_33 ?_
      refine wq_pV (v := vi ((J2 6 0 4) - (J2 6 0 3))) M_Src_manyInToken (R_Src_manyInToken Z  _ _ _ rfl) ob_6 rfl rfl (by decide) (by decide) (Nat.le_of_ble_eq_true rfl) ln_RX6_132 dX6_readLetters_36 (fun gr8 => ?_)
      refine wq_iconst dX6_readLetters_39 ?_
      refine wq_icmp_eq 52 dX6_readLetters_40 (by decide) rfl rfl (fun c13 => ?_) (fun c13 => ?_)
      · exact WQ.loc [0, 1] rfl (hj7 _   _)
      · refine wq_aload_n dX6_readLetters_43 0 rfl rfl ?_
        refine g_8_0 ln_RX6_36 dX6_readLetters_44 ?_
        refine wq_iconst dX6_readLetters_47 ?_
        refine wq_cVi M_Src_fail (R_Src_fail Z 4 _) ob_6 rfl rfl (by decide) (by decide) (Nat.le_of_ble_eq_true rfl) ln_RX6_70 dX6_readLetters_48 (fun gr9 x11 J10 => ?_)
        refine wq_grd (fun g12 => ?_)
        exact wq_zret rfl g12 rfl dX6_readLetters_51
    · exact WQ.loc [0, 1] rfl (hj7 _   _)

theorem ln_RX6_148 : Cond.constant RX6 148 (Int32.ofInt 1000000) ∈ lw_good := li_4 5 (by decide +kernel) (by decide +kernel)
theorem ln_RX6_149 : Cond.fieldLink RX6 149 RX11 "AGAIN" "LPairRules$Word;" ∈ lw_good := li_4 10 (by decide +kernel) (by decide +kernel)
theorem ln_RX6_73 : Cond.fieldLink RX6 73 RX11 "CLOSE" "LPairRules$Word;" ∈ lw_good := li_3 196 (by decide +kernel) (by decide +kernel)
theorem ln_RX6_27 : Cond.fieldLink RX6 27 RX6 "partners" "[I" ∈ lw_good := li_2 5 (by decide +kernel) (by decide +kernel)
theorem M_Scr_turn : MwV yX6_turn cX6_turn 3 (some .int) 2 := ⟨li_4 15 (by decide +kernel) (by decide +kernel), li_4 14 (by decide +kernel) (by decide +kernel), lw_in 22 (by decide +kernel) (by decide +kernel), li_1 9 (by decide +kernel) (by decide +kernel), by decide +kernel⟩
theorem ln_RX6_152 : Cond.methodLink RX6 152 yX6_turn ∈ lw_good := li_4 12 (by decide +kernel) (by decide +kernel)
noncomputable def f_Scr_orderFrom_w4  (s : Int × Int) (I : Mem) : Option (((Int × Int) ⊕ (Int)) × Mem) :=
if (w32 s.2) < 1000000 then
bnd (f_Scr_isEntry s.1 I) fun x3 J2 =>
if (w32 x3) = 0 then
some (.inr ((-1)), J2)
else
if 0 ≤ (w32 s.1) ∧ (w32 s.1) < 60 then
if (J2 20 0 (w32 s.1).toNat).toNat < 15 then
if (J2 20 0 (w32 s.1).toNat).toNat = 12 then
ltI (sI J2 21 4 (w32 s.1).toNat (J2 21 0 (w32 s.1).toNat)) fun J15 =>
bnd (f_Scr_turn s.1 (J15 21 3 (w32 s.1).toNat) J15) fun x18 J17 =>
some (.inl (x18, (s.2 + 1)), J17)
else
if (J2 20 0 (w32 s.1).toNat).toNat < 15 then
if (J2 20 0 (w32 s.1).toNat).toNat = 13 then
if 0 ≤ (w32 (J2 21 3 (w32 s.1).toNat)) ∧ (w32 (J2 21 3 (w32 s.1).toNat)) < 60 then
ltI (sI J2 21 4 (w32 (J2 21 3 (w32 s.1).toNat)).toNat ((J2 21 4 (w32 (J2 21 3 (w32 s.1).toNat)).toNat) - 1)) fun J10 =>
bnd (f_Scr_turn (J10 21 3 (w32 s.1).toNat) s.1 J10) fun x13 J12 =>
some (.inl (x13, (s.2 + 1)), J12)
else none
else
some (.inr (s.1), J2)
else none
else none
else none
else
some (.inr ((-1)), I)

noncomputable def f_Scr_orderFrom (a1 : Int) (I : Mem) : Option ((Int) × Mem) :=
whl (f_Scr_orderFrom_w4) (a1, 0) I
set_option maxRecDepth 20000 in
theorem R_Scr_orderFrom (Z : ZT) (a1 : Int) (I : Mem) (r : Int) (J : Mem) (hf : f_Scr_orderFrom a1 I = some (r, J)) : Runs Z yX6_orderFrom cX6_orderFrom 4 (some .int) 2 [vr Z 8 0, vi a1] I (some (vi r), J) := by
  refine Runs.of (rv := fun x => some (vi x)) (by decide +kernel) (Nat.le_of_ble_eq_true rfl) hf (fun gr => ?_)
  unfold f_Scr_orderFrom
  refine WQ.loc [0, 1] (lv' := [(0, vr Z 8 0), (1, vi a1)]) rfl ?_
  refine wq_iload_n dX6_orderFrom_0 1 rfl rfl ?_
  refine wq_istore_n (lv' := [(2, vi a1), (0, vr Z 8 0), (1, vi a1)]) dX6_orderFrom_1 rfl (by decide) rfl ?_
  refine wq_iconst dX6_orderFrom_2 ?_
  refine wq_istore_n (lv' := [(3, vi 0), (2, vi a1), (0, vr Z 8 0), (1, vi a1)]) dX6_orderFrom_3 rfl (by decide) rfl ?_
  refine WQ.loc [2, 1, 0] (lv' := [(0, vr Z 8 0), (2, vi a1), (3, vi 0)]) rfl ?_
  refine wq_loop (fun s28 => [(0, vr Z 8 0), (2, vi s28.1), (3, vi s28.2)]) (fun κ22 bk23 hr25 gr27 s28 J26 => ?_) gr _ rfl
  unfold f_Scr_orderFrom_w4
  refine wq_iload_n dX6_orderFrom_4 2 rfl rfl ?_
  refine wq_ldc ln_RX6_148 dX6_orderFrom_5 ?_
  refine wq_icmp_ge 107 dX6_orderFrom_7 (by decide) rfl rfl (fun c49 => ?_) (fun c49 => ?_)
  · refine wq_aload_n dX6_orderFrom_10 0 rfl rfl ?_
    refine wq_iload_n dX6_orderFrom_11 1 rfl rfl ?_
    refine wq_cVi M_Scr_isEntry (R_Scr_isEntry Z s28.1 _) ob_8 rfl rfl (by decide) (by decide) (Nat.le_of_ble_eq_true rfl) ln_RX6_138 dX6_orderFrom_12 (fun gr29 x31 J30 => ?_)
    refine wq_if_eq 107 dX6_orderFrom_15 (by decide) rfl (fun c48 => ?_) (fun c48 => ?_)
    · refine wq_iconst dX6_orderFrom_107 ?_
      exact wq_iret rfl ((hr25 _ _).trans rfl) dX6_orderFrom_108
    · refine wq_aload_n dX6_orderFrom_18 0 rfl rfl ?_
      refine g_8_1 ln_RX6_13 dX6_orderFrom_19 ?_
      refine wq_iload_n dX6_orderFrom_22 1 rfl rfl ?_
      refine wq_grd (fun g32 => ?_)
      refine wq_aald (k := 20) (i := 0) (t0 := 6) rfl rfl (by decide) rfl rfl (m := 60) g32 (Nat.le_refl _) dX6_orderFrom_23 ?_
      refine wq_grd (fun g33 => ?_)
      refine wq_gets (sta_word 12 (by decide)) ln_RX6_149 dX6_orderFrom_24 ?_
      refine wq_acmp_ne 57 dX6_orderFrom_27 (by decide) g33 (by decide) (fun c47 => ?_) (fun c47 => ?_)
      · refine wq_aload_n dX6_orderFrom_30 0 rfl rfl ?_
        refine g_8_6 ln_RX6_30 dX6_orderFrom_31 ?_
        refine wq_iload_n dX6_orderFrom_34 1 rfl rfl ?_
        refine wq_aload_n dX6_orderFrom_35 0 rfl rfl ?_
        refine g_8_2 ln_RX6_17 dX6_orderFrom_36 ?_
        refine wq_iload_n dX6_orderFrom_39 1 rfl rfl ?_
        refine wq_iald (k := 21) (i := 0) rfl (by decide) rfl rfl (m := 60) g32 (by decide) dX6_orderFrom_40 ?_
        refine wq_iast (k := 21) (i := 4) (fun _ _ => rfl) (by decide) rfl rfl (m := 60) g32 (by decide) (by decide) (by decide) (by decide) dX6_orderFrom_41 (fun J43 => ?_)
        refine wq_aload_n dX6_orderFrom_42 0 rfl rfl ?_
        refine wq_iload_n dX6_orderFrom_43 1 rfl rfl ?_
        refine wq_aload_n dX6_orderFrom_44 0 rfl rfl ?_
        refine g_8_5 ln_RX6_27 dX6_orderFrom_45 ?_
        refine wq_iload_n dX6_orderFrom_48 1 rfl rfl ?_
        refine wq_iald (k := 21) (i := 3) rfl (by decide) rfl rfl (m := 60) g32 (by decide) dX6_orderFrom_49 ?_
        refine wq_cVi M_Scr_turn (R_Scr_turn Z s28.1 (J43 21 3 (w32 s28.1).toNat) _) ob_8 rfl rfl (by decide) (by decide) (Nat.le_of_ble_eq_true rfl) ln_RX6_152 dX6_orderFrom_50 (fun gr44 x46 J45 => ?_)
        refine wq_istore_n (lv' := [(2, vi x46), (0, vr Z 8 0), (3, vi s28.2)]) dX6_orderFrom_53 rfl (by decide) rfl ?_
        refine wq_goto 101 dX6_orderFrom_54 (by decide) ?_
        refine wq_iinc (lv' := [(3, vi (s28.2 + 1)), (2, vi x46), (0, vr Z 8 0)]) dX6_orderFrom_101 2 rfl (by decide) rfl ?_
        refine wq_goto 4 dX6_orderFrom_104 (by decide) ?_
        exact WQ.loc [2, 1, 0] rfl (bk23 _ _ _)
      · refine wq_aload_n dX6_orderFrom_57 0 rfl rfl ?_
        refine g_8_1 ln_RX6_13 dX6_orderFrom_58 ?_
        refine wq_iload_n dX6_orderFrom_61 1 rfl rfl ?_
        refine wq_aald (k := 20) (i := 0) (t0 := 6) rfl rfl (by decide) rfl rfl (m := 60) g32 (Nat.le_refl _) dX6_orderFrom_62 ?_
        refine wq_grd (fun g35 => ?_)
        refine wq_gets (sta_word 13 (by decide)) ln_RX6_73 dX6_orderFrom_63 ?_
        refine wq_acmp_ne 99 dX6_orderFrom_66 (by decide) g35 (by decide) (fun c42 => ?_) (fun c42 => ?_)
        · refine wq_aload_n dX6_orderFrom_69 0 rfl rfl ?_
          refine g_8_6 ln_RX6_30 dX6_orderFrom_70 ?_
          refine wq_aload_n dX6_orderFrom_73 0 rfl rfl ?_
          refine g_8_5 ln_RX6_27 dX6_orderFrom_74 ?_
          refine wq_iload_n dX6_orderFrom_77 1 rfl rfl ?_
          refine wq_iald (k := 21) (i := 3) rfl (by decide) rfl rfl (m := 60) g32 (by decide) dX6_orderFrom_78 ?_
          refine wq_dup2 dX6_orderFrom_79 rfl rfl ?_
          refine wq_grd (fun g37 => ?_)
          refine wq_iald (k := 21) (i := 4) rfl (by decide) rfl rfl (m := 60) g37 (by decide) dX6_orderFrom_80 ?_
          refine wq_iconst dX6_orderFrom_81 ?_
          refine wq_isub dX6_orderFrom_82 ?_
          refine wq_iast (k := 21) (i := 4) (fun _ _ => rfl) (by decide) rfl rfl (m := 60) g37 (by decide) (by decide) (by decide) (by decide) dX6_orderFrom_83 (fun J38 => ?_)
          refine wq_aload_n dX6_orderFrom_84 0 rfl rfl ?_
          refine wq_aload_n dX6_orderFrom_85 0 rfl rfl ?_
          refine g_8_5 ln_RX6_27 dX6_orderFrom_86 ?_
          refine wq_iload_n dX6_orderFrom_89 1 rfl rfl ?_
          refine wq_iald (k := 21) (i := 3) rfl (by decide) rfl rfl (m := 60) g32 (by decide) dX6_orderFrom_90 ?_
          refine wq_iload_n dX6_orderFrom_91 1 rfl rfl ?_
          refine wq_cVi M_Scr_turn (R_Scr_turn Z (J38 21 3 (w32 s28.1).toNat) s28.1 _) ob_8 rfl rfl (by decide) (by decide) (Nat.le_of_ble_eq_true rfl) ln_RX6_152 dX6_orderFrom_92 (fun gr39 x41 J40 => ?_)
          refine wq_istore_n (lv' := [(2, vi x41), (0, vr Z 8 0), (3, vi s28.2)]) dX6_orderFrom_95 rfl (by decide) rfl ?_
          refine wq_goto 101 dX6_orderFrom_96 (by decide) ?_
          refine wq_iinc (lv' := [(3, vi (s28.2 + 1)), (2, vi x41), (0, vr Z 8 0)]) dX6_orderFrom_101 2 rfl (by decide) rfl ?_
          refine wq_goto 4 dX6_orderFrom_104 (by decide) ?_
          exact WQ.loc [2, 1, 0] rfl (bk23 _ _ _)
        · refine wq_iload_n dX6_orderFrom_99 1 rfl rfl ?_
          exact wq_iret rfl ((hr25 _ _).trans rfl) dX6_orderFrom_100
  · refine wq_iconst dX6_orderFrom_107 ?_
    exact wq_iret rfl ((hr25 _ _).trans rfl) dX6_orderFrom_108

theorem M_Rep_put : MwV yX4_put cX4_put 3 (none) 1 := ⟨li_5 113 (by decide +kernel) (by decide +kernel), li_5 112 (by decide +kernel) (by decide +kernel), lw_in 42 (by decide +kernel) (by decide +kernel), li_1 13 (by decide +kernel) (by decide +kernel), by decide +kernel⟩
theorem ln_RX4_33 : Cond.methodLink RX4 33 yX4_put ∈ lw_good := li_5 110 (by decide +kernel) (by decide +kernel)
noncomputable def f_Rep_putNumber_j17 (v1 : Int)   (I : Mem) : Option ((Unit) × Mem) :=
bnd (f_Rep_put (48 + (irm v1 10)) I) fun _ J7 =>
some ((), J7)

noncomputable def f_Rep_putNumber (a1 : Int) (I : Mem) : Option ((Unit) × Mem) :=
if 9 < (w32 a1) then
bnd (f_Rep_put (48 + (idv a1 10)) I) fun _ J3 =>
f_Rep_putNumber_j17 a1 J3
else
f_Rep_putNumber_j17 a1 I
set_option maxRecDepth 20000 in
theorem R_Rep_putNumber (Z : ZT) (a1 : Int) (I : Mem) (r : Unit) (J : Mem) (hf : f_Rep_putNumber a1 I = some (r, J)) : Runs Z yX4_putNumber cX4_putNumber 2 (none) 2 [vr Z 10 0, vi a1] I (none, J) := by
  refine Runs.of (rv := fun _ => none) (by decide +kernel) (Nat.le_of_ble_eq_true rfl) hf (fun gr => ?_)
  unfold f_Rep_putNumber
  refine WQ.loc [0, 1] (lv' := [(0, vr Z 10 0), (1, vi a1)]) rfl ?_
  refine wq_iload_n dX4_putNumber_0 1 rfl rfl ?_
  refine wq_bipush dX4_putNumber_1 (by decide) ?_
  have hj1 : ∀ (gr10 : Nat → Nat)   (J9 : Mem), WQ Z (yX4_putNumber, cX4_putNumber, 2, none, 2) I gr10 17 [(0, vr Z 10 0), (1, vi a1)] [] J9 (f_Rep_putNumber_j17 a1 J9) (fun b K => some (.inl ((fun _ => none) b), K)) := by
    intro gr10 J9
    unfold f_Rep_putNumber_j17
    refine wq_aload_n dX4_putNumber_17 0 rfl rfl ?_
    refine wq_bipush dX4_putNumber_18 (by decide) ?_
    refine wq_iload_n dX4_putNumber_20 1 rfl rfl ?_
    refine wq_bipush dX4_putNumber_21 (by decide) ?_
    refine wq_irem dX4_putNumber_23 (by decide) ?_
    refine wq_iadd dX4_putNumber_24 ?_
    refine wq_cVv M_Rep_put (R_Rep_put Z (48 + (irm a1 10)) _) ob_10 rfl rfl (by decide) (by decide) (Nat.le_of_ble_eq_true rfl) ln_RX4_33 dX4_putNumber_25 (fun gr11 _ J12 => ?_)
    exact wq_vret rfl rfl dX4_putNumber_28
  refine wq_icmp_le 17 dX4_putNumber_3 (by decide) rfl rfl (fun c5 => ?_) (fun c5 => ?_)
  · refine wq_aload_n dX4_putNumber_6 0 rfl rfl ?_
    refine wq_bipush dX4_putNumber_7 (by decide) ?_
    refine wq_iload_n dX4_putNumber_9 1 rfl rfl ?_
    refine wq_bipush dX4_putNumber_10 (by decide) ?_
    refine wq_idiv dX4_putNumber_12 (by decide) ?_
    refine wq_iadd dX4_putNumber_13 ?_
    refine wq_cVv M_Rep_put (R_Rep_put Z (48 + (idv a1 10)) _) ob_10 rfl rfl (by decide) (by decide) (Nat.le_of_ble_eq_true rfl) ln_RX4_33 dX4_putNumber_14 (fun gr2 _ J3 => ?_)
    exact WQ.loc [0, 1] rfl (hj1 _   _)
  · exact WQ.loc [0, 1] rfl (hj1 _   _)

theorem ln_RX12_188 : Cond.methodLink RX12 188 yX1_hasRule ∈ lw_good := li_4 209 (by decide +kernel) (by decide +kernel)
noncomputable def f_PR_isRule (a1 : Int) (I : Mem) : Option ((Int ⊕ String) × Mem) :=
if (w32 a1) < 0 then
ltI (thrw I) fun J1 =>
some (.inr xIO, J1)
else
if (w32 a1) < 40 then
bnd (f_G_hasRule 0 a1 I) fun x4 J3 =>
if x4 = 0 ∨ x4 = 1 then
some (.inl x4, J3)
else none
else
ltI (thrw I) fun J6 =>
some (.inr xIO, J6)
set_option maxRecDepth 20000 in
theorem R_PR_isRule (Z : ZT) (a1 : Int) (I : Mem) : RX Z yX12_isRule cX12_isRule 2 (some .boolean) 6 [vr Z 0 0, vi a1] I (fun x => some (vi x)) (f_PR_isRule a1 I) := by
  refine RX.of (by decide +kernel) (Nat.le_of_ble_eq_true rfl) (fun gr => ?_)
  unfold f_PR_isRule
  refine WQ.loc [0, 1] (lv' := [(0, vr Z 0 0), (1, vi a1)]) rfl ?_
  refine wq_iload_n dX12_isRule_0 1 rfl rfl ?_
  refine wq_if_lt 10 dX12_isRule_1 (by decide) rfl (fun c8 => ?_) (fun c8 => ?_)
  · exact wq_throw thr_IO (Nat.le_of_ble_eq_true rfl) (by decide +kernel) rfl dX12_isRule_10 dX12_isRule_13 dX12_isRule_14 dX12_isRule_17
  · refine wq_iload_n dX12_isRule_4 1 rfl rfl ?_
    refine wq_bipush dX12_isRule_5 (by decide) ?_
    refine wq_icmp_lt 18 dX12_isRule_7 (by decide) rfl rfl (fun c7 => ?_) (fun c7 => ?_)
    · refine wq_aload_n dX12_isRule_18 0 rfl rfl ?_
      refine g_0_0 ln_RX12_12 dX12_isRule_19 ?_
      refine wq_iload_n dX12_isRule_22 1 rfl rfl ?_
      refine wq_cVi M_G_hasRule (R_G_hasRule Z 0 a1 _) (ob_1 (by decide)) rfl rfl (by decide) (by decide) (Nat.le_of_ble_eq_true rfl) ln_RX12_188 dX12_isRule_23 (fun gr2 x4 J3 => ?_)
      refine wq_grd (fun g5 => ?_)
      exact wq_zret rfl g5 rfl dX12_isRule_26
    · exact wq_throw thr_IO (Nat.le_of_ble_eq_true rfl) (by decide +kernel) rfl dX12_isRule_10 dX12_isRule_13 dX12_isRule_14 dX12_isRule_17

theorem M_G_textLength : MwV yX1_textLength cX1_textLength 3 (some .int) 0 := ⟨li_3 179 (by decide +kernel) (by decide +kernel), li_3 177 (by decide +kernel) (by decide +kernel), li_3 178 (by decide +kernel) (by decide +kernel), li_1 2 (by decide +kernel) (by decide +kernel), by decide +kernel⟩
theorem M_G_letterOfText : MwV yX1_letterOfText cX1_letterOfText 7 (some .int) 1 := ⟨li_6 77 (by decide +kernel) (by decide +kernel), li_6 75 (by decide +kernel) (by decide +kernel), li_6 76 (by decide +kernel) (by decide +kernel), li_1 2 (by decide +kernel) (by decide +kernel), by decide +kernel⟩
theorem ln_RX12_210 : Cond.methodLink RX12 210 yX1_letterOfText ∈ lw_good := li_6 74 (by decide +kernel) (by decide +kernel)
theorem ln_RX12_122 : Cond.methodLink RX12 122 yX1_textLength ∈ lw_good := li_3 176 (by decide +kernel) (by decide +kernel)
noncomputable def f_PR_letterAt (a1 : Int) (I : Mem) : Option ((Int ⊕ String) × Mem) :=
if (w32 a1) < 0 then
ltI (thrw I) fun J1 =>
some (.inr xIO, J1)
else
bnd (f_G_textLength 0 I) fun x4 J3 =>
if (w32 a1) < (w32 x4) then
bnd (f_G_letterOfText 0 a1 J3) fun x7 J6 =>
some (.inl x7, J6)
else
ltI (thrw J3) fun J8 =>
some (.inr xIO, J8)
set_option maxRecDepth 20000 in
theorem R_PR_letterAt (Z : ZT) (a1 : Int) (I : Mem) : RX Z yX12_letterAt cX12_letterAt 2 (some .int) 6 [vr Z 0 0, vi a1] I (fun x => some (vi x)) (f_PR_letterAt a1 I) := by
  refine RX.of (by decide +kernel) (Nat.le_of_ble_eq_true rfl) (fun gr => ?_)
  unfold f_PR_letterAt
  refine WQ.loc [0, 1] (lv' := [(0, vr Z 0 0), (1, vi a1)]) rfl ?_
  refine wq_iload_n dX12_letterAt_0 1 rfl rfl ?_
  refine wq_if_lt 15 dX12_letterAt_1 (by decide) rfl (fun c10 => ?_) (fun c10 => ?_)
  · exact wq_throw thr_IO (Nat.le_of_ble_eq_true rfl) (by decide +kernel) rfl dX12_letterAt_15 dX12_letterAt_18 dX12_letterAt_19 dX12_letterAt_22
  · refine wq_iload_n dX12_letterAt_4 1 rfl rfl ?_
    refine wq_aload_n dX12_letterAt_5 0 rfl rfl ?_
    refine g_0_0 ln_RX12_12 dX12_letterAt_6 ?_
    refine wq_cVi M_G_textLength (R_G_textLength Z 0 _) (ob_1 (by decide)) rfl rfl (by decide) (by decide) (Nat.le_of_ble_eq_true rfl) ln_RX12_122 dX12_letterAt_9 (fun gr2 x4 J3 => ?_)
    refine wq_icmp_lt 23 dX12_letterAt_12 (by decide) rfl rfl (fun c9 => ?_) (fun c9 => ?_)
    · refine wq_aload_n dX12_letterAt_23 0 rfl rfl ?_
      refine g_0_0 ln_RX12_12 dX12_letterAt_24 ?_
      refine wq_iload_n dX12_letterAt_27 1 rfl rfl ?_
      refine wq_cVi M_G_letterOfText (R_G_letterOfText Z 0 a1 _) (ob_1 (by decide)) rfl rfl (by decide) (by decide) (Nat.le_of_ble_eq_true rfl) ln_RX12_210 dX12_letterAt_28 (fun gr5 x7 J6 => ?_)
      exact wq_iret rfl rfl dX12_letterAt_31
    · exact wq_throw thr_IO (Nat.le_of_ble_eq_true rfl) (by decide +kernel) rfl dX12_letterAt_15 dX12_letterAt_18 dX12_letterAt_19 dX12_letterAt_22

theorem ln_RX12_213 : Cond.methodLink RX12 213 yX1_placeOver ∈ lw_good := li_6 89 (by decide +kernel) (by decide +kernel)
noncomputable def f_PR_symbolOf (a1 : Int) (I : Mem) : Option ((Int ⊕ String) × Mem) :=
if (w32 a1) < 0 then
ltI (thrw I) fun J1 =>
some (.inr xIO, J1)
else
bnd (f_G_textLength 0 I) fun x4 J3 =>
if (w32 a1) < (w32 x4) then
bnd (f_G_placeOver 0 (43 * 0) a1 J3) fun x8 J7 =>
some (.inl x8, J7)
else
ltI (thrw J3) fun J9 =>
some (.inr xIO, J9)
set_option maxRecDepth 20000 in
theorem R_PR_symbolOf (Z : ZT) (a1 : Int) (I : Mem) : RX Z yX12_symbolOf cX12_symbolOf 2 (some .int) 6 [vr Z 0 0, vi a1] I (fun x => some (vi x)) (f_PR_symbolOf a1 I) := by
  refine RX.of (by decide +kernel) (Nat.le_of_ble_eq_true rfl) (fun gr => ?_)
  unfold f_PR_symbolOf
  refine WQ.loc [0, 1] (lv' := [(0, vr Z 0 0), (1, vi a1)]) rfl ?_
  refine wq_iload_n dX12_symbolOf_0 1 rfl rfl ?_
  refine wq_if_lt 15 dX12_symbolOf_1 (by decide) rfl (fun c11 => ?_) (fun c11 => ?_)
  · exact wq_throw thr_IO (Nat.le_of_ble_eq_true rfl) (by decide +kernel) rfl dX12_symbolOf_15 dX12_symbolOf_18 dX12_symbolOf_19 dX12_symbolOf_22
  · refine wq_iload_n dX12_symbolOf_4 1 rfl rfl ?_
    refine wq_aload_n dX12_symbolOf_5 0 rfl rfl ?_
    refine g_0_0 ln_RX12_12 dX12_symbolOf_6 ?_
    refine wq_cVi M_G_textLength (R_G_textLength Z 0 _) (ob_1 (by decide)) rfl rfl (by decide) (by decide) (Nat.le_of_ble_eq_true rfl) ln_RX12_122 dX12_symbolOf_9 (fun gr2 x4 J3 => ?_)
    refine wq_icmp_lt 23 dX12_symbolOf_12 (by decide) rfl rfl (fun c10 => ?_) (fun c10 => ?_)
    · refine wq_aload_n dX12_symbolOf_23 0 rfl rfl ?_
      refine g_0_0 ln_RX12_12 dX12_symbolOf_24 ?_
      refine wq_aload_n dX12_symbolOf_27 0 rfl rfl ?_
      refine g_0_0 ln_RX12_12 dX12_symbolOf_28 ?_
      refine wq_pV (v := vr Z 2 (43 * 0)) M_G_startRow (R_G_startRow Z 0 _ _ _ (if_pos (by decide))) (ob_1 (by decide)) rfl rfl (by decide) (by decide) (Nat.le_of_ble_eq_true rfl) ln_RX12_138 dX12_symbolOf_31 (fun gr5 => ?_)
      refine wq_iload_n dX12_symbolOf_34 1 rfl rfl ?_
      refine wq_cVi M_G_placeOver (R_G_placeOver Z 0 (43 * 0) a1 _) (ob_1 (by decide)) rfl rfl (by decide) (by decide) (Nat.le_of_ble_eq_true rfl) ln_RX12_213 dX12_symbolOf_35 (fun gr6 x8 J7 => ?_)
      exact wq_iret rfl rfl dX12_symbolOf_38
    · exact wq_throw thr_IO (Nat.le_of_ble_eq_true rfl) (by decide +kernel) rfl dX12_symbolOf_15 dX12_symbolOf_18 dX12_symbolOf_19 dX12_symbolOf_22

theorem ln_RX12_29 : Cond.fieldLink RX12 29 RX12 "survey" "LPairRules$Survey;" ∈ lw_good := li_2 103 (by decide +kernel) (by decide +kernel)
theorem M_Sv_unfold : MwV yX10_unfold cX10_unfold 6 (none) 1 := ⟨li_3 129 (by decide +kernel) (by decide +kernel), li_3 127 (by decide +kernel) (by decide +kernel), li_3 128 (by decide +kernel) (by decide +kernel), li_1 6 (by decide +kernel) (by decide +kernel), by decide +kernel⟩
theorem ln_RX12_220 : Cond.methodLink RX12 220 yX10_timesOfLetter ∈ lw_good := li_6 98 (by decide +kernel) (by decide +kernel)
theorem ln_RX12_105 : Cond.methodLink RX12 105 yX10_unfold ∈ lw_good := li_3 126 (by decide +kernel) (by decide +kernel)
theorem ln_RX12_217 : Cond.methodLink RX12 217 yX12_isLetter ∈ lw_good := li_6 97 (by decide +kernel) (by decide +kernel)
noncomputable def f_PR_letters (a1 : Int) (I : Mem) : Option ((Int ⊕ String) × Mem) :=
bnd (f_PR_isLetter a1 I) fun x3 J2 =>
if (w32 x3) = 0 then
ltI (thrw J2) fun J10 =>
some (.inr xIA, J10)
else
bnd (f_Sv_unfold 0 J2) fun _ J5 =>
bnd (f_Sv_timesOfLetter a1 J5) fun x9 J8 =>
some (.inl x9, J8)
set_option maxRecDepth 20000 in
theorem R_PR_letters (Z : ZT) (a1 : Int) (I : Mem) : RX Z yX12_letters cX12_letters 2 (some .int) 6 [vr Z 0 0, vi a1] I (fun x => some (vi x)) (f_PR_letters a1 I) := by
  refine RX.of (by decide +kernel) (Nat.le_of_ble_eq_true rfl) (fun gr => ?_)
  unfold f_PR_letters
  refine WQ.loc [0, 1] (lv' := [(0, vr Z 0 0), (1, vi a1)]) rfl ?_
  refine wq_iload_n dX12_letters_0 1 rfl rfl ?_
  refine wq_cSi M_PR_isLetter (R_PR_isLetter Z a1 _) rfl rfl rfl (by decide) (by decide) (Nat.le_of_ble_eq_true rfl) ln_RX12_217 dX12_letters_1 (fun gr1 x3 J2 => ?_)
  refine wq_if_ne 15 dX12_letters_4 (by decide) rfl (fun c11 => ?_) (fun c11 => ?_)
  · exact wq_throw thr_IA (Nat.le_of_ble_eq_true rfl) (by decide +kernel) rfl dX12_letters_7 dX12_letters_10 dX12_letters_11 dX12_letters_14
  · refine wq_aload_n dX12_letters_15 0 rfl rfl ?_
    refine g_0_3 ln_RX12_29 dX12_letters_16 ?_
    refine wq_aload_n dX12_letters_19 0 rfl rfl ?_
    refine g_0_0 ln_RX12_12 dX12_letters_20 ?_
    refine wq_cVv M_Sv_unfold (R_Sv_unfold Z 0 _) ob_5 rfl rfl (by decide) (by decide) (Nat.le_of_ble_eq_true rfl) ln_RX12_105 dX12_letters_23 (fun gr4 _ J5 => ?_)
    refine wq_aload_n dX12_letters_26 0 rfl rfl ?_
    refine g_0_3 ln_RX12_29 dX12_letters_27 ?_
    refine wq_iload_n dX12_letters_30 1 rfl rfl ?_
    refine wq_cVi M_Sv_timesOfLetter (R_Sv_timesOfLetter Z a1 _) ob_5 rfl rfl (by decide) (by decide) (Nat.le_of_ble_eq_true rfl) ln_RX12_220 dX12_letters_31 (fun gr7 x9 J8 => ?_)
    exact wq_iret rfl rfl dX12_letters_34

theorem M_G_toldText : MwV yX1_toldText cX1_toldText 1 (some (.object RX5)) 0 := ⟨li_5 13 (by decide +kernel) (by decide +kernel), li_5 11 (by decide +kernel) (by decide +kernel), li_5 12 (by decide +kernel) (by decide +kernel), li_1 2 (by decide +kernel) (by decide +kernel), by decide +kernel⟩
theorem ln_RX12_226 : Cond.methodLink RX12 226 yX1_toldText ∈ lw_good := li_5 10 (by decide +kernel) (by decide +kernel)
theorem M_Sv_unlike : MwV yX10_unlike cX10_unlike 5 (some .int) 1 := ⟨li_5 17 (by decide +kernel) (by decide +kernel), li_5 15 (by decide +kernel) (by decide +kernel), li_5 16 (by decide +kernel) (by decide +kernel), li_1 6 (by decide +kernel) (by decide +kernel), by decide +kernel⟩
theorem ln_RX12_229 : Cond.methodLink RX12 229 yX10_unlike ∈ lw_good := li_5 14 (by decide +kernel) (by decide +kernel)
noncomputable def f_PR_gap  (I : Mem) : Option ((Int) × Mem) :=
bnd (f_Sv_unfold 0 I) fun _ J2 =>
bnd (f_Sv_unlike (43 * 0 + 1) J2) fun x7 J6 =>
some (x7, J6)
set_option maxRecDepth 20000 in
theorem R_PR_gap (Z : ZT)  (I : Mem) (r : Int) (J : Mem) (hf : f_PR_gap I = some (r, J)) : Runs Z yX12_gap cX12_gap 1 (some .int) 3 [vr Z 0 0] I (some (vi r), J) := by
  refine Runs.of (rv := fun x => some (vi x)) (by decide +kernel) (Nat.le_of_ble_eq_true rfl) hf (fun gr => ?_)
  unfold f_PR_gap
  refine WQ.loc [0] (lv' := [(0, vr Z 0 0)]) rfl ?_
  refine wq_aload_n dX12_gap_0 0 rfl rfl ?_
  refine g_0_3 ln_RX12_29 dX12_gap_1 ?_
  refine wq_aload_n dX12_gap_4 0 rfl rfl ?_
  refine g_0_0 ln_RX12_12 dX12_gap_5 ?_
  refine wq_cVv M_Sv_unfold (R_Sv_unfold Z 0 _) ob_5 rfl rfl (by decide) (by decide) (Nat.le_of_ble_eq_true rfl) ln_RX12_105 dX12_gap_8 (fun gr1 _ J2 => ?_)
  refine wq_aload_n dX12_gap_11 0 rfl rfl ?_
  refine g_0_3 ln_RX12_29 dX12_gap_12 ?_
  refine wq_aload_n dX12_gap_15 0 rfl rfl ?_
  refine g_0_0 ln_RX12_12 dX12_gap_16 ?_
  refine wq_pV (v := vr Z 2 (43 * 0 + 1)) M_G_toldText (R_G_toldText Z 0 _ _ _ (if_pos (by decide))) (ob_1 (by decide)) rfl rfl (by decide) (by decide) (Nat.le_of_ble_eq_true rfl) ln_RX12_226 dX12_gap_19 (fun gr4 => ?_)
  refine wq_cVi M_Sv_unlike (R_Sv_unlike Z (43 * 0 + 1) _) ob_5 rfl rfl (by decide) (by decide) (Nat.le_of_ble_eq_true rfl) ln_RX12_229 dX12_gap_22 (fun gr5 x7 J6 => ?_)
  exact wq_iret rfl rfl dX12_gap_25

theorem M_G_rulesAtFirst : MwV yX1_rulesAtFirst cX1_rulesAtFirst 1 (some .int) 0 := ⟨li_5 30 (by decide +kernel) (by decide +kernel), li_5 28 (by decide +kernel) (by decide +kernel), li_5 29 (by decide +kernel) (by decide +kernel), li_1 2 (by decide +kernel) (by decide +kernel), by decide +kernel⟩
theorem ln_RX12_232 : Cond.methodLink RX12 232 yX1_rulesAtFirst ∈ lw_good := li_5 27 (by decide +kernel) (by decide +kernel)
theorem M_G_manyRules : MwV yX1_manyRules cX1_manyRules 3 (some .int) 0 := ⟨li_3 154 (by decide +kernel) (by decide +kernel), li_3 152 (by decide +kernel) (by decide +kernel), li_3 153 (by decide +kernel) (by decide +kernel), li_1 2 (by decide +kernel) (by decide +kernel), by decide +kernel⟩
theorem ln_RX12_145 : Cond.methodLink RX12 145 yX1_manyRules ∈ lw_good := li_5 35 (by decide +kernel) (by decide +kernel)
noncomputable def f_PR_rulesGap  (I : Mem) : Option ((Int) × Mem) :=
bnd (f_G_accountOf 0 1 I) fun x4 J3 =>
bnd (f_G_accountOf 0 2 J3) fun x7 J6 =>
bnd (f_G_accountOf 0 3 J6) fun x10 J9 =>
bnd (f_G_accountOf 0 4 J9) fun x13 J12 =>
bnd (f_G_manyRules 0 J12) fun x16 J15 =>
some (((((((I 1 0 9) + x4) - x7) - x10) - x13) - x16), J15)
set_option maxRecDepth 20000 in
theorem R_PR_rulesGap (Z : ZT)  (I : Mem) (r : Int) (J : Mem) (hf : f_PR_rulesGap I = some (r, J)) : Runs Z yX12_rulesGap cX12_rulesGap 1 (some .int) 3 [vr Z 0 0] I (some (vi r), J) := by
  refine Runs.of (rv := fun x => some (vi x)) (by decide +kernel) (Nat.le_of_ble_eq_true rfl) hf (fun gr => ?_)
  unfold f_PR_rulesGap
  refine WQ.loc [0] (lv' := [(0, vr Z 0 0)]) rfl ?_
  refine wq_aload_n dX12_rulesGap_0 0 rfl rfl ?_
  refine g_0_0 ln_RX12_12 dX12_rulesGap_1 ?_
  refine wq_pV (v := vi (I 1 0 9)) M_G_rulesAtFirst (R_G_rulesAtFirst Z 0 _ _ _ (if_pos (by decide))) (ob_1 (by decide)) rfl rfl (by decide) (by decide) (Nat.le_of_ble_eq_true rfl) ln_RX12_232 dX12_rulesGap_4 (fun gr1 => ?_)
  refine wq_aload_n dX12_rulesGap_7 0 rfl rfl ?_
  refine g_0_0 ln_RX12_12 dX12_rulesGap_8 ?_
  refine wq_iconst dX12_rulesGap_11 ?_
  refine wq_cVi M_G_accountOf (R_G_accountOf Z 0 1 _) (ob_1 (by decide)) rfl rfl (by decide) (by decide) (Nat.le_of_ble_eq_true rfl) ln_RX12_223 dX12_rulesGap_12 (fun gr2 x4 J3 => ?_)
  refine wq_iadd dX12_rulesGap_15 ?_
  refine wq_aload_n dX12_rulesGap_16 0 rfl rfl ?_
  refine g_0_0 ln_RX12_12 dX12_rulesGap_17 ?_
  refine wq_iconst dX12_rulesGap_20 ?_
  refine wq_cVi M_G_accountOf (R_G_accountOf Z 0 2 _) (ob_1 (by decide)) rfl rfl (by decide) (by decide) (Nat.le_of_ble_eq_true rfl) ln_RX12_223 dX12_rulesGap_21 (fun gr5 x7 J6 => ?_)
  refine wq_isub dX12_rulesGap_24 ?_
  refine wq_aload_n dX12_rulesGap_25 0 rfl rfl ?_
  refine g_0_0 ln_RX12_12 dX12_rulesGap_26 ?_
  refine wq_iconst dX12_rulesGap_29 ?_
  refine wq_cVi M_G_accountOf (R_G_accountOf Z 0 3 _) (ob_1 (by decide)) rfl rfl (by decide) (by decide) (Nat.le_of_ble_eq_true rfl) ln_RX12_223 dX12_rulesGap_30 (fun gr8 x10 J9 => ?_)
  refine wq_isub dX12_rulesGap_33 ?_
  refine wq_aload_n dX12_rulesGap_34 0 rfl rfl ?_
  refine g_0_0 ln_RX12_12 dX12_rulesGap_35 ?_
  refine wq_iconst dX12_rulesGap_38 ?_
  refine wq_cVi M_G_accountOf (R_G_accountOf Z 0 4 _) (ob_1 (by decide)) rfl rfl (by decide) (by decide) (Nat.le_of_ble_eq_true rfl) ln_RX12_223 dX12_rulesGap_39 (fun gr11 x13 J12 => ?_)
  refine wq_isub dX12_rulesGap_42 ?_
  refine wq_aload_n dX12_rulesGap_43 0 rfl rfl ?_
  refine g_0_0 ln_RX12_12 dX12_rulesGap_44 ?_
  refine wq_cVi M_G_manyRules (R_G_manyRules Z 0 _) (ob_1 (by decide)) rfl rfl (by decide) (by decide) (Nat.le_of_ble_eq_true rfl) ln_RX12_145 dX12_rulesGap_47 (fun gr14 x16 J15 => ?_)
  refine wq_isub dX12_rulesGap_50 ?_
  exact wq_iret rfl rfl dX12_rulesGap_51

theorem M_G_clear : MwV yX1_clear cX1_clear 2 (none) 0 := ⟨li_2 81 (by decide +kernel) (by decide +kernel), li_2 79 (by decide +kernel) (by decide +kernel), li_2 80 (by decide +kernel) (by decide +kernel), li_1 2 (by decide +kernel) (by decide +kernel), by decide +kernel⟩
theorem ln_RX1_52 : Cond.methodLink RX1 52 yX5_put ∈ lw_good := li_2 86 (by decide +kernel) (by decide +kernel)
theorem ln_RX1_51 : Cond.methodLink RX1 51 yX1_clear ∈ lw_good := li_2 78 (by decide +kernel) (by decide +kernel)
noncomputable def f_G_becomeLetterA (t : Nat) (I : Mem) : Option ((Unit) × Mem) :=
if t < 12 then
bnd (f_G_clear t I) fun _ J2 =>
bnd (f_Row_put (43 * t) 0 J2) fun _ J5 =>
bnd (f_Row_put (43 * t + 1) 0 J5) fun _ J8 =>
some ((), J8)
else none
set_option maxRecDepth 20000 in
theorem R_G_becomeLetterA (Z : ZT) (t : Nat) (I : Mem) (r : Unit) (J : Mem) (hf : f_G_becomeLetterA t I = some (r, J)) : Runs Z yX1_becomeLetterA cX1_becomeLetterA 1 (none) 3 [vr Z 1 t] I (none, J) := by
  refine Runs.of (rv := fun _ => none) (by decide +kernel) (Nat.le_of_ble_eq_true rfl) hf (fun gr => ?_)
  unfold f_G_becomeLetterA
  refine WQ.loc [0] (lv' := [(0, vr Z 1 t)]) rfl ?_
  refine wq_grd (fun ht => ?_)
  refine wq_aload_n dX1_becomeLetterA_0 0 rfl rfl ?_
  refine wq_cVv M_G_clear (R_G_clear Z t _) (ob_1 ht) rfl rfl (by decide) (by decide) (Nat.le_of_ble_eq_true rfl) ln_RX1_51 dX1_becomeLetterA_1 (fun gr1 _ J2 => ?_)
  refine wq_aload_n dX1_becomeLetterA_4 0 rfl rfl ?_
  refine g_1_0 ht ln_RX1_12 dX1_becomeLetterA_5 ?_
  refine wq_iconst dX1_becomeLetterA_8 ?_
  refine wq_cVv M_Row_put (R_Row_put Z (43 * t) 0 _) (ob_2 (by omega)) rfl rfl (by decide) (by decide) (Nat.le_of_ble_eq_true rfl) ln_RX1_52 dX1_becomeLetterA_9 (fun gr4 _ J5 => ?_)
  refine wq_aload_n dX1_becomeLetterA_12 0 rfl rfl ?_
  refine g_1_1 ht ln_RX1_18 dX1_becomeLetterA_13 ?_
  refine wq_iconst dX1_becomeLetterA_16 ?_
  refine wq_cVv M_Row_put (R_Row_put Z (43 * t + 1) 0 _) (ob_2 (by omega)) rfl rfl (by decide) (by decide) (Nat.le_of_ble_eq_true rfl) ln_RX1_52 dX1_becomeLetterA_17 (fun gr7 _ J8 => ?_)
  exact wq_vret rfl rfl dX1_becomeLetterA_20

theorem M_Sv_writeTextTo : MwV yX10_writeTextTo cX10_writeTextTo 3 (none) 1 := ⟨li_3 148 (by decide +kernel) (by decide +kernel), li_3 146 (by decide +kernel) (by decide +kernel), li_3 147 (by decide +kernel) (by decide +kernel), li_1 6 (by decide +kernel) (by decide +kernel), by decide +kernel⟩
theorem ln_RX1_62 : Cond.methodLink RX1 62 yX1_manyRules ∈ lw_good := li_3 151 (by decide +kernel) (by decide +kernel)
theorem ln_RX1_56 : Cond.methodLink RX1 56 yX10_writeTextTo ∈ lw_good := li_3 145 (by decide +kernel) (by decide +kernel)
noncomputable def f_G_beginWith (t : Nat) (I : Mem) : Option ((Unit) × Mem) :=
if t < 12 then
bnd (f_Sv_writeTextTo (43 * t + 1) I) fun _ J2 =>
bnd (f_G_manyRules t J2) fun x6 J5 =>
ltI (sI J5 1 t 9 x6) fun J7 =>
some ((), J7)
else none
set_option maxRecDepth 20000 in
theorem R_G_beginWith (Z : ZT) (t : Nat) (I : Mem) (r : Unit) (J : Mem) (hf : f_G_beginWith t I = some (r, J)) : Runs Z yX1_beginWith cX1_beginWith 2 (none) 4 [vr Z 1 t, vr Z 5 0] I (none, J) := by
  refine Runs.of (rv := fun _ => none) (by decide +kernel) (Nat.le_of_ble_eq_true rfl) hf (fun gr => ?_)
  unfold f_G_beginWith
  refine WQ.loc [0, 1] (lv' := [(0, vr Z 1 t), (1, vr Z 5 0)]) rfl ?_
  refine wq_grd (fun ht => ?_)
  refine wq_aload_n dX1_beginWith_0 1 rfl rfl ?_
  refine wq_aload_n dX1_beginWith_1 0 rfl rfl ?_
  refine g_1_1 ht ln_RX1_18 dX1_beginWith_2 ?_
  refine wq_cVv M_Sv_writeTextTo (R_Sv_writeTextTo Z (43 * t + 1) _) ob_5 rfl rfl (by decide) (by decide) (Nat.le_of_ble_eq_true rfl) ln_RX1_56 dX1_beginWith_5 (fun gr1 _ J2 => ?_)
  refine wq_aload_n dX1_beginWith_8 0 rfl rfl ?_
  refine wq_aload_n dX1_beginWith_9 0 rfl rfl ?_
  refine wq_cVi M_G_manyRules (R_G_manyRules Z t _) (ob_1 ht) rfl rfl (by decide) (by decide) (Nat.le_of_ble_eq_true rfl) ln_RX1_62 dX1_beginWith_10 (fun gr4 x6 J5 => ?_)
  refine p_1_9 ht ln_RX1_48 dX1_beginWith_13 (fun J7 => ?_)
  exact wq_vret rfl rfl dX1_beginWith_16

theorem M_Row_takeFrom : MwV yX5_takeFrom cX5_takeFrom 2 (none) 1 := ⟨li_3 163 (by decide +kernel) (by decide +kernel), li_3 161 (by decide +kernel) (by decide +kernel), li_3 162 (by decide +kernel) (by decide +kernel), li_1 3 (by decide +kernel) (by decide +kernel), by decide +kernel⟩
theorem ln_RX1_66 : Cond.methodLink RX1 66 yX5_takeFrom ∈ lw_good := li_3 160 (by decide +kernel) (by decide +kernel)
noncomputable def f_G_takeFrom_w24 (v0 : Nat) (v1 : Nat) (s : Int) (I : Mem) : Option (((Int) ⊕ (Unit)) × Mem) :=
if (w32 s) < 40 then
if 0 ≤ (w32 s) ∧ (w32 s) < 40 then
bnd (f_Row_takeFrom (43 * v0 + 3 + (w32 s).toNat) (43 * v1 + 3 + (w32 s).toNat) I) fun _ J11 =>
ltI (sI J11 14 v0 (w32 s).toNat (J11 14 v1 (w32 s).toNat)) fun J13 =>
some (.inl (s + 1), J13)
else none
else
some (.inr (), I)

noncomputable def f_G_takeFrom_w65 (v0 : Nat) (v1 : Nat) (s : Int) (I : Mem) : Option (((Int) ⊕ (Unit)) × Mem) :=
if (w32 s) < 9 then
if 0 ≤ (w32 s) ∧ (w32 s) < 9 then
ltI (sI I 15 v0 (w32 s).toNat (I 15 v1 (w32 s).toNat)) fun J34 =>
some (.inl (s + 1), J34)
else none
else
some (.inr (), I)

noncomputable def f_G_takeFrom (t : Nat) (a1 : Nat) (I : Mem) : Option ((Unit) × Mem) :=
if t < 12 then
if a1 < 12 then
bnd (f_Row_takeFrom (43 * t) (43 * a1) I) fun _ J2 =>
bnd (f_Row_takeFrom (43 * t + 1) (43 * a1 + 1) J2) fun _ J5 =>
bnd (whl (f_G_takeFrom_w24 t a1) 0 J5) fun r30 J31 =>
bnd (whl (f_G_takeFrom_w65 t a1) 0 J31) fun r46 J47 =>
ltI (sI J47 1 t 6 (J47 1 a1 6)) fun J49 =>
ltI (sI J49 1 t 7 (J49 1 a1 7)) fun J50 =>
ltI (sI J50 1 t 8 (J50 1 a1 8)) fun J51 =>
ltI (sI J51 1 t 9 (J51 1 a1 9)) fun J52 =>
some ((), J52)
else none
else none
set_option maxRecDepth 20000 in
theorem R_G_takeFrom (Z : ZT) (t : Nat) (a1 : Nat) (I : Mem) (r : Unit) (J : Mem) (hf : f_G_takeFrom t a1 I = some (r, J)) : Runs Z yX1_takeFrom cX1_takeFrom 3 (none) 4 [vr Z 1 t, vr Z 1 a1] I (none, J) := by
  refine Runs.of (rv := fun _ => none) (by decide +kernel) (Nat.le_of_ble_eq_true rfl) hf (fun gr => ?_)
  unfold f_G_takeFrom
  refine WQ.loc [0, 1] (lv' := [(0, vr Z 1 t), (1, vr Z 1 a1)]) rfl ?_
  refine wq_grd (fun ht => ?_)
  refine wq_grd (fun h1 => ?_)
  refine wq_aload_n dX1_takeFrom_0 0 rfl rfl ?_
  refine g_1_0 ht ln_RX1_12 dX1_takeFrom_1 ?_
  refine wq_aload_n dX1_takeFrom_4 1 rfl rfl ?_
  refine g_1_0 h1 ln_RX1_12 dX1_takeFrom_5 ?_
  refine wq_cVv M_Row_takeFrom (R_Row_takeFrom Z (43 * t) (43 * a1) _) (ob_2 (by omega)) rfl rfl (by decide) (by decide) (Nat.le_of_ble_eq_true rfl) ln_RX1_66 dX1_takeFrom_8 (fun gr1 _ J2 => ?_)
  refine wq_aload_n dX1_takeFrom_11 0 rfl rfl ?_
  refine g_1_1 ht ln_RX1_18 dX1_takeFrom_12 ?_
  refine wq_aload_n dX1_takeFrom_15 1 rfl rfl ?_
  refine g_1_1 h1 ln_RX1_18 dX1_takeFrom_16 ?_
  refine wq_cVv M_Row_takeFrom (R_Row_takeFrom Z (43 * t + 1) (43 * a1 + 1) _) (ob_2 (by omega)) rfl rfl (by decide) (by decide) (Nat.le_of_ble_eq_true rfl) ln_RX1_66 dX1_takeFrom_19 (fun gr4 _ J5 => ?_)
  refine wq_iconst dX1_takeFrom_22 ?_
  refine wq_istore_n (lv' := [(2, vi 0), (0, vr Z 1 t), (1, vr Z 1 a1)]) dX1_takeFrom_23 rfl (by decide) rfl ?_
  refine WQ.loc [1, 2, 0] (lv' := [(0, vr Z 1 t), (1, vr Z 1 a1), (2, vi 0)]) rfl ?_
  refine wq_loopS (fun s21 => [(0, vr Z 1 t), (1, vr Z 1 a1), (2, vi s21)]) 63 (fun _ => [(0, vr Z 1 t), (1, vr Z 1 a1)]) (fun κ15 bk16 ex17 gr20 s21 J19 => ?_) (fun gr32 r30 J31 => ?_) gr4 _ rfl
  · unfold f_G_takeFrom_w24
    refine wq_iload_n dX1_takeFrom_24 2 rfl rfl ?_
    refine wq_bipush dX1_takeFrom_25 (by decide) ?_
    refine wq_icmp_ge 63 dX1_takeFrom_27 (by decide) rfl rfl (fun c29 => ?_) (fun c29 => ?_)
    · refine wq_aload_n dX1_takeFrom_30 0 rfl rfl ?_
      refine g_1_2 ht ln_RX1_21 dX1_takeFrom_31 ?_
      refine wq_iload_n dX1_takeFrom_34 2 rfl rfl ?_
      refine wq_grd (fun g22 => ?_)
      refine wq_aald (k := 13) (i := t) (t0 := 4) rfl rfl ht rfl rfl (m := 40) g22 (Nat.le_refl _) dX1_takeFrom_35 ?_
      have hb23 : (43 * t + 3 + (w32 s21).toNat) < 516 := by omega
      refine wq_aload_n dX1_takeFrom_36 1 rfl rfl ?_
      refine g_1_2 h1 ln_RX1_21 dX1_takeFrom_37 ?_
      refine wq_iload_n dX1_takeFrom_40 2 rfl rfl ?_
      refine wq_aald (k := 13) (i := a1) (t0 := 4) rfl rfl h1 rfl rfl (m := 40) g22 (Nat.le_refl _) dX1_takeFrom_41 ?_
      have hb24 : (43 * a1 + 3 + (w32 s21).toNat) < 516 := by omega
      refine wq_cVv M_Row_takeFrom (R_Row_takeFrom Z (43 * t + 3 + (w32 s21).toNat) (43 * a1 + 3 + (w32 s21).toNat) _) (ob_2 hb23) rfl rfl (by decide) (by decide) (Nat.le_of_ble_eq_true rfl) ln_RX1_66 dX1_takeFrom_42 (fun gr25 _ J26 => ?_)
      refine wq_aload_n dX1_takeFrom_45 0 rfl rfl ?_
      refine g_1_4 ht ln_RX1_28 dX1_takeFrom_46 ?_
      refine wq_iload_n dX1_takeFrom_49 2 rfl rfl ?_
      refine wq_aload_n dX1_takeFrom_50 1 rfl rfl ?_
      refine g_1_4 h1 ln_RX1_28 dX1_takeFrom_51 ?_
      refine wq_iload_n dX1_takeFrom_54 2 rfl rfl ?_
      refine wq_iald (k := 14) (i := a1) rfl h1 rfl rfl (m := 40) g22 (Nat.le_refl _) dX1_takeFrom_55 ?_
      refine wq_iast (k := 14) (i := t) (fun _ _ => rfl) ht rfl rfl (m := 40) g22 (Nat.le_refl _) (by decide) (by decide) (by decide) dX1_takeFrom_56 (fun J28 => ?_)
      refine wq_iinc (lv' := [(2, vi (s21 + 1)), (0, vr Z 1 t), (1, vr Z 1 a1)]) dX1_takeFrom_57 2 rfl (by decide) rfl ?_
      refine wq_goto 24 dX1_takeFrom_60 (by decide) ?_
      exact WQ.loc [1, 2, 0] rfl (bk16 _ _ _)
    · exact WQ.loc [0, 1] rfl (ex17 _ _ _)
  · refine wq_iconst dX1_takeFrom_63 ?_
    refine wq_istore_n (lv' := [(2, vi 0), (0, vr Z 1 t), (1, vr Z 1 a1)]) dX1_takeFrom_64 rfl (by decide) rfl ?_
    refine WQ.loc [1, 2, 0] (lv' := [(0, vr Z 1 t), (1, vr Z 1 a1), (2, vi 0)]) rfl ?_
    refine wq_loopS (fun s42 => [(0, vr Z 1 t), (1, vr Z 1 a1), (2, vi s42)]) 89 (fun _ => [(0, vr Z 1 t), (1, vr Z 1 a1)]) (fun κ36 bk37 ex38 gr41 s42 J40 => ?_) (fun gr48 r46 J47 => ?_) gr32 _ rfl
    · unfold f_G_takeFrom_w65
      refine wq_iload_n dX1_takeFrom_65 2 rfl rfl ?_
      refine wq_bipush dX1_takeFrom_66 (by decide) ?_
      refine wq_icmp_ge 89 dX1_takeFrom_68 (by decide) rfl rfl (fun c45 => ?_) (fun c45 => ?_)
      · refine wq_aload_n dX1_takeFrom_71 0 rfl rfl ?_
        refine g_1_5 ht ln_RX1_32 dX1_takeFrom_72 ?_
        refine wq_iload_n dX1_takeFrom_75 2 rfl rfl ?_
        refine wq_aload_n dX1_takeFrom_76 1 rfl rfl ?_
        refine g_1_5 h1 ln_RX1_32 dX1_takeFrom_77 ?_
        refine wq_iload_n dX1_takeFrom_80 2 rfl rfl ?_
        refine wq_grd (fun g43 => ?_)
        refine wq_iald (k := 15) (i := a1) rfl h1 rfl rfl (m := 9) g43 (Nat.le_refl _) dX1_takeFrom_81 ?_
        refine wq_iast (k := 15) (i := t) (fun _ _ => rfl) ht rfl rfl (m := 9) g43 (Nat.le_refl _) (by decide) (by decide) (by decide) dX1_takeFrom_82 (fun J44 => ?_)
        refine wq_iinc (lv' := [(2, vi (s42 + 1)), (0, vr Z 1 t), (1, vr Z 1 a1)]) dX1_takeFrom_83 2 rfl (by decide) rfl ?_
        refine wq_goto 65 dX1_takeFrom_86 (by decide) ?_
        exact WQ.loc [1, 2, 0] rfl (bk37 _ _ _)
      · exact WQ.loc [0, 1] rfl (ex38 _ _ _)
    · refine wq_aload_n dX1_takeFrom_89 0 rfl rfl ?_
      refine wq_aload_n dX1_takeFrom_90 1 rfl rfl ?_
      refine g_1_6 h1 ln_RX1_35 dX1_takeFrom_91 ?_
      refine p_1_6 ht ln_RX1_35 dX1_takeFrom_94 (fun J49 => ?_)
      refine wq_aload_n dX1_takeFrom_97 0 rfl rfl ?_
      refine wq_aload_n dX1_takeFrom_98 1 rfl rfl ?_
      refine g_1_7 h1 ln_RX1_45 dX1_takeFrom_99 ?_
      refine p_1_7 ht ln_RX1_45 dX1_takeFrom_102 (fun J50 => ?_)
      refine wq_aload_n dX1_takeFrom_105 0 rfl rfl ?_
      refine wq_aload_n dX1_takeFrom_106 1 rfl rfl ?_
      refine g_1_8 h1 ln_RX1_39 dX1_takeFrom_107 ?_
      refine p_1_8 ht ln_RX1_39 dX1_takeFrom_110 (fun J51 => ?_)
      refine wq_aload_n dX1_takeFrom_113 0 rfl rfl ?_
      refine wq_aload_n dX1_takeFrom_114 1 rfl rfl ?_
      refine g_1_9 h1 ln_RX1_48 dX1_takeFrom_115 ?_
      refine p_1_9 ht ln_RX1_48 dX1_takeFrom_118 (fun J52 => ?_)
      exact wq_vret rfl rfl dX1_takeFrom_121

theorem M_G_keptOf : MwV yX1_keptOf cX1_keptOf 4 (some .int) 2 := ⟨li_4 119 (by decide +kernel) (by decide +kernel), li_4 118 (by decide +kernel) (by decide +kernel), lw_in 31 (by decide +kernel) (by decide +kernel), li_1 2 (by decide +kernel) (by decide +kernel), by decide +kernel⟩
theorem M_G_lowestFree : MwV yX1_lowestFree cX1_lowestFree 2 (some .int) 0 := ⟨li_4 45 (by decide +kernel) (by decide +kernel), li_4 43 (by decide +kernel) (by decide +kernel), li_4 44 (by decide +kernel) (by decide +kernel), li_1 2 (by decide +kernel) (by decide +kernel), by decide +kernel⟩
theorem ln_RX1_106 : Cond.methodLink RX1 106 yX1_lowestFree ∈ lw_good := li_4 124 (by decide +kernel) (by decide +kernel)
theorem M_Row_join : MwV yX5_join cX5_join 7 (some .int) 3 := ⟨li_4 128 (by decide +kernel) (by decide +kernel), li_4 126 (by decide +kernel) (by decide +kernel), li_4 127 (by decide +kernel) (by decide +kernel), li_1 3 (by decide +kernel) (by decide +kernel), by decide +kernel⟩
theorem ln_RX1_109 : Cond.methodLink RX1 109 yX5_join ∈ lw_good := li_4 125 (by decide +kernel) (by decide +kernel)
theorem M_G_addTo : MwV yX1_addTo cX1_addTo 3 (none) 2 := ⟨li_4 132 (by decide +kernel) (by decide +kernel), li_4 130 (by decide +kernel) (by decide +kernel), li_4 131 (by decide +kernel) (by decide +kernel), li_1 2 (by decide +kernel) (by decide +kernel), by decide +kernel⟩
theorem ln_RX1_117 : Cond.methodLink RX1 117 yX1_addTo ∈ lw_good := li_4 129 (by decide +kernel) (by decide +kernel)
theorem ln_RX1_103 : Cond.methodLink RX1 103 yX1_keptOf ∈ lw_good := li_4 116 (by decide +kernel) (by decide +kernel)
noncomputable def f_G_join_w49 (v0 : Nat) (v1 : Int) (v2 : Int) (v3 : Int) (v4 : Int) (s : Int × Int) (I : Mem) : Option (((Int × Int) ⊕ (Int)) × Mem) :=
if (w32 s.2) < 40 then
if 0 ≤ (w32 s.2) ∧ (w32 s.2) < 40 then
bnd (f_Row_isPair (43 * v0 + 3 + (w32 s.2).toNat) v1 v2 I) fun x16 J15 =>
if (w32 x16) = 0 then
bnd (f_Row_join (43 * v0 + 3 + (w32 s.2).toNat) v1 v2 (26 + v4) J15) fun x20 J19 =>
some (.inl ((s.1 + x20), (s.2 + 1)), J19)
else
some (.inl (s.1, (s.2 + 1)), J15)
else none
else
some (.inr s.1, I)

noncomputable def f_G_join_j20 (v0 : Nat) (v1 : Int) (v2 : Int) (v3 : Int)  (e0 : Int) (I : Mem) : Option ((Int) × Mem) :=
if (w32 e0) = (-1) then
some ((-1), I)
else
bnd (f_Row_join (43 * v0) v1 v2 (26 + e0) I) fun x11 J10 =>
bnd (whl (f_G_join_w49 v0 v1 v2 v3 e0) (x11, 0) J10) fun r41 J42 =>
bnd (f_G_addTo v0 5 r41 J42) fun _ J45 =>
if (w32 v3) = (-1) then
if 0 ≤ (w32 e0) ∧ (w32 e0) < 40 then
bnd (f_Row_put (43 * v0 + 3 + (w32 e0).toNat) v1 J45) fun _ J50 =>
bnd (f_Row_put (43 * v0 + 3 + (w32 e0).toNat) v2 J50) fun _ J54 =>
bnd (f_G_lengthOf v0 v1 J54) fun x58 J57 =>
bnd (f_G_lengthOf v0 v2 J57) fun x61 J60 =>
ltI (sI J60 14 v0 (w32 e0).toNat (x58 + x61)) fun J62 =>
bnd (f_G_addTo v0 1 1 J62) fun _ J64 =>
some (e0, J64)
else none
else
some (e0, J45)

noncomputable def f_G_join (t : Nat) (a1 : Int) (a2 : Int) (I : Mem) : Option ((Int) × Mem) :=
if t < 12 then
bnd (f_G_keptOf t a1 a2 I) fun x3 J2 =>
if (w32 x3) = (-1) then
bnd (f_G_lowestFree t J2) fun x7 J6 =>
f_G_join_j20 t a1 a2 x3 x7 J6
else
f_G_join_j20 t a1 a2 x3 x3 J2
else none
set_option maxRecDepth 20000 in
theorem R_G_join (Z : ZT) (t : Nat) (a1 : Int) (a2 : Int) (I : Mem) (r : Int) (J : Mem) (hf : f_G_join t a1 a2 I = some (r, J)) : Runs Z yX1_join cX1_join 7 (some .int) 3 [vr Z 1 t, vi a1, vi a2] I (some (vi r), J) := by
  refine Runs.of (rv := fun x => some (vi x)) (by decide +kernel) (Nat.le_of_ble_eq_true rfl) hf (fun gr => ?_)
  unfold f_G_join
  refine WQ.loc [0, 1, 2] (lv' := [(0, vr Z 1 t), (1, vi a1), (2, vi a2)]) rfl ?_
  refine wq_grd (fun ht => ?_)
  refine wq_aload_n dX1_join_0 0 rfl rfl ?_
  refine wq_iload_n dX1_join_1 1 rfl rfl ?_
  refine wq_iload_n dX1_join_2 2 rfl rfl ?_
  refine wq_cVi M_G_keptOf (R_G_keptOf Z t a1 a2 _) (ob_1 ht) rfl rfl (by decide) (by decide) (Nat.le_of_ble_eq_true rfl) ln_RX1_103 dX1_join_3 (fun gr1 x3 J2 => ?_)
  refine wq_istore_n (lv' := [(3, vi x3), (0, vr Z 1 t), (1, vi a1), (2, vi a2)]) dX1_join_6 rfl (by decide) rfl ?_
  refine wq_iload_n dX1_join_7 0 rfl rfl ?_
  refine wq_iconst dX1_join_8 ?_
  have hj4 : ∀ (gr69 : Nat → Nat)  (hj4e0 : Int) (J68 : Mem), WQ Z (yX1_join, cX1_join, 7, some .int, 3) I gr69 20 [(0, vr Z 1 t), (1, vi a1), (2, vi a2), (3, vi x3)] [vi hj4e0] J68 (f_G_join_j20 t a1 a2 x3 hj4e0 J68) (fun b K => some (.inl ((fun x => some (vi x)) b), K)) := by
    intro gr69 hj4e0 J68
    unfold f_G_join_j20
    refine wq_istore (lv' := [(4, vi hj4e0), (0, vr Z 1 t), (1, vi a1), (2, vi a2), (3, vi x3)]) dX1_join_20 (by decide) rfl ?_
    refine wq_iload dX1_join_22 0 rfl ?_
    refine wq_iconst dX1_join_24 ?_
    refine wq_icmp_ne 30 dX1_join_25 (by decide) rfl rfl (fun c117 => ?_) (fun c117 => ?_)
    · refine wq_iconst dX1_join_28 ?_
      exact wq_iret rfl rfl dX1_join_29
    · refine wq_aload_n dX1_join_30 1 rfl rfl ?_
      refine g_1_0 ht ln_RX1_12 dX1_join_31 ?_
      refine wq_iload_n dX1_join_34 2 rfl rfl ?_
      refine wq_iload_n dX1_join_35 3 rfl rfl ?_
      refine wq_bipush dX1_join_36 (by decide) ?_
      refine wq_iload dX1_join_38 0 rfl ?_
      refine wq_iadd dX1_join_40 ?_
      refine wq_cVi M_Row_join (R_Row_join Z (43 * t) a1 a2 (26 + hj4e0) _) (ob_2 (by omega)) rfl rfl (by decide) (by decide) (Nat.le_of_ble_eq_true rfl) ln_RX1_109 dX1_join_41 (fun gr70 x72 J71 => ?_)
      refine wq_istore (lv' := [(5, vi x72), (4, vi hj4e0), (0, vr Z 1 t), (1, vi a1), (2, vi a2), (3, vi x3)]) dX1_join_44 (by decide) rfl ?_
      refine wq_iconst dX1_join_46 ?_
      refine wq_istore (lv' := [(6, vi 0), (5, vi x72), (4, vi hj4e0), (0, vr Z 1 t), (1, vi a1), (2, vi a2), (3, vi x3)]) dX1_join_47 (by decide) rfl ?_
      refine WQ.loc [3, 4, 5, 6, 2, 1, 0] (lv' := [(0, vr Z 1 t), (1, vi a1), (2, vi a2), (3, vi x3), (4, vi hj4e0), (5, vi x72), (6, vi 0)]) rfl ?_
      refine wq_loopS (fun s79 => [(0, vr Z 1 t), (1, vi a1), (2, vi a2), (3, vi x3), (4, vi hj4e0), (5, vi s79.1), (6, vi s79.2)]) 99 (fun r91 => [(0, vr Z 1 t), (1, vi a1), (2, vi a2), (3, vi x3), (4, vi hj4e0), (5, vi r91)]) (fun κ73 bk74 ex75 gr78 s79 J77 => ?_) (fun gr93 r91 J92 => ?_) gr70 _ rfl
      · unfold f_G_join_w49
        refine wq_iload dX1_join_49 6 rfl ?_
        refine wq_bipush dX1_join_51 (by decide) ?_
        refine wq_icmp_ge 99 dX1_join_53 (by decide) rfl rfl (fun c90 => ?_) (fun c90 => ?_)
        · refine wq_aload_n dX1_join_56 0 rfl rfl ?_
          refine g_1_2 ht ln_RX1_21 dX1_join_57 ?_
          refine wq_iload dX1_join_60 6 rfl ?_
          refine wq_grd (fun g80 => ?_)
          refine wq_aald (k := 13) (i := t) (t0 := 4) rfl rfl ht rfl rfl (m := 40) g80 (Nat.le_refl _) dX1_join_62 ?_
          have hb81 : (43 * t + 3 + (w32 s79.2).toNat) < 516 := by omega
          refine wq_iload_n dX1_join_63 1 rfl rfl ?_
          refine wq_iload_n dX1_join_64 2 rfl rfl ?_
          refine wq_cVi M_Row_isPair (R_Row_isPair Z (43 * t + 3 + (w32 s79.2).toNat) a1 a2 _) (ob_2 hb81) rfl rfl (by decide) (by decide) (Nat.le_of_ble_eq_true rfl) ln_RX1_113 dX1_join_65 (fun gr82 x84 J83 => ?_)
          refine wq_if_ne 93 dX1_join_68 (by decide) rfl (fun c89 => ?_) (fun c89 => ?_)
          · refine wq_iload dX1_join_71 5 rfl ?_
            refine wq_aload_n dX1_join_73 0 rfl rfl ?_
            refine g_1_2 ht ln_RX1_21 dX1_join_74 ?_
            refine wq_iload dX1_join_77 6 rfl ?_
            refine wq_aald (k := 13) (i := t) (t0 := 4) rfl rfl ht rfl rfl (m := 40) g80 (Nat.le_refl _) dX1_join_79 ?_
            have hb85 : (43 * t + 3 + (w32 s79.2).toNat) < 516 := by omega
            refine wq_iload_n dX1_join_80 1 rfl rfl ?_
            refine wq_iload_n dX1_join_81 2 rfl rfl ?_
            refine wq_bipush dX1_join_82 (by decide) ?_
            refine wq_iload dX1_join_84 4 rfl ?_
            refine wq_iadd dX1_join_86 ?_
            refine wq_cVi M_Row_join (R_Row_join Z (43 * t + 3 + (w32 s79.2).toNat) a1 a2 (26 + hj4e0) _) (ob_2 hb85) rfl rfl (by decide) (by decide) (Nat.le_of_ble_eq_true rfl) ln_RX1_109 dX1_join_87 (fun gr86 x88 J87 => ?_)
            refine wq_iadd dX1_join_90 ?_
            refine wq_istore (lv' := [(5, vi (s79.1 + x88)), (0, vr Z 1 t), (1, vi a1), (2, vi a2), (3, vi x3), (4, vi hj4e0), (6, vi s79.2)]) dX1_join_91 (by decide) rfl ?_
            refine wq_iinc (lv' := [(6, vi (s79.2 + 1)), (5, vi (s79.1 + x88)), (0, vr Z 1 t), (1, vi a1), (2, vi a2), (3, vi x3), (4, vi hj4e0)]) dX1_join_93 6 rfl (by decide) rfl ?_
            refine wq_goto 49 dX1_join_96 (by decide) ?_
            exact WQ.loc [2, 3, 4, 5, 6, 1, 0] rfl (bk74 _ _ _)
          · refine wq_iinc (lv' := [(6, vi (s79.2 + 1)), (0, vr Z 1 t), (1, vi a1), (2, vi a2), (3, vi x3), (4, vi hj4e0), (5, vi s79.1)]) dX1_join_93 6 rfl (by decide) rfl ?_
            refine wq_goto 49 dX1_join_96 (by decide) ?_
            exact WQ.loc [1, 2, 3, 4, 5, 6, 0] rfl (bk74 _ _ _)
        · exact WQ.loc [0, 1, 2, 3, 4, 5] rfl (ex75 _ _ _)
      · refine wq_aload_n dX1_join_99 0 rfl rfl ?_
        refine wq_iconst dX1_join_100 ?_
        refine wq_iload dX1_join_101 5 rfl ?_
        refine wq_cVv M_G_addTo (R_G_addTo Z t 5 r91 _) (ob_1 ht) rfl rfl (by decide) (by decide) (Nat.le_of_ble_eq_true rfl) ln_RX1_117 dX1_join_103 (fun gr94 _ J95 => ?_)
        refine wq_iload_n dX1_join_106 3 rfl rfl ?_
        refine wq_iconst dX1_join_107 ?_
        refine wq_icmp_ne 157 dX1_join_108 (by decide) rfl rfl (fun c116 => ?_) (fun c116 => ?_)
        · refine wq_aload_n dX1_join_111 0 rfl rfl ?_
          refine g_1_2 ht ln_RX1_21 dX1_join_112 ?_
          refine wq_iload dX1_join_115 4 rfl ?_
          refine wq_grd (fun g97 => ?_)
          refine wq_aald (k := 13) (i := t) (t0 := 4) rfl rfl ht rfl rfl (m := 40) g97 (Nat.le_refl _) dX1_join_117 ?_
          have hb98 : (43 * t + 3 + (w32 hj4e0).toNat) < 516 := by omega
          refine wq_iload_n dX1_join_118 1 rfl rfl ?_
          refine wq_cVv M_Row_put (R_Row_put Z (43 * t + 3 + (w32 hj4e0).toNat) a1 _) (ob_2 hb98) rfl rfl (by decide) (by decide) (Nat.le_of_ble_eq_true rfl) ln_RX1_52 dX1_join_119 (fun gr99 _ J100 => ?_)
          refine wq_aload_n dX1_join_122 0 rfl rfl ?_
          refine g_1_2 ht ln_RX1_21 dX1_join_123 ?_
          refine wq_iload dX1_join_126 4 rfl ?_
          refine wq_aald (k := 13) (i := t) (t0 := 4) rfl rfl ht rfl rfl (m := 40) g97 (Nat.le_refl _) dX1_join_128 ?_
          have hb102 : (43 * t + 3 + (w32 hj4e0).toNat) < 516 := by omega
          refine wq_iload_n dX1_join_129 2 rfl rfl ?_
          refine wq_cVv M_Row_put (R_Row_put Z (43 * t + 3 + (w32 hj4e0).toNat) a2 _) (ob_2 hb102) rfl rfl (by decide) (by decide) (Nat.le_of_ble_eq_true rfl) ln_RX1_52 dX1_join_130 (fun gr103 _ J104 => ?_)
          refine wq_aload_n dX1_join_133 0 rfl rfl ?_
          refine g_1_4 ht ln_RX1_28 dX1_join_134 ?_
          refine wq_iload dX1_join_137 4 rfl ?_
          refine wq_aload_n dX1_join_139 0 rfl rfl ?_
          refine wq_iload_n dX1_join_140 1 rfl rfl ?_
          refine wq_cVi M_G_lengthOf (R_G_lengthOf Z t a1 _) (ob_1 ht) rfl rfl (by decide) (by decide) (Nat.le_of_ble_eq_true rfl) ln_RX1_93 dX1_join_141 (fun gr106 x108 J107 => ?_)
          refine wq_aload_n dX1_join_144 0 rfl rfl ?_
          refine wq_iload_n dX1_join_145 2 rfl rfl ?_
          refine wq_cVi M_G_lengthOf (R_G_lengthOf Z t a2 _) (ob_1 ht) rfl rfl (by decide) (by decide) (Nat.le_of_ble_eq_true rfl) ln_RX1_93 dX1_join_146 (fun gr109 x111 J110 => ?_)
          refine wq_iadd dX1_join_149 ?_
          refine wq_iast (k := 14) (i := t) (fun _ _ => rfl) ht rfl rfl (m := 40) g97 (Nat.le_refl _) (by decide) (by decide) (by decide) dX1_join_150 (fun J112 => ?_)
          refine wq_aload_n dX1_join_151 0 rfl rfl ?_
          refine wq_iconst dX1_join_152 ?_
          refine wq_iconst dX1_join_153 ?_
          refine wq_cVv M_G_addTo (R_G_addTo Z t 1 1 _) (ob_1 ht) rfl rfl (by decide) (by decide) (Nat.le_of_ble_eq_true rfl) ln_RX1_117 dX1_join_154 (fun gr113 _ J114 => ?_)
          refine wq_iload dX1_join_157 4 rfl ?_
          exact wq_iret rfl rfl dX1_join_159
        · refine wq_iload dX1_join_157 4 rfl ?_
          exact wq_iret rfl rfl dX1_join_159
  refine wq_icmp_ne 19 dX1_join_9 (by decide) rfl rfl (fun c8 => ?_) (fun c8 => ?_)
  · refine wq_aload_n dX1_join_12 1 rfl rfl ?_
    refine wq_cVi M_G_lowestFree (R_G_lowestFree Z t _) (ob_1 ht) rfl rfl (by decide) (by decide) (Nat.le_of_ble_eq_true rfl) ln_RX1_106 dX1_join_13 (fun gr5 x7 J6 => ?_)
    refine wq_goto 20 dX1_join_16 (by decide) ?_
    exact WQ.loc [1, 2, 3, 0] rfl (hj4 _  _ _)
  · refine wq_iload_n dX1_join_19 0 rfl rfl ?_
    exact WQ.loc [1, 2, 3, 0] rfl (hj4 _  _ _)

theorem M_Row_open : MwV yX5_open cX5_open 7 (some .int) 2 := ⟨li_4 167 (by decide +kernel) (by decide +kernel), li_4 165 (by decide +kernel) (by decide +kernel), li_4 166 (by decide +kernel) (by decide +kernel), li_1 3 (by decide +kernel) (by decide +kernel), by decide +kernel⟩
theorem ln_RX1_121 : Cond.methodLink RX1 121 yX5_open ∈ lw_good := li_4 164 (by decide +kernel) (by decide +kernel)
theorem M_G_putLength : MwV yX1_putLength cX1_putLength 3 (none) 2 := ⟨li_3 65 (by decide +kernel) (by decide +kernel), li_3 63 (by decide +kernel) (by decide +kernel), li_3 64 (by decide +kernel) (by decide +kernel), li_1 2 (by decide +kernel) (by decide +kernel), by decide +kernel⟩
theorem ln_RX1_125 : Cond.methodLink RX1 125 yX1_putLength ∈ lw_good := li_4 172 (by decide +kernel) (by decide +kernel)
noncomputable def f_G_dissolve_w27 (v0 : Nat) (v1 : Int) (v2 : Int) (v3 : Nat) (v4 : Int) (s : Int × Int) (I : Mem) : Option (((Int × Int) ⊕ (Int)) × Mem) :=
if (w32 s.2) < 40 then
if 0 ≤ (w32 s.2) ∧ (w32 s.2) < 40 then
bnd (f_Row_open (43 * v0 + 3 + (w32 s.2).toNat) v4 v3 I) fun x12 J11 =>
some (.inl ((s.1 + x12), (s.2 + 1)), J11)
else none
else
some (.inr s.1, I)

noncomputable def f_G_dissolve (t : Nat) (a1 : Int) (a2 : Int) (I : Mem) : Option ((Int) × Mem) :=
if t < 12 then
bnd (f_G_body t a1 I) fun x3 J2 =>
if x3 < 516 then
bnd (f_Row_open (43 * t) (26 + a1) x3 J2) fun x7 J6 =>
bnd (whl (f_G_dissolve_w27 t a1 a2 x3 (26 + a1)) (x7, 0) J6) fun r27 J28 =>
bnd (f_Row_clear x3 J28) fun _ J31 =>
bnd (f_G_putLength t a1 0 J31) fun _ J34 =>
bnd (f_G_addTo t a2 1 J34) fun _ J37 =>
some (r27, J37)
else none
else none
set_option maxRecDepth 20000 in
theorem R_G_dissolve (Z : ZT) (t : Nat) (a1 : Int) (a2 : Int) (I : Mem) (r : Int) (J : Mem) (hf : f_G_dissolve t a1 a2 I = some (r, J)) : Runs Z yX1_dissolve cX1_dissolve 7 (some .int) 3 [vr Z 1 t, vi a1, vi a2] I (some (vi r), J) := by
  refine Runs.of (rv := fun x => some (vi x)) (by decide +kernel) (Nat.le_of_ble_eq_true rfl) hf (fun gr => ?_)
  unfold f_G_dissolve
  refine WQ.loc [0, 1, 2] (lv' := [(0, vr Z 1 t), (1, vi a1), (2, vi a2)]) rfl ?_
  refine wq_grd (fun ht => ?_)
  refine wq_aload_n dX1_dissolve_0 0 rfl rfl ?_
  refine wq_iload_n dX1_dissolve_1 1 rfl rfl ?_
  refine wq_cVr 2 M_G_body (R_G_body Z t a1 _) (ob_1 ht) rfl rfl (by decide) (by decide) (Nat.le_of_ble_eq_true rfl) ln_RX1_69 dX1_dissolve_2 (fun gr1 x3 J2 => ?_)
  refine wq_grd (fun g4 => ?_)
  refine wq_astore_n (lv' := [(3, vr Z 2 x3), (0, vr Z 1 t), (1, vi a1), (2, vi a2)]) dX1_dissolve_5 rfl (by decide) rfl ?_
  refine wq_bipush dX1_dissolve_6 (by decide) ?_
  refine wq_iload_n dX1_dissolve_8 2 rfl rfl ?_
  refine wq_iadd dX1_dissolve_9 ?_
  refine wq_istore (lv' := [(4, vi (26 + a1)), (3, vr Z 2 x3), (0, vr Z 1 t), (1, vi a1), (2, vi a2)]) dX1_dissolve_10 (by decide) rfl ?_
  refine wq_aload_n dX1_dissolve_12 2 rfl rfl ?_
  refine g_1_0 ht ln_RX1_12 dX1_dissolve_13 ?_
  refine wq_iload dX1_dissolve_16 0 rfl ?_
  refine wq_aload_n dX1_dissolve_18 1 rfl rfl ?_
  refine wq_cVi M_Row_open (R_Row_open Z (43 * t) (26 + a1) x3 _) (ob_2 (by omega)) rfl rfl (by decide) (by decide) (Nat.le_of_ble_eq_true rfl) ln_RX1_121 dX1_dissolve_19 (fun gr5 x7 J6 => ?_)
  refine wq_istore (lv' := [(5, vi x7), (4, vi (26 + a1)), (3, vr Z 2 x3), (0, vr Z 1 t), (1, vi a1), (2, vi a2)]) dX1_dissolve_22 (by decide) rfl ?_
  refine wq_iconst dX1_dissolve_24 ?_
  refine wq_istore (lv' := [(6, vi 0), (5, vi x7), (4, vi (26 + a1)), (3, vr Z 2 x3), (0, vr Z 1 t), (1, vi a1), (2, vi a2)]) dX1_dissolve_25 (by decide) rfl ?_
  refine WQ.loc [4, 5, 6, 3, 2, 1, 0] (lv' := [(0, vr Z 1 t), (1, vi a1), (2, vi a2), (3, vr Z 2 x3), (4, vi (26 + a1)), (5, vi x7), (6, vi 0)]) rfl ?_
  refine wq_loopS (fun s20 => [(0, vr Z 1 t), (1, vi a1), (2, vi a2), (3, vr Z 2 x3), (4, vi (26 + a1)), (5, vi s20.1), (6, vi s20.2)]) 58 (fun r27 => [(0, vr Z 1 t), (1, vi a1), (2, vi a2), (3, vr Z 2 x3), (5, vi r27)]) (fun κ14 bk15 ex16 gr19 s20 J18 => ?_) (fun gr29 r27 J28 => ?_) gr5 _ rfl
  · unfold f_G_dissolve_w27
    refine wq_iload dX1_dissolve_27 6 rfl ?_
    refine wq_bipush dX1_dissolve_29 (by decide) ?_
    refine wq_icmp_ge 58 dX1_dissolve_31 (by decide) rfl rfl (fun c26 => ?_) (fun c26 => ?_)
    · refine wq_iload dX1_dissolve_34 5 rfl ?_
      refine wq_aload_n dX1_dissolve_36 0 rfl rfl ?_
      refine g_1_2 ht ln_RX1_21 dX1_dissolve_37 ?_
      refine wq_iload dX1_dissolve_40 6 rfl ?_
      refine wq_grd (fun g21 => ?_)
      refine wq_aald (k := 13) (i := t) (t0 := 4) rfl rfl ht rfl rfl (m := 40) g21 (Nat.le_refl _) dX1_dissolve_42 ?_
      have hb22 : (43 * t + 3 + (w32 s20.2).toNat) < 516 := by omega
      refine wq_iload dX1_dissolve_43 4 rfl ?_
      refine wq_aload_n dX1_dissolve_45 3 rfl rfl ?_
      refine wq_cVi M_Row_open (R_Row_open Z (43 * t + 3 + (w32 s20.2).toNat) (26 + a1) x3 _) (ob_2 hb22) rfl rfl (by decide) (by decide) (Nat.le_of_ble_eq_true rfl) ln_RX1_121 dX1_dissolve_46 (fun gr23 x25 J24 => ?_)
      refine wq_iadd dX1_dissolve_49 ?_
      refine wq_istore (lv' := [(5, vi (s20.1 + x25)), (0, vr Z 1 t), (1, vi a1), (2, vi a2), (3, vr Z 2 x3), (4, vi (26 + a1)), (6, vi s20.2)]) dX1_dissolve_50 (by decide) rfl ?_
      refine wq_iinc (lv' := [(6, vi (s20.2 + 1)), (5, vi (s20.1 + x25)), (0, vr Z 1 t), (1, vi a1), (2, vi a2), (3, vr Z 2 x3), (4, vi (26 + a1))]) dX1_dissolve_52 6 rfl (by decide) rfl ?_
      refine wq_goto 27 dX1_dissolve_55 (by decide) ?_
      exact WQ.loc [2, 3, 4, 5, 6, 1, 0] rfl (bk15 _ _ _)
    · exact WQ.loc [0, 1, 2, 3, 5] rfl (ex16 _ _ _)
  · refine wq_aload_n dX1_dissolve_58 3 rfl rfl ?_
    refine wq_cVv M_Row_clear (R_Row_clear Z x3 _) (ob_2 g4) rfl rfl (by decide) (by decide) (Nat.le_of_ble_eq_true rfl) ln_RX1_42 dX1_dissolve_59 (fun gr30 _ J31 => ?_)
    refine wq_aload_n dX1_dissolve_62 0 rfl rfl ?_
    refine wq_iload_n dX1_dissolve_63 1 rfl rfl ?_
    refine wq_iconst dX1_dissolve_64 ?_
    refine wq_cVv M_G_putLength (R_G_putLength Z t a1 0 _) (ob_1 ht) rfl rfl (by decide) (by decide) (Nat.le_of_ble_eq_true rfl) ln_RX1_125 dX1_dissolve_65 (fun gr33 _ J34 => ?_)
    refine wq_aload_n dX1_dissolve_68 0 rfl rfl ?_
    refine wq_iload_n dX1_dissolve_69 2 rfl rfl ?_
    refine wq_iconst dX1_dissolve_70 ?_
    refine wq_cVv M_G_addTo (R_G_addTo Z t a2 1 _) (ob_1 ht) rfl rfl (by decide) (by decide) (Nat.le_of_ble_eq_true rfl) ln_RX1_117 dX1_dissolve_71 (fun gr36 _ J37 => ?_)
    refine wq_iload dX1_dissolve_74 4 rfl ?_
    exact wq_iret rfl rfl dX1_dissolve_76

noncomputable def f_G_addLetter (t : Nat) (a1 : Int) (I : Mem) : Option ((Unit) × Mem) :=
if t < 12 then
bnd (f_Row_put (43 * t) a1 I) fun _ J2 =>
bnd (f_Row_put (43 * t + 1) a1 J2) fun _ J5 =>
bnd (f_G_addTo t 6 1 J5) fun _ J8 =>
some ((), J8)
else none
set_option maxRecDepth 20000 in
theorem R_G_addLetter (Z : ZT) (t : Nat) (a1 : Int) (I : Mem) (r : Unit) (J : Mem) (hf : f_G_addLetter t a1 I = some (r, J)) : Runs Z yX1_addLetter cX1_addLetter 2 (none) 3 [vr Z 1 t, vi a1] I (none, J) := by
  refine Runs.of (rv := fun _ => none) (by decide +kernel) (Nat.le_of_ble_eq_true rfl) hf (fun gr => ?_)
  unfold f_G_addLetter
  refine WQ.loc [0, 1] (lv' := [(0, vr Z 1 t), (1, vi a1)]) rfl ?_
  refine wq_grd (fun ht => ?_)
  refine wq_aload_n dX1_addLetter_0 0 rfl rfl ?_
  refine g_1_0 ht ln_RX1_12 dX1_addLetter_1 ?_
  refine wq_iload_n dX1_addLetter_4 1 rfl rfl ?_
  refine wq_cVv M_Row_put (R_Row_put Z (43 * t) a1 _) (ob_2 (by omega)) rfl rfl (by decide) (by decide) (Nat.le_of_ble_eq_true rfl) ln_RX1_52 dX1_addLetter_5 (fun gr1 _ J2 => ?_)
  refine wq_aload_n dX1_addLetter_8 0 rfl rfl ?_
  refine g_1_1 ht ln_RX1_18 dX1_addLetter_9 ?_
  refine wq_iload_n dX1_addLetter_12 1 rfl rfl ?_
  refine wq_cVv M_Row_put (R_Row_put Z (43 * t + 1) a1 _) (ob_2 (by omega)) rfl rfl (by decide) (by decide) (Nat.le_of_ble_eq_true rfl) ln_RX1_52 dX1_addLetter_13 (fun gr4 _ J5 => ?_)
  refine wq_aload_n dX1_addLetter_16 0 rfl rfl ?_
  refine wq_bipush dX1_addLetter_17 (by decide) ?_
  refine wq_iconst dX1_addLetter_19 ?_
  refine wq_cVv M_G_addTo (R_G_addTo Z t 6 1 _) (ob_1 ht) rfl rfl (by decide) (by decide) (Nat.le_of_ble_eq_true rfl) ln_RX1_117 dX1_addLetter_20 (fun gr7 _ J8 => ?_)
  exact wq_vret rfl rfl dX1_addLetter_23
end
