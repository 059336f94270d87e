noncomputable def f_PR_bestLeast  (I : Mem) : Option (Int × Mem) :=
bnd (f_PR_bestNumber 4 I) fun x3 J2 =>
some (x3, J2)
set_option maxRecDepth 20000 in
theorem R_PR_bestLeast (Z : ZT)  (I : Mem) (r : Int) (J : Mem) (hf : f_PR_bestLeast I = some (r, J)) : Runs Z yX12_bestLeast cX12_bestLeast 1 (some .int) 7 [vr Z 0 0] I (some (vi r), J) := by
  refine Runs.of (rv := fun x => some (vi x)) (by decide +kernel) (Nat.le_of_ble_eq_true rfl) hf (fun gr => ?_)
  unfold f_PR_bestLeast
  refine WQ.loc [0] (lv' := [(0, vr Z 0 0)]) rfl ?_
  refine wq_aload_n dX12_bestLeast_0 0 rfl rfl ?_
  refine wq_iconst dX12_bestLeast_1 ?_
  refine wq_cVi M_PR_bestNumber (R_PR_bestNumber Z 4 _) ob_0 rfl rfl (by decide) (by decide) (Nat.le_of_ble_eq_true rfl) ln_RX12_276 dX12_bestLeast_2 (fun gr1 x3 J2 => ?_)
  exact wq_iret rfl rfl dX12_bestLeast_5

theorem M_Set_readRules : MwV yX7_readRules cX7_readRules 2 (some .boolean) 0 := ⟨lw_in 552 (by decide +kernel) (by decide +kernel), lw_in 551 (by decide +kernel) (by decide +kernel), lw_in 2 (by decide +kernel) (by decide +kernel), lw_in 145 (by decide +kernel) (by decide +kernel), by decide +kernel⟩
theorem M_Set_readStart : MwV yX7_readStart cX7_readStart 1 (some .boolean) 0 := ⟨lw_in 686 (by decide +kernel) (by decide +kernel), lw_in 685 (by decide +kernel) (by decide +kernel), lw_in 7 (by decide +kernel) (by decide +kernel), lw_in 145 (by decide +kernel) (by decide +kernel), by decide +kernel⟩
theorem M_Set_readStatements : MwV yX7_readStatements cX7_readStatements 2 (some .boolean) 0 := ⟨lw_in 696 (by decide +kernel) (by decide +kernel), lw_in 695 (by decide +kernel) (by decide +kernel), lw_in 8 (by decide +kernel) (by decide +kernel), lw_in 145 (by decide +kernel) (by decide +kernel), by decide +kernel⟩
theorem ln_RX7_50 : Cond.methodLink RX7 50 yX7_readStatements ∈ lw_good := lw_in 693 (by decide +kernel) (by decide +kernel)
theorem ln_RX7_47 : Cond.methodLink RX7 47 yX7_readStart ∈ lw_good := lw_in 683 (by decide +kernel) (by decide +kernel)
theorem ln_RX7_43 : Cond.methodLink RX7 43 yX7_readRules ∈ lw_good := lw_in 549 (by decide +kernel) (by decide +kernel)
theorem ln_RX7_38 : Cond.methodLink RX7 38 yX8_rewind ∈ lw_good := lw_in 537 (by decide +kernel) (by decide +kernel)
theorem ln_RX7_19 : Cond.methodLink RX7 19 yX1_clear ∈ lw_good := lw_in 536 (by decide +kernel) (by decide +kernel)
noncomputable def f_Set_read  (I : Mem) : Option (Int × Mem) :=
bnd (f_G_clear 1 I) fun _ J2 =>
ltI (sI J2 7 0 2 0) fun J4 =>
ltI (sI J4 7 0 4 0) fun J5 =>
ltI (sI J5 7 0 5 0) fun J6 =>
ltI (sI J6 7 0 6 0) fun J7 =>
bnd (f_Src_rewind J7) fun _ J9 =>
bnd (f_Set_readRules J9) fun x13 J12 =>
if (w32 x13) = 0 then
some (0, J12)
else
bnd (f_Set_readStart J12) fun x16 J15 =>
if (w32 x16) = 0 then
some (0, J15)
else
bnd (f_Set_readStatements J15) fun x19 J18 =>
if (w32 x19) = 0 then
some (0, J18)
else
some (1, J18)
set_option maxRecDepth 20000 in
theorem R_Set_read (Z : ZT)  (I : Mem) (r : Int) (J : Mem) (hf : f_Set_read I = some (r, J)) : Runs Z yX7_read cX7_read 1 (some .boolean) 9 [vr Z 7 0] I (some (vi r), J) := by
  refine Runs.of (rv := fun x => some (vi x)) (by decide +kernel) (Nat.le_of_ble_eq_true rfl) hf (fun gr => ?_)
  unfold f_Set_read
  refine WQ.loc [0] (lv' := [(0, vr Z 7 0)]) rfl ?_
  refine wq_aload_n dX7_read_0 0 rfl rfl ?_
  refine g_7_1 ln_RX7_15 dX7_read_1 ?_
  refine wq_cVv M_G_clear (R_G_clear Z 1 _) (ob_1 (by decide)) rfl rfl (by decide) (by decide) (Nat.le_of_ble_eq_true rfl) ln_RX7_19 dX7_read_4 (fun gr1 _ J2 => ?_)
  refine wq_aload_n dX7_read_7 0 rfl rfl ?_
  refine wq_iconst dX7_read_8 ?_
  refine p_7_2 ln_RX7_24 dX7_read_9 (fun J4 => ?_)
  refine wq_aload_n dX7_read_12 0 rfl rfl ?_
  refine wq_iconst dX7_read_13 ?_
  refine p_7_4 (by decide) ln_RX7_28 dX7_read_14 (fun J5 => ?_)
  refine wq_aload_n dX7_read_17 0 rfl rfl ?_
  refine wq_iconst dX7_read_18 ?_
  refine p_7_5 (by decide) ln_RX7_32 dX7_read_19 (fun J6 => ?_)
  refine wq_aload_n dX7_read_22 0 rfl rfl ?_
  refine wq_iconst dX7_read_23 ?_
  refine p_7_6 (by decide) ln_RX7_35 dX7_read_24 (fun J7 => ?_)
  refine wq_aload_n dX7_read_27 0 rfl rfl ?_
  refine g_7_0 ln_RX7_9 dX7_read_28 ?_
  refine wq_cVv M_Src_rewind (R_Src_rewind Z _) ob_6 rfl rfl (by decide) (by decide) (Nat.le_of_ble_eq_true rfl) ln_RX7_38 dX7_read_31 (fun gr8 _ J9 => ?_)
  refine wq_aload_n dX7_read_34 0 rfl rfl ?_
  refine wq_cVi M_Set_readRules (R_Set_readRules Z _) ob_7 rfl rfl (by decide) (by decide) (Nat.le_of_ble_eq_true rfl) ln_RX7_43 dX7_read_35 (fun gr11 x13 J12 => ?_)
  refine wq_if_eq 59 dX7_read_38 (by decide) rfl (fun c22 => ?_) (fun c22 => ?_)
  · refine wq_iconst dX7_read_59 ?_
    exact wq_zret rfl (by decide) rfl dX7_read_60
  · refine wq_aload_n dX7_read_41 0 rfl rfl ?_
    refine wq_cVi M_Set_readStart (R_Set_readStart Z _) ob_7 rfl rfl (by decide) (by decide) (Nat.le_of_ble_eq_true rfl) ln_RX7_47 dX7_read_42 (fun gr14 x16 J15 => ?_)
    refine wq_if_eq 59 dX7_read_45 (by decide) rfl (fun c21 => ?_) (fun c21 => ?_)
    · refine wq_iconst dX7_read_59 ?_
      exact wq_zret rfl (by decide) rfl dX7_read_60
    · refine wq_aload_n dX7_read_48 0 rfl rfl ?_
      refine wq_cVi M_Set_readStatements (R_Set_readStatements Z _) ob_7 rfl rfl (by decide) (by decide) (Nat.le_of_ble_eq_true rfl) ln_RX7_50 dX7_read_49 (fun gr17 x19 J18 => ?_)
      refine wq_if_eq 59 dX7_read_52 (by decide) rfl (fun c20 => ?_) (fun c20 => ?_)
      · refine wq_iconst dX7_read_59 ?_
        exact wq_zret rfl (by decide) rfl dX7_read_60
      · refine wq_iconst dX7_read_55 ?_
        refine wq_goto 60 dX7_read_56 (by decide) ?_
        exact wq_zret rfl (by decide) rfl dX7_read_60

theorem ln_RX12_45 : Cond.fieldLink RX12 45 RX12 "setup" "LPairRules$Setup;" ∈ lw_good := lw_in 482 (by decide +kernel) (by decide +kernel)
theorem M_Set_read : MwV yX7_read cX7_read 1 (some .boolean) 0 := ⟨lw_in 535 (by decide +kernel) (by decide +kernel), lw_in 533 (by decide +kernel) (by decide +kernel), lw_in 534 (by decide +kernel) (by decide +kernel), lw_in 145 (by decide +kernel) (by decide +kernel), by decide +kernel⟩
theorem M_G_beginWith : MwV yX1_beginWith cX1_beginWith 2 (none) 1 := ⟨lw_in 761 (by decide +kernel) (by decide +kernel), lw_in 759 (by decide +kernel) (by decide +kernel), lw_in 760 (by decide +kernel) (by decide +kernel), lw_in 139 (by decide +kernel) (by decide +kernel), by decide +kernel⟩
theorem M_His_forgetPast : MwV yX2_forgetPast cX2_forgetPast 1 (none) 0 := ⟨lw_in 788 (by decide +kernel) (by decide +kernel), lw_in 786 (by decide +kernel) (by decide +kernel), lw_in 787 (by decide +kernel) (by decide +kernel), lw_in 149 (by decide +kernel) (by decide +kernel), by decide +kernel⟩
theorem M_His_forgetSaved : MwV yX2_forgetSaved cX2_forgetSaved 2 (none) 0 := ⟨lw_in 792 (by decide +kernel) (by decide +kernel), lw_in 790 (by decide +kernel) (by decide +kernel), lw_in 791 (by decide +kernel) (by decide +kernel), lw_in 149 (by decide +kernel) (by decide +kernel), by decide +kernel⟩
theorem ln_RX12_119 : Cond.methodLink RX12 119 yX2_forgetSaved ∈ lw_good := lw_in 789 (by decide +kernel) (by decide +kernel)
theorem ln_RX12_116 : Cond.methodLink RX12 116 yX2_forgetPast ∈ lw_good := lw_in 785 (by decide +kernel) (by decide +kernel)
theorem ln_RX12_109 : Cond.methodLink RX12 109 yX1_beginWith ∈ lw_good := lw_in 758 (by decide +kernel) (by decide +kernel)
theorem ln_RX12_95 : Cond.methodLink RX12 95 yX7_read ∈ lw_good := lw_in 532 (by decide +kernel) (by decide +kernel)
noncomputable def f_PR_load  (I : Mem) : Option (Int × Mem) :=
bnd (f_Set_read I) fun x3 J2 =>
bnd (f_Src_dropAll J2) fun _ J5 =>
if (w32 x3) = 0 then
bnd (f_PR_failure J5) fun x28 J27 =>
some (x28, J27)
else
ltI (sI J5 0 0 9 (-1)) fun J7 =>
bnd (f_Sv_unfold 1 J7) fun _ J9 =>
bnd (f_G_beginWith 1 J9) fun _ J12 =>
bnd (f_G_takeFrom 0 1 J12) fun _ J15 =>
bnd (f_His_forgetPast J15) fun _ J18 =>
bnd (f_His_forgetSaved J18) fun _ J21 =>
bnd (f_G_textLength 0 J21) fun x25 J24 =>
some (x25, J24)
set_option maxRecDepth 20000 in
theorem R_PR_load (Z : ZT)  (I : Mem) (r : Int) (J : Mem) (hf : f_PR_load I = some (r, J)) : Runs Z yX12_load cX12_load 2 (some .int) 10 [vr Z 0 0] I (some (vi r), J) := by
  refine Runs.of (rv := fun x => some (vi x)) (by decide +kernel) (Nat.le_of_ble_eq_true rfl) hf (fun gr => ?_)
  unfold f_PR_load
  refine WQ.loc [0] (lv' := [(0, vr Z 0 0)]) rfl ?_
  refine wq_aload_n dX12_load_0 0 rfl rfl ?_
  refine g_0_5 ln_RX12_45 dX12_load_1 ?_
  refine wq_cVi M_Set_read (R_Set_read Z _) ob_7 rfl rfl (by decide) (by decide) (Nat.le_of_ble_eq_true rfl) ln_RX12_95 dX12_load_4 (fun gr1 x3 J2 => ?_)
  refine wq_istore_n (lv' := [(1, vi x3), (0, vr Z 0 0)]) dX12_load_7 rfl (by decide) rfl ?_
  refine wq_aload_n dX12_load_8 1 rfl rfl ?_
  refine g_0_4 ln_RX12_36 dX12_load_9 ?_
  refine wq_cVv M_Src_dropAll (R_Src_dropAll Z _) ob_6 rfl rfl (by decide) (by decide) (Nat.le_of_ble_eq_true rfl) ln_RX12_99 dX12_load_12 (fun gr4 _ J5 => ?_)
  refine wq_iload_n dX12_load_15 0 rfl rfl ?_
  refine wq_if_ne 24 dX12_load_16 (by decide) rfl (fun c29 => ?_) (fun c29 => ?_)
  · refine wq_aload_n dX12_load_19 1 rfl rfl ?_
    refine wq_cVi M_PR_failure (R_PR_failure Z _) ob_0 rfl rfl (by decide) (by decide) (Nat.le_of_ble_eq_true rfl) ln_RX12_102 dX12_load_20 (fun gr26 x28 J27 => ?_)
    exact wq_iret rfl rfl dX12_load_23
  · refine wq_aload_n dX12_load_24 1 rfl rfl ?_
    refine wq_iconst dX12_load_25 ?_
    refine p_0_9 ln_RX12_72 dX12_load_26 (fun J7 => ?_)
    refine wq_aload_n dX12_load_29 1 rfl rfl ?_
    refine g_0_3 ln_RX12_29 dX12_load_30 ?_
    refine wq_aload_n dX12_load_33 1 rfl rfl ?_
    refine g_0_1 ln_RX12_16 dX12_load_34 ?_
    refine wq_cVv M_Sv_unfold (R_Sv_unfold Z 1 _) ob_5 rfl rfl (by decide) (by decide) (Nat.le_of_ble_eq_true rfl) ln_RX12_105 dX12_load_37 (fun gr8 _ J9 => ?_)
    refine wq_aload_n dX12_load_40 1 rfl rfl ?_
    refine g_0_1 ln_RX12_16 dX12_load_41 ?_
    refine wq_aload_n dX12_load_44 1 rfl rfl ?_
    refine g_0_3 ln_RX12_29 dX12_load_45 ?_
    refine wq_cVv M_G_beginWith (R_G_beginWith Z 1 _) (ob_1 (by decide)) rfl rfl (by decide) (by decide) (Nat.le_of_ble_eq_true rfl) ln_RX12_109 dX12_load_48 (fun gr11 _ J12 => ?_)
    refine wq_aload_n dX12_load_51 1 rfl rfl ?_
    refine g_0_0 ln_RX12_12 dX12_load_52 ?_
    refine wq_aload_n dX12_load_55 1 rfl rfl ?_
    refine g_0_1 ln_RX12_16 dX12_load_56 ?_
    refine wq_cVv M_G_takeFrom (R_G_takeFrom Z 0 1 _) (ob_1 (by decide)) rfl rfl (by decide) (by decide) (Nat.le_of_ble_eq_true rfl) ln_RX12_113 dX12_load_59 (fun gr14 _ J15 => ?_)
    refine wq_aload_n dX12_load_62 1 rfl rfl ?_
    refine g_0_7 ln_RX12_61 dX12_load_63 ?_
    refine wq_cVv M_His_forgetPast (R_His_forgetPast Z _) ob_9 rfl rfl (by decide) (by decide) (Nat.le_of_ble_eq_true rfl) ln_RX12_116 dX12_load_66 (fun gr17 _ J18 => ?_)
    refine wq_aload_n dX12_load_69 1 rfl rfl ?_
    refine g_0_7 ln_RX12_61 dX12_load_70 ?_
    refine wq_cVv M_His_forgetSaved (R_His_forgetSaved Z _) ob_9 rfl rfl (by decide) (by decide) (Nat.le_of_ble_eq_true rfl) ln_RX12_119 dX12_load_73 (fun gr20 _ J21 => ?_)
    refine wq_aload_n dX12_load_76 1 rfl rfl ?_
    refine g_0_0 ln_RX12_12 dX12_load_77 ?_
    refine wq_cVi M_G_textLength (R_G_textLength Z 0 _) (ob_1 (by decide)) rfl rfl (by decide) (by decide) (Nat.le_of_ble_eq_true rfl) ln_RX12_122 dX12_load_80 (fun gr23 x25 J24 => ?_)
    exact wq_iret rfl rfl dX12_load_83
