theorem M_PR_bodyAt : MwV yX12_bodyAt cX12_bodyAt 4 (some .int) 2 := ⟨li_6 58 (by decide +kernel) (by decide +kernel), li_6 56 (by decide +kernel) (by decide +kernel), li_6 57 (by decide +kernel) (by decide +kernel), li_1 1 (by decide +kernel) (by decide +kernel), by decide +kernel⟩
theorem ln_RL_25 : Cond.methodLink RL 25 yX12_bodyAt ∈ lw_good := li_6 55 (by decide +kernel) (by decide +kernel)
noncomputable def f_L_bodyAt (a1 : Int) (a2 : Int) (I : Mem) : Option ((Int) × Mem) :=
bndX (f_PR_bodyAt a1 a2 I) (fun x3 J2 =>
ltI (sI J2 29 0 0 (w32 x3)) fun J4 =>
some (0, J4)) fun E8 J6 =>
if E8 = xIO then
some (1, J6)
else none
set_option maxRecDepth 20000 in
theorem R_L_bodyAt (Z : ZT) (a1 : Int) (a2 : Int) (I : Mem) (r : Int) (J : Mem) (hf : f_L_bodyAt a1 a2 I = some (r, J)) : RunsH Z yL_bodyAt cL_bodyAt 5 (some .int) 7 [vr Z 0 0, vi a1, vi a2, vr Z 29 0] I (some (vi r), J) := by
  refine RunsH.of (rv := fun x => some (vi x)) (by decide +kernel) (Nat.le_of_ble_eq_true rfl) hf (fun gr => ?_)
  unfold f_L_bodyAt
  refine WQ.loc [0, 1, 2, 3] (lv' := [(0, vr Z 0 0), (1, vi a1), (2, vi a2), (3, vr Z 29 0)]) rfl ?_
  refine wq_aload_n dL_bodyAt_0 3 rfl rfl ?_
  refine wq_iconst dL_bodyAt_1 ?_
  refine wq_aload_n dL_bodyAt_2 0 rfl rfl ?_
  refine wq_iload_n dL_bodyAt_3 1 rfl rfl ?_
  refine wq_iload_n dL_bodyAt_4 2 rfl rfl ?_
  refine wq_callX (rv := fun x => some (vi x)) M_PR_bodyAt (R_PR_bodyAt Z a1 a2 _) ob_0 rfl rfl (by decide) (by decide) (Nat.le_of_ble_eq_true rfl) ln_RL_25 dL_bodyAt_5 (fun gr1 x3 J2 => ?_) (fun E8 J6 => ?_)
  · refine wq_i2l dL_bodyAt_8 ?_
    refine wq_last dL_bodyAt_9 (fun J4 => ?_)
    refine wq_goto 17 dL_bodyAt_10 (by decide) ?_
    refine wq_iconst dL_bodyAt_17 ?_
    exact wq_iret rfl rfl dL_bodyAt_18
  · refine HX.here (tgt := 13) ⟨[], (0, 10, 13, 19), [], by decide +kernel, (fun z hz => by cases hz), rfl, rfl, by decide, hx_IO, hc_IO⟩ (fun gr5 q7 => ?_) ?_
    · refine wq_astore (lv' := [(4, .ref q7), (0, vr Z 0 0), (1, vi a1), (2, vi a2), (3, vr Z 29 0)]) dL_bodyAt_13 (by decide) rfl ?_
      refine wq_iconst dL_bodyAt_15 ?_
      exact wq_iret rfl rfl dL_bodyAt_16
    exact HX.none

theorem M_PR_startAt : MwV yX12_startAt cX12_startAt 3 (some .int) 1 := ⟨li_6 66 (by decide +kernel) (by decide +kernel), li_6 64 (by decide +kernel) (by decide +kernel), li_6 65 (by decide +kernel) (by decide +kernel), li_1 1 (by decide +kernel) (by decide +kernel), by decide +kernel⟩
theorem ln_RL_28 : Cond.methodLink RL 28 yX12_startAt ∈ lw_good := li_6 63 (by decide +kernel) (by decide +kernel)
noncomputable def f_L_startAt (a1 : Int) (I : Mem) : Option ((Int) × Mem) :=
bndX (f_PR_startAt a1 I) (fun x3 J2 =>
ltI (sI J2 29 0 0 (w32 x3)) fun J4 =>
some (0, J4)) fun E8 J6 =>
if E8 = xIO then
some (1, J6)
else none
set_option maxRecDepth 20000 in
theorem R_L_startAt (Z : ZT) (a1 : Int) (I : Mem) (r : Int) (J : Mem) (hf : f_L_startAt a1 I = some (r, J)) : RunsH Z yL_startAt cL_startAt 4 (some .int) 7 [vr Z 0 0, vi a1, vr Z 29 0] I (some (vi r), J) := by
  refine RunsH.of (rv := fun x => some (vi x)) (by decide +kernel) (Nat.le_of_ble_eq_true rfl) hf (fun gr => ?_)
  unfold f_L_startAt
  refine WQ.loc [0, 1, 2] (lv' := [(0, vr Z 0 0), (1, vi a1), (2, vr Z 29 0)]) rfl ?_
  refine wq_aload_n dL_startAt_0 2 rfl rfl ?_
  refine wq_iconst dL_startAt_1 ?_
  refine wq_aload_n dL_startAt_2 0 rfl rfl ?_
  refine wq_iload_n dL_startAt_3 1 rfl rfl ?_
  refine wq_callX (rv := fun x => some (vi x)) M_PR_startAt (R_PR_startAt Z a1 _) ob_0 rfl rfl (by decide) (by decide) (Nat.le_of_ble_eq_true rfl) ln_RL_28 dL_startAt_4 (fun gr1 x3 J2 => ?_) (fun E8 J6 => ?_)
  · refine wq_i2l dL_startAt_7 ?_
    refine wq_last dL_startAt_8 (fun J4 => ?_)
    refine wq_goto 15 dL_startAt_9 (by decide) ?_
    refine wq_iconst dL_startAt_15 ?_
    exact wq_iret rfl rfl dL_startAt_16
  · refine HX.here (tgt := 12) ⟨[], (0, 9, 12, 19), [], by decide +kernel, (fun z hz => by cases hz), rfl, rfl, by decide, hx_IO, hc_IO⟩ (fun gr5 q7 => ?_) ?_
    · refine wq_astore_n (lv' := [(3, .ref q7), (0, vr Z 0 0), (1, vi a1), (2, vr Z 29 0)]) dL_startAt_12 rfl (by decide) rfl ?_
      refine wq_iconst dL_startAt_13 ?_
      exact wq_iret rfl rfl dL_startAt_14
    exact HX.none

theorem M_PR_account : MwV yX12_account cX12_account 2 (some .int) 1 := ⟨li_6 105 (by decide +kernel) (by decide +kernel), li_6 103 (by decide +kernel) (by decide +kernel), li_6 104 (by decide +kernel) (by decide +kernel), li_1 1 (by decide +kernel) (by decide +kernel), by decide +kernel⟩
theorem ln_RL_40 : Cond.methodLink RL 40 yX12_account ∈ lw_good := li_6 102 (by decide +kernel) (by decide +kernel)
noncomputable def f_L_account (a1 : Int) (I : Mem) : Option ((Int) × Mem) :=
bndX (f_PR_account a1 I) (fun x3 J2 =>
ltI (sI J2 29 0 0 (w32 x3)) fun J4 =>
some (0, J4)) fun E8 J6 =>
if E8 = xIA then
some (1, J6)
else none
set_option maxRecDepth 20000 in
theorem R_L_account (Z : ZT) (a1 : Int) (I : Mem) (r : Int) (J : Mem) (hf : f_L_account a1 I = some (r, J)) : RunsH Z yL_account cL_account 4 (some .int) 7 [vr Z 0 0, vi a1, vr Z 29 0] I (some (vi r), J) := by
  refine RunsH.of (rv := fun x => some (vi x)) (by decide +kernel) (Nat.le_of_ble_eq_true rfl) hf (fun gr => ?_)
  unfold f_L_account
  refine WQ.loc [0, 1, 2] (lv' := [(0, vr Z 0 0), (1, vi a1), (2, vr Z 29 0)]) rfl ?_
  refine wq_aload_n dL_account_0 2 rfl rfl ?_
  refine wq_iconst dL_account_1 ?_
  refine wq_aload_n dL_account_2 0 rfl rfl ?_
  refine wq_iload_n dL_account_3 1 rfl rfl ?_
  refine wq_callX (rv := fun x => some (vi x)) M_PR_account (R_PR_account Z a1 _) ob_0 rfl rfl (by decide) (by decide) (Nat.le_of_ble_eq_true rfl) ln_RL_40 dL_account_4 (fun gr1 x3 J2 => ?_) (fun E8 J6 => ?_)
  · refine wq_i2l dL_account_7 ?_
    refine wq_last dL_account_8 (fun J4 => ?_)
    refine wq_goto 15 dL_account_9 (by decide) ?_
    refine wq_iconst dL_account_15 ?_
    exact wq_iret rfl rfl dL_account_16
  · refine HX.here (tgt := 12) ⟨[], (0, 9, 12, 13), [], by decide +kernel, (fun z hz => by cases hz), rfl, rfl, by decide, hx_IA, hc_IA⟩ (fun gr5 q7 => ?_) ?_
    · refine wq_astore_n (lv' := [(3, .ref q7), (0, vr Z 0 0), (1, vi a1), (2, vr Z 29 0)]) dL_account_12 rfl (by decide) rfl ?_
      refine wq_iconst dL_account_13 ?_
      exact wq_iret rfl rfl dL_account_14
    exact HX.none

theorem M_PR_isRule : MwV yX12_isRule cX12_isRule 2 (some .boolean) 1 := ⟨li_6 17 (by decide +kernel) (by decide +kernel), li_6 15 (by decide +kernel) (by decide +kernel), li_6 16 (by decide +kernel) (by decide +kernel), li_1 1 (by decide +kernel) (by decide +kernel), by decide +kernel⟩
theorem ln_RL_15 : Cond.methodLink RL 15 yX12_isRule ∈ lw_good := li_6 14 (by decide +kernel) (by decide +kernel)
noncomputable def f_L_isRule (a1 : Int) (I : Mem) : Option ((Int) × Mem) :=
bndX (f_PR_isRule a1 I) (fun x3 J2 =>
if (w32 x3) = 0 then
ltI (sI J2 29 0 0 0) fun J4 =>
some (0, J4)
else
ltI (sI J2 29 0 0 1) fun J5 =>
some (0, J5)) fun E10 J8 =>
if E10 = xIO then
some (1, J8)
else none
set_option maxRecDepth 20000 in
theorem R_L_isRule (Z : ZT) (a1 : Int) (I : Mem) (r : Int) (J : Mem) (hf : f_L_isRule a1 I = some (r, J)) : RunsH Z yL_isRule cL_isRule 4 (some .int) 7 [vr Z 0 0, vi a1, vr Z 29 0] I (some (vi r), J) := by
  refine RunsH.of (rv := fun x => some (vi x)) (by decide +kernel) (Nat.le_of_ble_eq_true rfl) hf (fun gr => ?_)
  unfold f_L_isRule
  refine WQ.loc [0, 1, 2] (lv' := [(0, vr Z 0 0), (1, vi a1), (2, vr Z 29 0)]) rfl ?_
  refine wq_aload_n dL_isRule_0 2 rfl rfl ?_
  refine wq_iconst dL_isRule_1 ?_
  refine wq_aload_n dL_isRule_2 0 rfl rfl ?_
  refine wq_iload_n dL_isRule_3 1 rfl rfl ?_
  refine wq_callX (rv := fun x => some (vi x)) M_PR_isRule (R_PR_isRule Z a1 _) ob_0 rfl rfl (by decide) (by decide) (Nat.le_of_ble_eq_true rfl) ln_RL_15 dL_isRule_4 (fun gr1 x3 J2 => ?_) (fun E10 J8 => ?_)
  · refine wq_if_eq 14 dL_isRule_7 (by decide) rfl (fun c6 => ?_) (fun c6 => ?_)
    · refine wq_lconst (v := 0) rfl dL_isRule_14 ?_
      refine wq_last dL_isRule_15 (fun J4 => ?_)
      refine wq_goto 22 dL_isRule_16 (by decide) ?_
      refine wq_iconst dL_isRule_22 ?_
      exact wq_iret rfl rfl dL_isRule_23
    · refine wq_lconst (v := 1) rfl dL_isRule_10 ?_
      refine wq_goto 15 dL_isRule_11 (by decide) ?_
      refine wq_last dL_isRule_15 (fun J5 => ?_)
      refine wq_goto 22 dL_isRule_16 (by decide) ?_
      refine wq_iconst dL_isRule_22 ?_
      exact wq_iret rfl rfl dL_isRule_23
  · refine HX.here (tgt := 19) ⟨[], (0, 16, 19, 19), [], by decide +kernel, (fun z hz => by cases hz), rfl, rfl, by decide, hx_IO, hc_IO⟩ (fun gr7 q9 => ?_) ?_
    · refine wq_astore_n (lv' := [(3, .ref q9), (0, vr Z 0 0), (1, vi a1), (2, vr Z 29 0)]) dL_isRule_19 rfl (by decide) rfl ?_
      refine wq_iconst dL_isRule_20 ?_
      exact wq_iret rfl rfl dL_isRule_21
    exact HX.none

theorem M_PR_letterAt : MwV yX12_letterAt cX12_letterAt 2 (some .int) 1 := ⟨li_6 73 (by decide +kernel) (by decide +kernel), li_6 71 (by decide +kernel) (by decide +kernel), li_6 72 (by decide +kernel) (by decide +kernel), li_1 1 (by decide +kernel) (by decide +kernel), by decide +kernel⟩
theorem ln_RL_31 : Cond.methodLink RL 31 yX12_letterAt ∈ lw_good := li_6 70 (by decide +kernel) (by decide +kernel)
noncomputable def f_L_letterAt (a1 : Int) (I : Mem) : Option ((Int) × Mem) :=
bndX (f_PR_letterAt a1 I) (fun x3 J2 =>
ltI (sI J2 29 0 0 (w32 x3)) fun J4 =>
some (0, J4)) fun E8 J6 =>
if E8 = xIO then
some (1, J6)
else none
set_option maxRecDepth 20000 in
theorem R_L_letterAt (Z : ZT) (a1 : Int) (I : Mem) (r : Int) (J : Mem) (hf : f_L_letterAt a1 I = some (r, J)) : RunsH Z yL_letterAt cL_letterAt 4 (some .int) 7 [vr Z 0 0, vi a1, vr Z 29 0] I (some (vi r), J) := by
  refine RunsH.of (rv := fun x => some (vi x)) (by decide +kernel) (Nat.le_of_ble_eq_true rfl) hf (fun gr => ?_)
  unfold f_L_letterAt
  refine WQ.loc [0, 1, 2] (lv' := [(0, vr Z 0 0), (1, vi a1), (2, vr Z 29 0)]) rfl ?_
  refine wq_aload_n dL_letterAt_0 2 rfl rfl ?_
  refine wq_iconst dL_letterAt_1 ?_
  refine wq_aload_n dL_letterAt_2 0 rfl rfl ?_
  refine wq_iload_n dL_letterAt_3 1 rfl rfl ?_
  refine wq_callX (rv := fun x => some (vi x)) M_PR_letterAt (R_PR_letterAt Z a1 _) ob_0 rfl rfl (by decide) (by decide) (Nat.le_of_ble_eq_true rfl) ln_RL_31 dL_letterAt_4 (fun gr1 x3 J2 => ?_) (fun E8 J6 => ?_)
  · refine wq_i2l dL_letterAt_7 ?_
    refine wq_last dL_letterAt_8 (fun J4 => ?_)
    refine wq_goto 15 dL_letterAt_9 (by decide) ?_
    refine wq_iconst dL_letterAt_15 ?_
    exact wq_iret rfl rfl dL_letterAt_16
  · refine HX.here (tgt := 12) ⟨[], (0, 9, 12, 19), [], by decide +kernel, (fun z hz => by cases hz), rfl, rfl, by decide, hx_IO, hc_IO⟩ (fun gr5 q7 => ?_) ?_
    · refine wq_astore_n (lv' := [(3, .ref q7), (0, vr Z 0 0), (1, vi a1), (2, vr Z 29 0)]) dL_letterAt_12 rfl (by decide) rfl ?_
      refine wq_iconst dL_letterAt_13 ?_
      exact wq_iret rfl rfl dL_letterAt_14
    exact HX.none

theorem M_PR_symbolOf : MwV yX12_symbolOf cX12_symbolOf 2 (some .int) 1 := ⟨li_6 88 (by decide +kernel) (by decide +kernel), li_6 86 (by decide +kernel) (by decide +kernel), li_6 87 (by decide +kernel) (by decide +kernel), li_1 1 (by decide +kernel) (by decide +kernel), by decide +kernel⟩
theorem ln_RL_34 : Cond.methodLink RL 34 yX12_symbolOf ∈ lw_good := li_6 85 (by decide +kernel) (by decide +kernel)
noncomputable def f_L_symbolOf (a1 : Int) (I : Mem) : Option ((Int) × Mem) :=
bndX (f_PR_symbolOf a1 I) (fun x3 J2 =>
ltI (sI J2 29 0 0 (w32 x3)) fun J4 =>
some (0, J4)) fun E8 J6 =>
if E8 = xIO then
some (1, J6)
else none
set_option maxRecDepth 20000 in
theorem R_L_symbolOf (Z : ZT) (a1 : Int) (I : Mem) (r : Int) (J : Mem) (hf : f_L_symbolOf a1 I = some (r, J)) : RunsH Z yL_symbolOf cL_symbolOf 4 (some .int) 7 [vr Z 0 0, vi a1, vr Z 29 0] I (some (vi r), J) := by
  refine RunsH.of (rv := fun x => some (vi x)) (by decide +kernel) (Nat.le_of_ble_eq_true rfl) hf (fun gr => ?_)
  unfold f_L_symbolOf
  refine WQ.loc [0, 1, 2] (lv' := [(0, vr Z 0 0), (1, vi a1), (2, vr Z 29 0)]) rfl ?_
  refine wq_aload_n dL_symbolOf_0 2 rfl rfl ?_
  refine wq_iconst dL_symbolOf_1 ?_
  refine wq_aload_n dL_symbolOf_2 0 rfl rfl ?_
  refine wq_iload_n dL_symbolOf_3 1 rfl rfl ?_
  refine wq_callX (rv := fun x => some (vi x)) M_PR_symbolOf (R_PR_symbolOf Z a1 _) ob_0 rfl rfl (by decide) (by decide) (Nat.le_of_ble_eq_true rfl) ln_RL_34 dL_symbolOf_4 (fun gr1 x3 J2 => ?_) (fun E8 J6 => ?_)
  · refine wq_i2l dL_symbolOf_7 ?_
    refine wq_last dL_symbolOf_8 (fun J4 => ?_)
    refine wq_goto 15 dL_symbolOf_9 (by decide) ?_
    refine wq_iconst dL_symbolOf_15 ?_
    exact wq_iret rfl rfl dL_symbolOf_16
  · refine HX.here (tgt := 12) ⟨[], (0, 9, 12, 19), [], by decide +kernel, (fun z hz => by cases hz), rfl, rfl, by decide, hx_IO, hc_IO⟩ (fun gr5 q7 => ?_) ?_
    · refine wq_astore_n (lv' := [(3, .ref q7), (0, vr Z 0 0), (1, vi a1), (2, vr Z 29 0)]) dL_symbolOf_12 rfl (by decide) rfl ?_
      refine wq_iconst dL_symbolOf_13 ?_
      exact wq_iret rfl rfl dL_symbolOf_14
    exact HX.none

theorem M_PR_letters : MwV yX12_letters cX12_letters 2 (some .int) 1 := ⟨li_6 96 (by decide +kernel) (by decide +kernel), li_6 94 (by decide +kernel) (by decide +kernel), li_6 95 (by decide +kernel) (by decide +kernel), li_1 1 (by decide +kernel) (by decide +kernel), by decide +kernel⟩
theorem ln_RL_37 : Cond.methodLink RL 37 yX12_letters ∈ lw_good := li_6 93 (by decide +kernel) (by decide +kernel)
noncomputable def f_L_letters (a1 : Int) (I : Mem) : Option ((Int) × Mem) :=
bndX (f_PR_letters a1 I) (fun x3 J2 =>
ltI (sI J2 29 0 0 (w32 x3)) fun J4 =>
some (0, J4)) fun E8 J6 =>
if E8 = xIA then
some (1, J6)
else none
set_option maxRecDepth 20000 in
theorem R_L_letters (Z : ZT) (a1 : Int) (I : Mem) (r : Int) (J : Mem) (hf : f_L_letters a1 I = some (r, J)) : RunsH Z yL_letters cL_letters 4 (some .int) 7 [vr Z 0 0, vi a1, vr Z 29 0] I (some (vi r), J) := by
  refine RunsH.of (rv := fun x => some (vi x)) (by decide +kernel) (Nat.le_of_ble_eq_true rfl) hf (fun gr => ?_)
  unfold f_L_letters
  refine WQ.loc [0, 1, 2] (lv' := [(0, vr Z 0 0), (1, vi a1), (2, vr Z 29 0)]) rfl ?_
  refine wq_aload_n dL_letters_0 2 rfl rfl ?_
  refine wq_iconst dL_letters_1 ?_
  refine wq_aload_n dL_letters_2 0 rfl rfl ?_
  refine wq_iload_n dL_letters_3 1 rfl rfl ?_
  refine wq_callX (rv := fun x => some (vi x)) M_PR_letters (R_PR_letters Z a1 _) ob_0 rfl rfl (by decide) (by decide) (Nat.le_of_ble_eq_true rfl) ln_RL_37 dL_letters_4 (fun gr1 x3 J2 => ?_) (fun E8 J6 => ?_)
  · refine wq_i2l dL_letters_7 ?_
    refine wq_last dL_letters_8 (fun J4 => ?_)
    refine wq_goto 15 dL_letters_9 (by decide) ?_
    refine wq_iconst dL_letters_15 ?_
    exact wq_iret rfl rfl dL_letters_16
  · refine HX.here (tgt := 12) ⟨[], (0, 9, 12, 13), [], by decide +kernel, (fun z hz => by cases hz), rfl, rfl, by decide, hx_IA, hc_IA⟩ (fun gr5 q7 => ?_) ?_
    · refine wq_astore_n (lv' := [(3, .ref q7), (0, vr Z 0 0), (1, vi a1), (2, vr Z 29 0)]) dL_letters_12 rfl (by decide) rfl ?_
      refine wq_iconst dL_letters_13 ?_
      exact wq_iret rfl rfl dL_letters_14
    exact HX.none

theorem M_PR_size : MwV yX12_size cX12_size 2 (some .int) 1 := ⟨li_5 141 (by decide +kernel) (by decide +kernel), li_5 139 (by decide +kernel) (by decide +kernel), li_5 140 (by decide +kernel) (by decide +kernel), li_1 1 (by decide +kernel) (by decide +kernel), by decide +kernel⟩
theorem ln_RL_7 : Cond.methodLink RL 7 yX12_size ∈ lw_good := li_5 138 (by decide +kernel) (by decide +kernel)
noncomputable def f_L_size (a1 : Int) (I : Mem) : Option ((Int) × Mem) :=
bndX (f_PR_size a1 I) (fun x3 J2 =>
ltI (sI J2 29 0 0 (w32 x3)) fun J4 =>
some (0, J4)) fun E8 J6 =>
if E8 = xIA then
some (1, J6)
else none
set_option maxRecDepth 20000 in
theorem R_L_size (Z : ZT) (a1 : Int) (I : Mem) (r : Int) (J : Mem) (hf : f_L_size a1 I = some (r, J)) : RunsH Z yL_size cL_size 4 (some .int) 7 [vr Z 0 0, vi a1, vr Z 29 0] I (some (vi r), J) := by
  refine RunsH.of (rv := fun x => some (vi x)) (by decide +kernel) (Nat.le_of_ble_eq_true rfl) hf (fun gr => ?_)
  unfold f_L_size
  refine WQ.loc [0, 1, 2] (lv' := [(0, vr Z 0 0), (1, vi a1), (2, vr Z 29 0)]) rfl ?_
  refine wq_aload_n dL_size_0 2 rfl rfl ?_
  refine wq_iconst dL_size_1 ?_
  refine wq_aload_n dL_size_2 0 rfl rfl ?_
  refine wq_iload_n dL_size_3 1 rfl rfl ?_
  refine wq_callX (rv := fun x => some (vi x)) M_PR_size (R_PR_size Z a1 _) ob_0 rfl rfl (by decide) (by decide) (Nat.le_of_ble_eq_true rfl) ln_RL_7 dL_size_4 (fun gr1 x3 J2 => ?_) (fun E8 J6 => ?_)
  · refine wq_i2l dL_size_7 ?_
    refine wq_last dL_size_8 (fun J4 => ?_)
    refine wq_goto 15 dL_size_9 (by decide) ?_
    refine wq_iconst dL_size_15 ?_
    exact wq_iret rfl rfl dL_size_16
  · refine HX.here (tgt := 12) ⟨[], (0, 9, 12, 13), [], by decide +kernel, (fun z hz => by cases hz), rfl, rfl, by decide, hx_IA, hc_IA⟩ (fun gr5 q7 => ?_) ?_
    · refine wq_astore_n (lv' := [(3, .ref q7), (0, vr Z 0 0), (1, vi a1), (2, vr Z 29 0)]) dL_size_12 rfl (by decide) rfl ?_
      refine wq_iconst dL_size_13 ?_
      exact wq_iret rfl rfl dL_size_14
    exact HX.none

theorem M_PR_rule : MwV yX12_rule cX12_rule 3 (some .int) 2 := ⟨li_6 39 (by decide +kernel) (by decide +kernel), li_6 37 (by decide +kernel) (by decide +kernel), li_6 38 (by decide +kernel) (by decide +kernel), li_1 1 (by decide +kernel) (by decide +kernel), by decide +kernel⟩
theorem ln_RL_21 : Cond.methodLink RL 21 yX12_rule ∈ lw_good := li_6 36 (by decide +kernel) (by decide +kernel)
noncomputable def f_L_rule (a1 : Int) (a2 : Int) (I : Mem) : Option ((Int) × Mem) :=
bndX (f_PR_rule a1 a2 I) (fun x3 J2 =>
ltI (sI J2 29 0 0 (w32 x3)) fun J4 =>
some (0, J4)) fun E8 J6 =>
if E8 = xIO then
some (1, J6)
else if E8 = xIA then
some (2, J6)
else none
set_option maxRecDepth 20000 in
theorem R_L_rule (Z : ZT) (a1 : Int) (a2 : Int) (I : Mem) (r : Int) (J : Mem) (hf : f_L_rule a1 a2 I = some (r, J)) : RunsH Z yL_rule cL_rule 5 (some .int) 7 [vr Z 0 0, vi a1, vi a2, vr Z 29 0] I (some (vi r), J) := by
  refine RunsH.of (rv := fun x => some (vi x)) (by decide +kernel) (Nat.le_of_ble_eq_true rfl) hf (fun gr => ?_)
  unfold f_L_rule
  refine WQ.loc [0, 1, 2, 3] (lv' := [(0, vr Z 0 0), (1, vi a1), (2, vi a2), (3, vr Z 29 0)]) rfl ?_
  refine wq_aload_n dL_rule_0 3 rfl rfl ?_
  refine wq_iconst dL_rule_1 ?_
  refine wq_aload_n dL_rule_2 0 rfl rfl ?_
  refine wq_iload_n dL_rule_3 1 rfl rfl ?_
  refine wq_iload_n dL_rule_4 2 rfl rfl ?_
  refine wq_callX (rv := fun x => some (vi x)) M_PR_rule (R_PR_rule Z a1 a2 _) ob_0 rfl rfl (by decide) (by decide) (Nat.le_of_ble_eq_true rfl) ln_RL_21 dL_rule_5 (fun gr1 x3 J2 => ?_) (fun E8 J6 => ?_)
  · refine wq_i2l dL_rule_8 ?_
    refine wq_last dL_rule_9 (fun J4 => ?_)
    refine wq_goto 21 dL_rule_10 (by decide) ?_
    refine wq_iconst dL_rule_21 ?_
    exact wq_iret rfl rfl dL_rule_22
  · refine HX.here (tgt := 13) ⟨[], (0, 10, 13, 19), [(0, 10, 17, 13)], by decide +kernel, (fun z hz => by cases hz), rfl, rfl, by decide, hx_IO, hc_IO⟩ (fun gr5 q7 => ?_) ?_
    · refine wq_astore (lv' := [(4, .ref q7), (0, vr Z 0 0), (1, vi a1), (2, vi a2), (3, vr Z 29 0)]) dL_rule_13 (by decide) rfl ?_
      refine wq_iconst dL_rule_15 ?_
      exact wq_iret rfl rfl dL_rule_16
    refine HX.here (tgt := 17) ⟨[(0, 10, 13, 19)], (0, 10, 17, 13), [], by decide +kernel, (fun z hz => by cases List.mem_singleton.mp hz; exact ⟨by decide, _, hx_IO, by decide +kernel⟩), rfl, rfl, by decide, hx_IA, hc_IA⟩ (fun gr5 q7 => ?_) ?_
    · refine wq_astore (lv' := [(4, .ref q7), (0, vr Z 0 0), (1, vi a1), (2, vi a2), (3, vr Z 29 0)]) dL_rule_17 (by decide) rfl ?_
      refine wq_iconst dL_rule_19 ?_
      exact wq_iret rfl rfl dL_rule_20
    exact HX.none

theorem M_PR_count : MwV yX12_count cX12_count 4 (some .int) 2 := ⟨li_6 112 (by decide +kernel) (by decide +kernel), li_6 110 (by decide +kernel) (by decide +kernel), li_6 111 (by decide +kernel) (by decide +kernel), li_1 1 (by decide +kernel) (by decide +kernel), by decide +kernel⟩
theorem ln_RL_43 : Cond.methodLink RL 43 yX12_count ∈ lw_good := li_6 109 (by decide +kernel) (by decide +kernel)
noncomputable def f_L_count (a1 : Int) (a2 : Int) (I : Mem) : Option ((Int) × Mem) :=
bndX (f_PR_count a1 a2 I) (fun x3 J2 =>
ltI (sI J2 29 0 0 (w32 x3)) fun J4 =>
some (0, J4)) fun E8 J6 =>
if E8 = xIA then
some (1, J6)
else none
set_option maxRecDepth 20000 in
theorem R_L_count (Z : ZT) (a1 : Int) (a2 : Int) (I : Mem) (r : Int) (J : Mem) (hf : f_L_count a1 a2 I = some (r, J)) : RunsH Z yL_count cL_count 5 (some .int) 7 [vr Z 0 0, vi a1, vi a2, vr Z 29 0] I (some (vi r), J) := by
  refine RunsH.of (rv := fun x => some (vi x)) (by decide +kernel) (Nat.le_of_ble_eq_true rfl) hf (fun gr => ?_)
  unfold f_L_count
  refine WQ.loc [0, 1, 2, 3] (lv' := [(0, vr Z 0 0), (1, vi a1), (2, vi a2), (3, vr Z 29 0)]) rfl ?_
  refine wq_aload_n dL_count_0 3 rfl rfl ?_
  refine wq_iconst dL_count_1 ?_
  refine wq_aload_n dL_count_2 0 rfl rfl ?_
  refine wq_iload_n dL_count_3 1 rfl rfl ?_
  refine wq_iload_n dL_count_4 2 rfl rfl ?_
  refine wq_callX (rv := fun x => some (vi x)) M_PR_count (R_PR_count Z a1 a2 _) ob_0 rfl rfl (by decide) (by decide) (Nat.le_of_ble_eq_true rfl) ln_RL_43 dL_count_5 (fun gr1 x3 J2 => ?_) (fun E8 J6 => ?_)
  · refine wq_i2l dL_count_8 ?_
    refine wq_last dL_count_9 (fun J4 => ?_)
    refine wq_goto 17 dL_count_10 (by decide) ?_
    refine wq_iconst dL_count_17 ?_
    exact wq_iret rfl rfl dL_count_18
  · refine HX.here (tgt := 13) ⟨[], (0, 10, 13, 13), [], by decide +kernel, (fun z hz => by cases hz), rfl, rfl, by decide, hx_IA, hc_IA⟩ (fun gr5 q7 => ?_) ?_
    · refine wq_astore (lv' := [(4, .ref q7), (0, vr Z 0 0), (1, vi a1), (2, vi a2), (3, vr Z 29 0)]) dL_count_13 (by decide) rfl ?_
      refine wq_iconst dL_count_15 ?_
      exact wq_iret rfl rfl dL_count_16
    exact HX.none

theorem M_PR_best : MwV yX12_best cX12_best 4 (some .int) 1 := ⟨li_6 120 (by decide +kernel) (by decide +kernel), li_6 118 (by decide +kernel) (by decide +kernel), li_6 119 (by decide +kernel) (by decide +kernel), li_1 1 (by decide +kernel) (by decide +kernel), by decide +kernel⟩
theorem ln_RL_46 : Cond.methodLink RL 46 yX12_best ∈ lw_good := li_6 117 (by decide +kernel) (by decide +kernel)
noncomputable def f_L_best (a1 : Int) (I : Mem) : Option ((Int) × Mem) :=
bndX (f_PR_best a1 I) (fun x3 J2 =>
ltI (sI J2 29 0 0 (w32 x3)) fun J4 =>
some (0, J4)) fun E8 J6 =>
if E8 = xIA then
some (1, J6)
else none
set_option maxRecDepth 20000 in
theorem R_L_best (Z : ZT) (a1 : Int) (I : Mem) (r : Int) (J : Mem) (hf : f_L_best a1 I = some (r, J)) : RunsH Z yL_best cL_best 4 (some .int) 7 [vr Z 0 0, vi a1, vr Z 29 0] I (some (vi r), J) := by
  refine RunsH.of (rv := fun x => some (vi x)) (by decide +kernel) (Nat.le_of_ble_eq_true rfl) hf (fun gr => ?_)
  unfold f_L_best
  refine WQ.loc [0, 1, 2] (lv' := [(0, vr Z 0 0), (1, vi a1), (2, vr Z 29 0)]) rfl ?_
  refine wq_aload_n dL_best_0 2 rfl rfl ?_
  refine wq_iconst dL_best_1 ?_
  refine wq_aload_n dL_best_2 0 rfl rfl ?_
  refine wq_iload_n dL_best_3 1 rfl rfl ?_
  refine wq_callX (rv := fun x => some (vi x)) M_PR_best (R_PR_best Z a1 _) ob_0 rfl rfl (by decide) (by decide) (Nat.le_of_ble_eq_true rfl) ln_RL_46 dL_best_4 (fun gr1 x3 J2 => ?_) (fun E8 J6 => ?_)
  · refine wq_i2l dL_best_7 ?_
    refine wq_last dL_best_8 (fun J4 => ?_)
    refine wq_goto 15 dL_best_9 (by decide) ?_
    refine wq_iconst dL_best_15 ?_
    exact wq_iret rfl rfl dL_best_16
  · refine HX.here (tgt := 12) ⟨[], (0, 9, 12, 13), [], by decide +kernel, (fun z hz => by cases hz), rfl, rfl, by decide, hx_IA, hc_IA⟩ (fun gr5 q7 => ?_) ?_
    · refine wq_astore_n (lv' := [(3, .ref q7), (0, vr Z 0 0), (1, vi a1), (2, vr Z 29 0)]) dL_best_12 rfl (by decide) rfl ?_
      refine wq_iconst dL_best_13 ?_
      exact wq_iret rfl rfl dL_best_14
    exact HX.none

theorem M_PR_why : MwV yX12_why cX12_why 6 (some .int) 2 := ⟨li_6 134 (by decide +kernel) (by decide +kernel), li_6 132 (by decide +kernel) (by decide +kernel), li_6 133 (by decide +kernel) (by decide +kernel), li_1 1 (by decide +kernel) (by decide +kernel), by decide +kernel⟩
theorem ln_RL_49 : Cond.methodLink RL 49 yX12_why ∈ lw_good := li_6 131 (by decide +kernel) (by decide +kernel)
noncomputable def f_L_why (a1 : Int) (a2 : Int) (I : Mem) : Option ((Int) × Mem) :=
bndX (f_PR_why a1 a2 I) (fun x3 J2 =>
ltI (sI J2 29 0 0 (w32 x3)) fun J4 =>
some (0, J4)) fun E8 J6 =>
if E8 = xIA then
some (1, J6)
else none
set_option maxRecDepth 20000 in
theorem R_L_why (Z : ZT) (a1 : Int) (a2 : Int) (I : Mem) (r : Int) (J : Mem) (hf : f_L_why a1 a2 I = some (r, J)) : RunsH Z yL_why cL_why 5 (some .int) 7 [vr Z 0 0, vi a1, vi a2, vr Z 29 0] I (some (vi r), J) := by
  refine RunsH.of (rv := fun x => some (vi x)) (by decide +kernel) (Nat.le_of_ble_eq_true rfl) hf (fun gr => ?_)
  unfold f_L_why
  refine WQ.loc [0, 1, 2, 3] (lv' := [(0, vr Z 0 0), (1, vi a1), (2, vi a2), (3, vr Z 29 0)]) rfl ?_
  refine wq_aload_n dL_why_0 3 rfl rfl ?_
  refine wq_iconst dL_why_1 ?_
  refine wq_aload_n dL_why_2 0 rfl rfl ?_
  refine wq_iload_n dL_why_3 1 rfl rfl ?_
  refine wq_iload_n dL_why_4 2 rfl rfl ?_
  refine wq_callX (rv := fun x => some (vi x)) M_PR_why (R_PR_why Z a1 a2 _) ob_0 rfl rfl (by decide) (by decide) (Nat.le_of_ble_eq_true rfl) ln_RL_49 dL_why_5 (fun gr1 x3 J2 => ?_) (fun E8 J6 => ?_)
  · refine wq_i2l dL_why_8 ?_
    refine wq_last dL_why_9 (fun J4 => ?_)
    refine wq_goto 17 dL_why_10 (by decide) ?_
    refine wq_iconst dL_why_17 ?_
    exact wq_iret rfl rfl dL_why_18
  · refine HX.here (tgt := 13) ⟨[], (0, 10, 13, 13), [], by decide +kernel, (fun z hz => by cases hz), rfl, rfl, by decide, hx_IA, hc_IA⟩ (fun gr5 q7 => ?_) ?_
    · refine wq_astore (lv' := [(4, .ref q7), (0, vr Z 0 0), (1, vi a1), (2, vi a2), (3, vr Z 29 0)]) dL_why_13 (by decide) rfl ?_
      refine wq_iconst dL_why_15 ?_
      exact wq_iret rfl rfl dL_why_16
    exact HX.none

theorem M_PR_gain : MwV yX12_gain cX12_gain 6 (some .int) 2 := ⟨li_6 142 (by decide +kernel) (by decide +kernel), li_6 140 (by decide +kernel) (by decide +kernel), li_6 141 (by decide +kernel) (by decide +kernel), li_1 1 (by decide +kernel) (by decide +kernel), by decide +kernel⟩
theorem ln_RL_52 : Cond.methodLink RL 52 yX12_gain ∈ lw_good := li_6 139 (by decide +kernel) (by decide +kernel)
noncomputable def f_L_gain (a1 : Int) (a2 : Int) (I : Mem) : Option ((Int) × Mem) :=
bndX (f_PR_gain a1 a2 I) (fun x3 J2 =>
ltI (sI J2 29 0 0 (w32 x3)) fun J4 =>
some (0, J4)) fun E8 J6 =>
if E8 = xIA then
some (1, J6)
else none
set_option maxRecDepth 20000 in
theorem R_L_gain (Z : ZT) (a1 : Int) (a2 : Int) (I : Mem) (r : Int) (J : Mem) (hf : f_L_gain a1 a2 I = some (r, J)) : RunsH Z yL_gain cL_gain 5 (some .int) 7 [vr Z 0 0, vi a1, vi a2, vr Z 29 0] I (some (vi r), J) := by
  refine RunsH.of (rv := fun x => some (vi x)) (by decide +kernel) (Nat.le_of_ble_eq_true rfl) hf (fun gr => ?_)
  unfold f_L_gain
  refine WQ.loc [0, 1, 2, 3] (lv' := [(0, vr Z 0 0), (1, vi a1), (2, vi a2), (3, vr Z 29 0)]) rfl ?_
  refine wq_aload_n dL_gain_0 3 rfl rfl ?_
  refine wq_iconst dL_gain_1 ?_
  refine wq_aload_n dL_gain_2 0 rfl rfl ?_
  refine wq_iload_n dL_gain_3 1 rfl rfl ?_
  refine wq_iload_n dL_gain_4 2 rfl rfl ?_
  refine wq_callX (rv := fun x => some (vi x)) M_PR_gain (R_PR_gain Z a1 a2 _) ob_0 rfl rfl (by decide) (by decide) (Nat.le_of_ble_eq_true rfl) ln_RL_52 dL_gain_5 (fun gr1 x3 J2 => ?_) (fun E8 J6 => ?_)
  · refine wq_i2l dL_gain_8 ?_
    refine wq_last dL_gain_9 (fun J4 => ?_)
    refine wq_goto 17 dL_gain_10 (by decide) ?_
    refine wq_iconst dL_gain_17 ?_
    exact wq_iret rfl rfl dL_gain_18
  · refine HX.here (tgt := 13) ⟨[], (0, 10, 13, 13), [], by decide +kernel, (fun z hz => by cases hz), rfl, rfl, by decide, hx_IA, hc_IA⟩ (fun gr5 q7 => ?_) ?_
    · refine wq_astore (lv' := [(4, .ref q7), (0, vr Z 0 0), (1, vi a1), (2, vi a2), (3, vr Z 29 0)]) dL_gain_13 (by decide) rfl ?_
      refine wq_iconst dL_gain_15 ?_
      exact wq_iret rfl rfl dL_gain_16
    exact HX.none

theorem M_PR_expand : MwV yX12_expand cX12_expand 2 (some .int) 1 := ⟨li_6 170 (by decide +kernel) (by decide +kernel), li_6 168 (by decide +kernel) (by decide +kernel), li_6 169 (by decide +kernel) (by decide +kernel), li_1 1 (by decide +kernel) (by decide +kernel), by decide +kernel⟩
theorem ln_RL_64 : Cond.methodLink RL 64 yX12_expand ∈ lw_good := li_6 167 (by decide +kernel) (by decide +kernel)
noncomputable def f_L_expand (a1 : Int) (I : Mem) : Option ((Int) × Mem) :=
bndX (f_PR_expand a1 I) (fun x3 J2 =>
ltI (sI J2 29 0 0 (w32 x3)) fun J4 =>
some (0, J4)) fun E8 J6 =>
if E8 = xIO then
some (1, J6)
else none
set_option maxRecDepth 20000 in
theorem R_L_expand (Z : ZT) (a1 : Int) (I : Mem) (r : Int) (J : Mem) (hf : f_L_expand a1 I = some (r, J)) : RunsH Z yL_expand cL_expand 4 (some .int) 7 [vr Z 0 0, vi a1, vr Z 29 0] I (some (vi r), J) := by
  refine RunsH.of (rv := fun x => some (vi x)) (by decide +kernel) (Nat.le_of_ble_eq_true rfl) hf (fun gr => ?_)
  unfold f_L_expand
  refine WQ.loc [0, 1, 2] (lv' := [(0, vr Z 0 0), (1, vi a1), (2, vr Z 29 0)]) rfl ?_
  refine wq_aload_n dL_expand_0 2 rfl rfl ?_
  refine wq_iconst dL_expand_1 ?_
  refine wq_aload_n dL_expand_2 0 rfl rfl ?_
  refine wq_iload_n dL_expand_3 1 rfl rfl ?_
  refine wq_callX (rv := fun x => some (vi x)) M_PR_expand (R_PR_expand Z a1 _) ob_0 rfl rfl (by decide) (by decide) (Nat.le_of_ble_eq_true rfl) ln_RL_64 dL_expand_4 (fun gr1 x3 J2 => ?_) (fun E8 J6 => ?_)
  · refine wq_i2l dL_expand_7 ?_
    refine wq_last dL_expand_8 (fun J4 => ?_)
    refine wq_goto 15 dL_expand_9 (by decide) ?_
    refine wq_iconst dL_expand_15 ?_
    exact wq_iret rfl rfl dL_expand_16
  · refine HX.here (tgt := 12) ⟨[], (0, 9, 12, 19), [], by decide +kernel, (fun z hz => by cases hz), rfl, rfl, by decide, hx_IO, hc_IO⟩ (fun gr5 q7 => ?_) ?_
    · refine wq_astore_n (lv' := [(3, .ref q7), (0, vr Z 0 0), (1, vi a1), (2, vr Z 29 0)]) dL_expand_12 rfl (by decide) rfl ?_
      refine wq_iconst dL_expand_13 ?_
      exact wq_iret rfl rfl dL_expand_14
    exact HX.none

theorem M_PR_append : MwV yX12_append cX12_append 2 (some .int) 1 := ⟨li_6 177 (by decide +kernel) (by decide +kernel), li_6 175 (by decide +kernel) (by decide +kernel), li_6 176 (by decide +kernel) (by decide +kernel), li_1 1 (by decide +kernel) (by decide +kernel), by decide +kernel⟩
theorem ln_RL_67 : Cond.methodLink RL 67 yX12_append ∈ lw_good := li_6 174 (by decide +kernel) (by decide +kernel)
noncomputable def f_L_append (a1 : Int) (I : Mem) : Option ((Int) × Mem) :=
bndX (f_PR_append a1 I) (fun x3 J2 =>
ltI (sI J2 29 0 0 (w32 x3)) fun J4 =>
some (0, J4)) fun E8 J6 =>
if E8 = xIA then
some (1, J6)
else none
set_option maxRecDepth 20000 in
theorem R_L_append (Z : ZT) (a1 : Int) (I : Mem) (r : Int) (J : Mem) (hf : f_L_append a1 I = some (r, J)) : RunsH Z yL_append cL_append 4 (some .int) 7 [vr Z 0 0, vi a1, vr Z 29 0] I (some (vi r), J) := by
  refine RunsH.of (rv := fun x => some (vi x)) (by decide +kernel) (Nat.le_of_ble_eq_true rfl) hf (fun gr => ?_)
  unfold f_L_append
  refine WQ.loc [0, 1, 2] (lv' := [(0, vr Z 0 0), (1, vi a1), (2, vr Z 29 0)]) rfl ?_
  refine wq_aload_n dL_append_0 2 rfl rfl ?_
  refine wq_iconst dL_append_1 ?_
  refine wq_aload_n dL_append_2 0 rfl rfl ?_
  refine wq_iload_n dL_append_3 1 rfl rfl ?_
  refine wq_callX (rv := fun x => some (vi x)) M_PR_append (R_PR_append Z a1 _) ob_0 rfl rfl (by decide) (by decide) (Nat.le_of_ble_eq_true rfl) ln_RL_67 dL_append_4 (fun gr1 x3 J2 => ?_) (fun E8 J6 => ?_)
  · refine wq_i2l dL_append_7 ?_
    refine wq_last dL_append_8 (fun J4 => ?_)
    refine wq_goto 15 dL_append_9 (by decide) ?_
    refine wq_iconst dL_append_15 ?_
    exact wq_iret rfl rfl dL_append_16
  · refine HX.here (tgt := 12) ⟨[], (0, 9, 12, 13), [], by decide +kernel, (fun z hz => by cases hz), rfl, rfl, by decide, hx_IA, hc_IA⟩ (fun gr5 q7 => ?_) ?_
    · refine wq_astore_n (lv' := [(3, .ref q7), (0, vr Z 0 0), (1, vi a1), (2, vr Z 29 0)]) dL_append_12 rfl (by decide) rfl ?_
      refine wq_iconst dL_append_13 ?_
      exact wq_iret rfl rfl dL_append_14
    exact HX.none

theorem M_PR_cut : MwV yX12_cut cX12_cut 2 (some .int) 1 := ⟨li_6 184 (by decide +kernel) (by decide +kernel), li_6 182 (by decide +kernel) (by decide +kernel), li_6 183 (by decide +kernel) (by decide +kernel), li_1 1 (by decide +kernel) (by decide +kernel), by decide +kernel⟩
theorem ln_RL_70 : Cond.methodLink RL 70 yX12_cut ∈ lw_good := li_6 181 (by decide +kernel) (by decide +kernel)
noncomputable def f_L_cut (a1 : Int) (I : Mem) : Option ((Int) × Mem) :=
bndX (f_PR_cut a1 I) (fun x3 J2 =>
ltI (sI J2 29 0 0 (w32 x3)) fun J4 =>
some (0, J4)) fun E8 J6 =>
if E8 = xIA then
some (1, J6)
else none
set_option maxRecDepth 20000 in
theorem R_L_cut (Z : ZT) (a1 : Int) (I : Mem) (r : Int) (J : Mem) (hf : f_L_cut a1 I = some (r, J)) : RunsH Z yL_cut cL_cut 4 (some .int) 7 [vr Z 0 0, vi a1, vr Z 29 0] I (some (vi r), J) := by
  refine RunsH.of (rv := fun x => some (vi x)) (by decide +kernel) (Nat.le_of_ble_eq_true rfl) hf (fun gr => ?_)
  unfold f_L_cut
  refine WQ.loc [0, 1, 2] (lv' := [(0, vr Z 0 0), (1, vi a1), (2, vr Z 29 0)]) rfl ?_
  refine wq_aload_n dL_cut_0 2 rfl rfl ?_
  refine wq_iconst dL_cut_1 ?_
  refine wq_aload_n dL_cut_2 0 rfl rfl ?_
  refine wq_iload_n dL_cut_3 1 rfl rfl ?_
  refine wq_callX (rv := fun x => some (vi x)) M_PR_cut (R_PR_cut Z a1 _) ob_0 rfl rfl (by decide) (by decide) (Nat.le_of_ble_eq_true rfl) ln_RL_70 dL_cut_4 (fun gr1 x3 J2 => ?_) (fun E8 J6 => ?_)
  · refine wq_i2l dL_cut_7 ?_
    refine wq_last dL_cut_8 (fun J4 => ?_)
    refine wq_goto 15 dL_cut_9 (by decide) ?_
    refine wq_iconst dL_cut_15 ?_
    exact wq_iret rfl rfl dL_cut_16
  · refine HX.here (tgt := 12) ⟨[], (0, 9, 12, 13), [], by decide +kernel, (fun z hz => by cases hz), rfl, rfl, by decide, hx_IA, hc_IA⟩ (fun gr5 q7 => ?_) ?_
    · refine wq_astore_n (lv' := [(3, .ref q7), (0, vr Z 0 0), (1, vi a1), (2, vr Z 29 0)]) dL_cut_12 rfl (by decide) rfl ?_
      refine wq_iconst dL_cut_13 ?_
      exact wq_iret rfl rfl dL_cut_14
    exact HX.none

theorem M_PR_set : MwV yX12_set cX12_set 4 (some .int) 2 := ⟨li_6 191 (by decide +kernel) (by decide +kernel), li_6 189 (by decide +kernel) (by decide +kernel), li_6 190 (by decide +kernel) (by decide +kernel), li_1 1 (by decide +kernel) (by decide +kernel), by decide +kernel⟩
theorem ln_RL_73 : Cond.methodLink RL 73 yX12_set ∈ lw_good := li_6 188 (by decide +kernel) (by decide +kernel)
noncomputable def f_L_set (a1 : Int) (a2 : Int) (I : Mem) : Option ((Int) × Mem) :=
bndX (f_PR_set a1 a2 I) (fun x3 J2 =>
ltI (sI J2 29 0 0 (w32 x3)) fun J4 =>
some (0, J4)) fun E8 J6 =>
if E8 = xIA then
some (1, J6)
else none
set_option maxRecDepth 20000 in
theorem R_L_set (Z : ZT) (a1 : Int) (a2 : Int) (I : Mem) (r : Int) (J : Mem) (hf : f_L_set a1 a2 I = some (r, J)) : RunsH Z yL_set cL_set 5 (some .int) 7 [vr Z 0 0, vi a1, vi a2, vr Z 29 0] I (some (vi r), J) := by
  refine RunsH.of (rv := fun x => some (vi x)) (by decide +kernel) (Nat.le_of_ble_eq_true rfl) hf (fun gr => ?_)
  unfold f_L_set
  refine WQ.loc [0, 1, 2, 3] (lv' := [(0, vr Z 0 0), (1, vi a1), (2, vi a2), (3, vr Z 29 0)]) rfl ?_
  refine wq_aload_n dL_set_0 3 rfl rfl ?_
  refine wq_iconst dL_set_1 ?_
  refine wq_aload_n dL_set_2 0 rfl rfl ?_
  refine wq_iload_n dL_set_3 1 rfl rfl ?_
  refine wq_iload_n dL_set_4 2 rfl rfl ?_
  refine wq_callX (rv := fun x => some (vi x)) M_PR_set (R_PR_set Z a1 a2 _) ob_0 rfl rfl (by decide) (by decide) (Nat.le_of_ble_eq_true rfl) ln_RL_73 dL_set_5 (fun gr1 x3 J2 => ?_) (fun E8 J6 => ?_)
  · refine wq_i2l dL_set_8 ?_
    refine wq_last dL_set_9 (fun J4 => ?_)
    refine wq_goto 17 dL_set_10 (by decide) ?_
    refine wq_iconst dL_set_17 ?_
    exact wq_iret rfl rfl dL_set_18
  · refine HX.here (tgt := 13) ⟨[], (0, 10, 13, 13), [], by decide +kernel, (fun z hz => by cases hz), rfl, rfl, by decide, hx_IA, hc_IA⟩ (fun gr5 q7 => ?_) ?_
    · refine wq_astore (lv' := [(4, .ref q7), (0, vr Z 0 0), (1, vi a1), (2, vi a2), (3, vr Z 29 0)]) dL_set_13 (by decide) rfl ?_
      refine wq_iconst dL_set_15 ?_
      exact wq_iret rfl rfl dL_set_16
    exact HX.none

theorem M_PR_undo : MwV yX12_undo cX12_undo 1 (some .int) 0 := ⟨li_6 199 (by decide +kernel) (by decide +kernel), li_6 197 (by decide +kernel) (by decide +kernel), li_6 198 (by decide +kernel) (by decide +kernel), li_1 1 (by decide +kernel) (by decide +kernel), by decide +kernel⟩
theorem ln_RL_76 : Cond.methodLink RL 76 yX12_undo ∈ lw_good := li_6 196 (by decide +kernel) (by decide +kernel)
noncomputable def f_L_undo  (I : Mem) : Option ((Int) × Mem) :=
bndX (f_PR_undo  I) (fun x3 J2 =>
ltI (sI J2 29 0 0 (w32 x3)) fun J4 =>
some (0, J4)) fun E8 J6 =>
if E8 = xNS then
some (1, J6)
else none
set_option maxRecDepth 20000 in
theorem R_L_undo (Z : ZT)  (I : Mem) (r : Int) (J : Mem) (hf : f_L_undo I = some (r, J)) : RunsH Z yL_undo cL_undo 3 (some .int) 7 [vr Z 0 0, vr Z 29 0] I (some (vi r), J) := by
  refine RunsH.of (rv := fun x => some (vi x)) (by decide +kernel) (Nat.le_of_ble_eq_true rfl) hf (fun gr => ?_)
  unfold f_L_undo
  refine WQ.loc [0, 1] (lv' := [(0, vr Z 0 0), (1, vr Z 29 0)]) rfl ?_
  refine wq_aload_n dL_undo_0 1 rfl rfl ?_
  refine wq_iconst dL_undo_1 ?_
  refine wq_aload_n dL_undo_2 0 rfl rfl ?_
  refine wq_callX (rv := fun x => some (vi x)) M_PR_undo (R_PR_undo Z _) ob_0 rfl rfl (by decide) (by decide) (Nat.le_of_ble_eq_true rfl) ln_RL_76 dL_undo_3 (fun gr1 x3 J2 => ?_) (fun E8 J6 => ?_)
  · refine wq_i2l dL_undo_6 ?_
    refine wq_last dL_undo_7 (fun J4 => ?_)
    refine wq_goto 14 dL_undo_8 (by decide) ?_
    refine wq_iconst dL_undo_14 ?_
    exact wq_iret rfl rfl dL_undo_15
  · refine HX.here (tgt := 11) ⟨[], (0, 8, 11, 80), [], by decide +kernel, (fun z hz => by cases hz), rfl, rfl, by decide, hx_NS, hc_NS⟩ (fun gr5 q7 => ?_) ?_
    · refine wq_astore_n (lv' := [(2, .ref q7), (0, vr Z 0 0), (1, vr Z 29 0)]) dL_undo_11 rfl (by decide) rfl ?_
      refine wq_iconst dL_undo_12 ?_
      exact wq_iret rfl rfl dL_undo_13
    exact HX.none

theorem M_PR_save : MwV yX12_save cX12_save 2 (some .int) 1 := ⟨li_6 225 (by decide +kernel) (by decide +kernel), li_6 223 (by decide +kernel) (by decide +kernel), li_6 224 (by decide +kernel) (by decide +kernel), li_1 1 (by decide +kernel) (by decide +kernel), by decide +kernel⟩
theorem ln_RL_82 : Cond.methodLink RL 82 yX12_save ∈ lw_good := li_6 222 (by decide +kernel) (by decide +kernel)
noncomputable def f_L_save (a1 : Int) (I : Mem) : Option ((Int) × Mem) :=
bndX (f_PR_save a1 I) (fun x3 J2 =>
ltI (sI J2 29 0 0 (w32 x3)) fun J4 =>
some (0, J4)) fun E8 J6 =>
if E8 = xIA then
some (1, J6)
else none
set_option maxRecDepth 20000 in
theorem R_L_save (Z : ZT) (a1 : Int) (I : Mem) (r : Int) (J : Mem) (hf : f_L_save a1 I = some (r, J)) : RunsH Z yL_save cL_save 4 (some .int) 7 [vr Z 0 0, vi a1, vr Z 29 0] I (some (vi r), J) := by
  refine RunsH.of (rv := fun x => some (vi x)) (by decide +kernel) (Nat.le_of_ble_eq_true rfl) hf (fun gr => ?_)
  unfold f_L_save
  refine WQ.loc [0, 1, 2] (lv' := [(0, vr Z 0 0), (1, vi a1), (2, vr Z 29 0)]) rfl ?_
  refine wq_aload_n dL_save_0 2 rfl rfl ?_
  refine wq_iconst dL_save_1 ?_
  refine wq_aload_n dL_save_2 0 rfl rfl ?_
  refine wq_iload_n dL_save_3 1 rfl rfl ?_
  refine wq_callX (rv := fun x => some (vi x)) M_PR_save (R_PR_save Z a1 _) ob_0 rfl rfl (by decide) (by decide) (Nat.le_of_ble_eq_true rfl) ln_RL_82 dL_save_4 (fun gr1 x3 J2 => ?_) (fun E8 J6 => ?_)
  · refine wq_i2l dL_save_7 ?_
    refine wq_last dL_save_8 (fun J4 => ?_)
    refine wq_goto 15 dL_save_9 (by decide) ?_
    refine wq_iconst dL_save_15 ?_
    exact wq_iret rfl rfl dL_save_16
  · refine HX.here (tgt := 12) ⟨[], (0, 9, 12, 13), [], by decide +kernel, (fun z hz => by cases hz), rfl, rfl, by decide, hx_IA, hc_IA⟩ (fun gr5 q7 => ?_) ?_
    · refine wq_astore_n (lv' := [(3, .ref q7), (0, vr Z 0 0), (1, vi a1), (2, vr Z 29 0)]) dL_save_12 rfl (by decide) rfl ?_
      refine wq_iconst dL_save_13 ?_
      exact wq_iret rfl rfl dL_save_14
    exact HX.none

theorem M_PR_restore : MwV yX12_restore cX12_restore 2 (some .int) 1 := ⟨li_6 236 (by decide +kernel) (by decide +kernel), li_6 234 (by decide +kernel) (by decide +kernel), li_6 235 (by decide +kernel) (by decide +kernel), li_1 1 (by decide +kernel) (by decide +kernel), by decide +kernel⟩
theorem ln_RL_85 : Cond.methodLink RL 85 yX12_restore ∈ lw_good := li_6 233 (by decide +kernel) (by decide +kernel)
noncomputable def f_L_restore (a1 : Int) (I : Mem) : Option ((Int) × Mem) :=
bndX (f_PR_restore a1 I) (fun x3 J2 =>
ltI (sI J2 29 0 0 (w32 x3)) fun J4 =>
some (0, J4)) fun E8 J6 =>
if E8 = xIA then
some (1, J6)
else if E8 = xNS then
some (2, J6)
else none
set_option maxRecDepth 20000 in
theorem R_L_restore (Z : ZT) (a1 : Int) (I : Mem) (r : Int) (J : Mem) (hf : f_L_restore a1 I = some (r, J)) : RunsH Z yL_restore cL_restore 4 (some .int) 7 [vr Z 0 0, vi a1, vr Z 29 0] I (some (vi r), J) := by
  refine RunsH.of (rv := fun x => some (vi x)) (by decide +kernel) (Nat.le_of_ble_eq_true rfl) hf (fun gr => ?_)
  unfold f_L_restore
  refine WQ.loc [0, 1, 2] (lv' := [(0, vr Z 0 0), (1, vi a1), (2, vr Z 29 0)]) rfl ?_
  refine wq_aload_n dL_restore_0 2 rfl rfl ?_
  refine wq_iconst dL_restore_1 ?_
  refine wq_aload_n dL_restore_2 0 rfl rfl ?_
  refine wq_iload_n dL_restore_3 1 rfl rfl ?_
  refine wq_callX (rv := fun x => some (vi x)) M_PR_restore (R_PR_restore Z a1 _) ob_0 rfl rfl (by decide) (by decide) (Nat.le_of_ble_eq_true rfl) ln_RL_85 dL_restore_4 (fun gr1 x3 J2 => ?_) (fun E8 J6 => ?_)
  · refine wq_i2l dL_restore_7 ?_
    refine wq_last dL_restore_8 (fun J4 => ?_)
    refine wq_goto 18 dL_restore_9 (by decide) ?_
    refine wq_iconst dL_restore_18 ?_
    exact wq_iret rfl rfl dL_restore_19
  · refine HX.here (tgt := 12) ⟨[], (0, 9, 12, 13), [(0, 9, 15, 80)], by decide +kernel, (fun z hz => by cases hz), rfl, rfl, by decide, hx_IA, hc_IA⟩ (fun gr5 q7 => ?_) ?_
    · refine wq_astore_n (lv' := [(3, .ref q7), (0, vr Z 0 0), (1, vi a1), (2, vr Z 29 0)]) dL_restore_12 rfl (by decide) rfl ?_
      refine wq_iconst dL_restore_13 ?_
      exact wq_iret rfl rfl dL_restore_14
    refine HX.here (tgt := 15) ⟨[(0, 9, 12, 13)], (0, 9, 15, 80), [], by decide +kernel, (fun z hz => by cases List.mem_singleton.mp hz; exact ⟨by decide, _, hx_IA, by decide +kernel⟩), rfl, rfl, by decide, hx_NS, hc_NS⟩ (fun gr5 q7 => ?_) ?_
    · refine wq_astore_n (lv' := [(3, .ref q7), (0, vr Z 0 0), (1, vi a1), (2, vr Z 29 0)]) dL_restore_15 rfl (by decide) rfl ?_
      refine wq_iconst dL_restore_16 ?_
      exact wq_iret rfl rfl dL_restore_17
    exact HX.none

theorem M_PR_sizeIn : MwV yX12_sizeIn cX12_sizeIn 2 (some .int) 1 := ⟨li_6 149 (by decide +kernel) (by decide +kernel), li_6 147 (by decide +kernel) (by decide +kernel), li_6 148 (by decide +kernel) (by decide +kernel), li_1 1 (by decide +kernel) (by decide +kernel), by decide +kernel⟩
theorem ln_RL_55 : Cond.methodLink RL 55 yX12_sizeIn ∈ lw_good := li_6 146 (by decide +kernel) (by decide +kernel)
noncomputable def f_L_sizeIn (a1 : Int) (I : Mem) : Option ((Int) × Mem) :=
bndX (f_PR_sizeIn a1 I) (fun x3 J2 =>
ltI (sI J2 29 0 0 (w32 x3)) fun J4 =>
some (0, J4)) fun E8 J6 =>
if E8 = xIA then
some (1, J6)
else none
set_option maxRecDepth 20000 in
theorem R_L_sizeIn (Z : ZT) (a1 : Int) (I : Mem) (r : Int) (J : Mem) (hf : f_L_sizeIn a1 I = some (r, J)) : RunsH Z yL_sizeIn cL_sizeIn 4 (some .int) 7 [vr Z 0 0, vi a1, vr Z 29 0] I (some (vi r), J) := by
  refine RunsH.of (rv := fun x => some (vi x)) (by decide +kernel) (Nat.le_of_ble_eq_true rfl) hf (fun gr => ?_)
  unfold f_L_sizeIn
  refine WQ.loc [0, 1, 2] (lv' := [(0, vr Z 0 0), (1, vi a1), (2, vr Z 29 0)]) rfl ?_
  refine wq_aload_n dL_sizeIn_0 2 rfl rfl ?_
  refine wq_iconst dL_sizeIn_1 ?_
  refine wq_aload_n dL_sizeIn_2 0 rfl rfl ?_
  refine wq_iload_n dL_sizeIn_3 1 rfl rfl ?_
  refine wq_callX (rv := fun x => some (vi x)) M_PR_sizeIn (R_PR_sizeIn Z a1 _) ob_0 rfl rfl (by decide) (by decide) (Nat.le_of_ble_eq_true rfl) ln_RL_55 dL_sizeIn_4 (fun gr1 x3 J2 => ?_) (fun E8 J6 => ?_)
  · refine wq_i2l dL_sizeIn_7 ?_
    refine wq_last dL_sizeIn_8 (fun J4 => ?_)
    refine wq_goto 15 dL_sizeIn_9 (by decide) ?_
    refine wq_iconst dL_sizeIn_15 ?_
    exact wq_iret rfl rfl dL_sizeIn_16
  · refine HX.here (tgt := 12) ⟨[], (0, 9, 12, 13), [], by decide +kernel, (fun z hz => by cases hz), rfl, rfl, by decide, hx_IA, hc_IA⟩ (fun gr5 q7 => ?_) ?_
    · refine wq_astore_n (lv' := [(3, .ref q7), (0, vr Z 0 0), (1, vi a1), (2, vr Z 29 0)]) dL_sizeIn_12 rfl (by decide) rfl ?_
      refine wq_iconst dL_sizeIn_13 ?_
      exact wq_iret rfl rfl dL_sizeIn_14
    exact HX.none

theorem M_PR_step : MwV yX12_step cX12_step 2 (some .int) 1 := ⟨li_6 156 (by decide +kernel) (by decide +kernel), li_6 154 (by decide +kernel) (by decide +kernel), li_6 155 (by decide +kernel) (by decide +kernel), li_1 1 (by decide +kernel) (by decide +kernel), by decide +kernel⟩
theorem ln_RL_58 : Cond.methodLink RL 58 yX12_step ∈ lw_good := li_6 153 (by decide +kernel) (by decide +kernel)
noncomputable def f_L_step (a1 : Int) (I : Mem) : Option ((Int) × Mem) :=
bndX (f_PR_step a1 I) (fun x3 J2 =>
ltI (sI J2 29 0 0 (w32 x3)) fun J4 =>
some (0, J4)) fun E8 J6 =>
if E8 = xIA then
some (1, J6)
else none
set_option maxRecDepth 20000 in
theorem R_L_step (Z : ZT) (a1 : Int) (I : Mem) (r : Int) (J : Mem) (hf : f_L_step a1 I = some (r, J)) : RunsH Z yL_step cL_step 4 (some .int) 7 [vr Z 0 0, vi a1, vr Z 29 0] I (some (vi r), J) := by
  refine RunsH.of (rv := fun x => some (vi x)) (by decide +kernel) (Nat.le_of_ble_eq_true rfl) hf (fun gr => ?_)
  unfold f_L_step
  refine WQ.loc [0, 1, 2] (lv' := [(0, vr Z 0 0), (1, vi a1), (2, vr Z 29 0)]) rfl ?_
  refine wq_aload_n dL_step_0 2 rfl rfl ?_
  refine wq_iconst dL_step_1 ?_
  refine wq_aload_n dL_step_2 0 rfl rfl ?_
  refine wq_iload_n dL_step_3 1 rfl rfl ?_
  refine wq_callX (rv := fun x => some (vi x)) M_PR_step (R_PR_step Z a1 _) ob_0 rfl rfl (by decide) (by decide) (Nat.le_of_ble_eq_true rfl) ln_RL_58 dL_step_4 (fun gr1 x3 J2 => ?_) (fun E8 J6 => ?_)
  · refine wq_i2l dL_step_7 ?_
    refine wq_last dL_step_8 (fun J4 => ?_)
    refine wq_goto 15 dL_step_9 (by decide) ?_
    refine wq_iconst dL_step_15 ?_
    exact wq_iret rfl rfl dL_step_16
  · refine HX.here (tgt := 12) ⟨[], (0, 9, 12, 13), [], by decide +kernel, (fun z hz => by cases hz), rfl, rfl, by decide, hx_IA, hc_IA⟩ (fun gr5 q7 => ?_) ?_
    · refine wq_astore_n (lv' := [(3, .ref q7), (0, vr Z 0 0), (1, vi a1), (2, vr Z 29 0)]) dL_step_12 rfl (by decide) rfl ?_
      refine wq_iconst dL_step_13 ?_
      exact wq_iret rfl rfl dL_step_14
    exact HX.none

theorem M_PR_make : MwV yX12_make cX12_make 4 (some .int) 2 := ⟨li_6 163 (by decide +kernel) (by decide +kernel), li_6 161 (by decide +kernel) (by decide +kernel), li_6 162 (by decide +kernel) (by decide +kernel), li_1 1 (by decide +kernel) (by decide +kernel), by decide +kernel⟩
theorem ln_RL_61 : Cond.methodLink RL 61 yX12_make ∈ lw_good := li_6 160 (by decide +kernel) (by decide +kernel)
noncomputable def f_L_make (a1 : Int) (a2 : Int) (I : Mem) : Option ((Int) × Mem) :=
bndX (f_PR_make a1 a2 I) (fun x3 J2 =>
ltI (sI J2 29 0 0 (w32 x3)) fun J4 =>
some (0, J4)) fun E8 J6 =>
if E8 = xIA then
some (1, J6)
else none
set_option maxRecDepth 20000 in
theorem R_L_make (Z : ZT) (a1 : Int) (a2 : Int) (I : Mem) (r : Int) (J : Mem) (hf : f_L_make a1 a2 I = some (r, J)) : RunsH Z yL_make cL_make 5 (some .int) 7 [vr Z 0 0, vi a1, vi a2, vr Z 29 0] I (some (vi r), J) := by
  refine RunsH.of (rv := fun x => some (vi x)) (by decide +kernel) (Nat.le_of_ble_eq_true rfl) hf (fun gr => ?_)
  unfold f_L_make
  refine WQ.loc [0, 1, 2, 3] (lv' := [(0, vr Z 0 0), (1, vi a1), (2, vi a2), (3, vr Z 29 0)]) rfl ?_
  refine wq_aload_n dL_make_0 3 rfl rfl ?_
  refine wq_iconst dL_make_1 ?_
  refine wq_aload_n dL_make_2 0 rfl rfl ?_
  refine wq_iload_n dL_make_3 1 rfl rfl ?_
  refine wq_iload_n dL_make_4 2 rfl rfl ?_
  refine wq_callX (rv := fun x => some (vi x)) M_PR_make (R_PR_make Z a1 a2 _) ob_0 rfl rfl (by decide) (by decide) (Nat.le_of_ble_eq_true rfl) ln_RL_61 dL_make_5 (fun gr1 x3 J2 => ?_) (fun E8 J6 => ?_)
  · refine wq_i2l dL_make_8 ?_
    refine wq_last dL_make_9 (fun J4 => ?_)
    refine wq_goto 17 dL_make_10 (by decide) ?_
    refine wq_iconst dL_make_17 ?_
    exact wq_iret rfl rfl dL_make_18
  · refine HX.here (tgt := 13) ⟨[], (0, 10, 13, 13), [], by decide +kernel, (fun z hz => by cases hz), rfl, rfl, by decide, hx_IA, hc_IA⟩ (fun gr5 q7 => ?_) ?_
    · refine wq_astore (lv' := [(4, .ref q7), (0, vr Z 0 0), (1, vi a1), (2, vi a2), (3, vr Z 29 0)]) dL_make_13 (by decide) rfl ?_
      refine wq_iconst dL_make_15 ?_
      exact wq_iret rfl rfl dL_make_16
    exact HX.none
