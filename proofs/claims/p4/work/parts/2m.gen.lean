noncomputable def f_M_cutNow_w19 (v1 : Int) (s : Int) (I : Mem) : Option (((Int) ⊕ (Unit)) × Mem) :=
if 0 < (w32 s) then
bnd (f_M_many 0 I) fun x7 J6 =>
bnd (f_M_at 0 (x7 - 1) J6) fun x10 J9 =>
if 0 ≤ (w32 x10) ∧ (w32 x10) < 66 then
if (w32 s) < (w32 (J9 27 5 (w32 x10).toNat)) then
bnd (f_M_opens 0 (x7 - 1) (x10 - 26) J9) fun _ J13 =>
bnd (f_M_counts 8 1 J13) fun _ J16 =>
some (.inl s, J16)
else
ltI (sI J9 27 0 16 ((J9 27 0 16) - 1)) fun J20 =>
some (.inl (s - (J9 27 5 (w32 x10).toNat)), J20)
else none
else
some (.inr (), I)

noncomputable def f_M_cutNow (a1 : Int) (I : Mem) : Option ((Int) × Mem) :=
if (w32 a1) < (w32 (I 27 0 3)) then
bnd (f_M_laysLengths I) fun _ J3 =>
bnd (whl (f_M_cutNow_w19 a1) a1 J3) fun r48 J49 =>
ltI (sI J49 27 0 3 ((J49 27 0 3) - a1)) fun J53 =>
bnd (f_M_counts 7 a1 J53) fun _ J55 =>
bnd (f_M_many 0 J55) fun x59 J58 =>
some (x59, J58)
else
some ((-6), I)
set_option maxRecDepth 20000 in
theorem R_M_cutNow (Z : ZT) (a1 : Int) (I : Mem) (r : Int) (J : Mem) (hf : f_M_cutNow a1 I = some (r, J)) : Runs Z yX13_cutNow cX13_cutNow 5 (some .int) 4 [vr Z 26 0, vi a1] I (some (vi r), J) := by
  refine Runs.of (rv := fun x => some (vi x)) (by decide +kernel) (Nat.le_of_ble_eq_true rfl) hf (fun gr => ?_)
  unfold f_M_cutNow
  refine WQ.loc [0, 1] (lv' := [(0, vr Z 26 0), (1, vi a1)]) rfl ?_
  refine wq_iload_n dX13_cutNow_0 1 rfl rfl ?_
  refine wq_aload_n dX13_cutNow_1 0 rfl rfl ?_
  refine g_26_0 ln_RX13_9 dX13_cutNow_2 ?_
  refine wq_iconst dX13_cutNow_5 ?_
  refine wq_iald (k := 27) (i := 0) rfl (by decide) rfl rfl (m := 16860) (by decide) (Nat.le_of_ble_eq_true rfl) dX13_cutNow_6 ?_
  refine wq_icmp_lt 13 dX13_cutNow_7 (by decide) rfl rfl (fun c60 => ?_) (fun c60 => ?_)
  · refine wq_aload_n dX13_cutNow_13 0 rfl rfl ?_
    refine wq_cVv M_M_laysLengths (R_M_laysLengths Z _) ob_26 rfl rfl (by decide) (by decide) (Nat.le_of_ble_eq_true rfl) ln_RX13_137 dX13_cutNow_14 (fun gr2 _ J3 => ?_)
    refine wq_iload_n dX13_cutNow_17 1 rfl rfl ?_
    refine wq_istore_n (lv' := [(2, vi a1), (0, vr Z 26 0), (1, vi a1)]) dX13_cutNow_18 rfl (by decide) rfl ?_
    refine WQ.loc [1, 2, 0] (lv' := [(0, vr Z 26 0), (1, vi a1), (2, vi a1)]) rfl ?_
    refine wq_loopS (fun s29 => [(0, vr Z 26 0), (1, vi a1), (2, vi s29)]) 95 (fun _ => [(0, vr Z 26 0), (1, vi a1)]) (fun κ23 bk24 ex25 gr28 s29 J27 => ?_) (fun gr50 r48 J49 => ?_) gr2 _ rfl
    · unfold f_M_cutNow_w19
      refine wq_iload_n dX13_cutNow_19 2 rfl rfl ?_
      refine wq_if_le 95 dX13_cutNow_20 (by decide) rfl (fun c47 => ?_) (fun c47 => ?_)
      · refine wq_aload_n dX13_cutNow_23 0 rfl rfl ?_
        refine wq_iconst dX13_cutNow_24 ?_
        refine wq_cVi M_M_many (R_M_many Z 0 _) ob_26 rfl rfl (by decide) (by decide) (Nat.le_of_ble_eq_true rfl) ln_RX13_103 dX13_cutNow_25 (fun gr30 x32 J31 => ?_)
        refine wq_iconst dX13_cutNow_28 ?_
        refine wq_isub dX13_cutNow_29 ?_
        refine wq_istore_n (lv' := [(3, vi (x32 - 1)), (0, vr Z 26 0), (1, vi a1), (2, vi s29)]) dX13_cutNow_30 rfl (by decide) rfl ?_
        refine wq_aload_n dX13_cutNow_31 1 rfl rfl ?_
        refine wq_iconst dX13_cutNow_32 ?_
        refine wq_iload_n dX13_cutNow_33 0 rfl rfl ?_
        refine wq_cVi M_M_at (R_M_at Z 0 (x32 - 1) _) ob_26 rfl rfl (by decide) (by decide) (Nat.le_of_ble_eq_true rfl) ln_RX13_119 dX13_cutNow_34 (fun gr33 x35 J34 => ?_)
        refine wq_istore (lv' := [(4, vi x35), (3, vi (x32 - 1)), (0, vr Z 26 0), (1, vi a1), (2, vi s29)]) dX13_cutNow_37 (by decide) rfl ?_
        refine wq_aload_n dX13_cutNow_39 2 rfl rfl ?_
        refine g_26_8 ln_RX13_31 dX13_cutNow_40 ?_
        refine wq_iload dX13_cutNow_43 0 rfl ?_
        refine wq_grd (fun g36 => ?_)
        refine wq_iald (k := 27) (i := 5) rfl (by decide) rfl rfl (m := 66) g36 (Nat.le_of_ble_eq_true rfl) dX13_cutNow_45 ?_
        refine wq_iload_n dX13_cutNow_46 4 rfl rfl ?_
        refine wq_icmp_gt 74 dX13_cutNow_47 (by decide) rfl rfl (fun c46 => ?_) (fun c46 => ?_)
        · refine wq_aload_n dX13_cutNow_74 2 rfl rfl ?_
          refine wq_iconst dX13_cutNow_75 ?_
          refine wq_iload_n dX13_cutNow_76 1 rfl rfl ?_
          refine wq_iload dX13_cutNow_77 0 rfl ?_
          refine wq_bipush dX13_cutNow_79 (by decide) ?_
          refine wq_isub dX13_cutNow_81 ?_
          refine wq_cVv M_M_opens (R_M_opens Z 0 (x32 - 1) (x35 - 26) _) ob_26 rfl rfl (by decide) (by decide) (Nat.le_of_ble_eq_true rfl) ln_RX13_183 dX13_cutNow_82 (fun gr37 _ J38 => ?_)
          refine wq_aload_n dX13_cutNow_85 2 rfl rfl ?_
          refine wq_bipush dX13_cutNow_86 (by decide) ?_
          refine wq_iconst dX13_cutNow_88 ?_
          refine wq_cVv M_M_counts (R_M_counts Z 8 1 _) ob_26 rfl rfl (by decide) (by decide) (Nat.le_of_ble_eq_true rfl) ln_RX13_177 dX13_cutNow_89 (fun gr40 _ J41 => ?_)
          refine wq_goto 19 dX13_cutNow_92 (by decide) ?_
          exact WQ.loc [2, 3, 4] rfl (bk24 _ _ _)
        · refine wq_iload_n dX13_cutNow_50 4 rfl rfl ?_
          refine wq_aload_n dX13_cutNow_51 2 rfl rfl ?_
          refine g_26_8 ln_RX13_31 dX13_cutNow_52 ?_
          refine wq_iload dX13_cutNow_55 0 rfl ?_
          refine wq_iald (k := 27) (i := 5) rfl (by decide) rfl rfl (m := 66) g36 (Nat.le_of_ble_eq_true rfl) dX13_cutNow_57 ?_
          refine wq_isub dX13_cutNow_58 ?_
          refine wq_istore_n (lv' := [(2, vi (s29 - (J34 27 5 (w32 x35).toNat))), (4, vi x35), (3, vi (x32 - 1)), (0, vr Z 26 0), (1, vi a1)]) dX13_cutNow_59 rfl (by decide) rfl ?_
          refine wq_aload_n dX13_cutNow_60 3 rfl rfl ?_
          refine g_26_0 ln_RX13_9 dX13_cutNow_61 ?_
          refine wq_bipush dX13_cutNow_64 (by decide) ?_
          refine wq_dup2 dX13_cutNow_66 rfl rfl ?_
          refine wq_iald (k := 27) (i := 0) rfl (by decide) rfl rfl (m := 16860) (by decide) (Nat.le_of_ble_eq_true rfl) dX13_cutNow_67 ?_
          refine wq_iconst dX13_cutNow_68 ?_
          refine wq_isub dX13_cutNow_69 ?_
          refine wq_iast (k := 27) (i := 0) (fun _ _ => rfl) (by decide) rfl rfl (m := 16860) (by decide) (Nat.le_of_ble_eq_true rfl) (by decide) (by decide) (by decide) dX13_cutNow_70 (fun J45 => ?_)
          refine wq_goto 92 dX13_cutNow_71 (by decide) ?_
          refine wq_goto 19 dX13_cutNow_92 (by decide) ?_
          exact WQ.loc [3, 4, 0] rfl (bk24 _ _ _)
      · exact WQ.loc [0, 1] rfl (ex25 _ _ _)
    · refine wq_aload_n dX13_cutNow_95 0 rfl rfl ?_
      refine g_26_0 ln_RX13_9 dX13_cutNow_96 ?_
      refine wq_iconst dX13_cutNow_99 ?_
      refine wq_dup2 dX13_cutNow_100 rfl rfl ?_
      refine wq_iald (k := 27) (i := 0) rfl (by decide) rfl rfl (m := 16860) (by decide) (Nat.le_of_ble_eq_true rfl) dX13_cutNow_101 ?_
      refine wq_iload_n dX13_cutNow_102 1 rfl rfl ?_
      refine wq_isub dX13_cutNow_103 ?_
      refine wq_iast (k := 27) (i := 0) (fun _ _ => rfl) (by decide) rfl rfl (m := 16860) (by decide) (Nat.le_of_ble_eq_true rfl) (by decide) (by decide) (by decide) dX13_cutNow_104 (fun J53 => ?_)
      refine wq_aload_n dX13_cutNow_105 0 rfl rfl ?_
      refine wq_bipush dX13_cutNow_106 (by decide) ?_
      refine wq_iload_n dX13_cutNow_108 1 rfl rfl ?_
      refine wq_cVv M_M_counts (R_M_counts Z 7 a1 _) ob_26 rfl rfl (by decide) (by decide) (Nat.le_of_ble_eq_true rfl) ln_RX13_177 dX13_cutNow_109 (fun gr54 _ J55 => ?_)
      refine wq_aload_n dX13_cutNow_112 0 rfl rfl ?_
      refine wq_iconst dX13_cutNow_113 ?_
      refine wq_cVi M_M_many (R_M_many Z 0 _) ob_26 rfl rfl (by decide) (by decide) (Nat.le_of_ble_eq_true rfl) ln_RX13_103 dX13_cutNow_114 (fun gr57 x59 J58 => ?_)
      exact wq_iret rfl rfl dX13_cutNow_117
  · refine wq_bipush dX13_cutNow_10 (by decide) ?_
    exact wq_iret rfl rfl dX13_cutNow_12

noncomputable def f_M_setNow (a1 : Int) (a2 : Int) (I : Mem) : Option ((Int) × Mem) :=
if 0 ≤ (w32 a1) ∧ (w32 a1) < 16860 then
ltI (sI I 27 0 (w32 a1).toNat a2) fun J2 =>
some ((I 27 0 (w32 a1).toNat), J2)
else none
set_option maxRecDepth 20000 in
theorem R_M_setNow (Z : ZT) (a1 : Int) (a2 : Int) (I : Mem) (r : Int) (J : Mem) (hf : f_M_setNow a1 a2 I = some (r, J)) : Runs Z yX13_setNow cX13_setNow 4 (some .int) 1 [vr Z 26 0, vi a1, vi a2] I (some (vi r), J) := by
  refine Runs.of (rv := fun x => some (vi x)) (by decide +kernel) (Nat.le_of_ble_eq_true rfl) hf (fun gr => ?_)
  unfold f_M_setNow
  refine WQ.loc [0, 1, 2] (lv' := [(0, vr Z 26 0), (1, vi a1), (2, vi a2)]) rfl ?_
  refine wq_aload_n dX13_setNow_0 0 rfl rfl ?_
  refine g_26_0 ln_RX13_9 dX13_setNow_1 ?_
  refine wq_iload_n dX13_setNow_4 1 rfl rfl ?_
  refine wq_grd (fun g1 => ?_)
  refine wq_iald (k := 27) (i := 0) rfl (by decide) rfl rfl (m := 16860) g1 (Nat.le_of_ble_eq_true rfl) dX13_setNow_5 ?_
  refine wq_istore_n (lv' := [(3, vi (I 27 0 (w32 a1).toNat)), (0, vr Z 26 0), (1, vi a1), (2, vi a2)]) dX13_setNow_6 rfl (by decide) rfl ?_
  refine wq_aload_n dX13_setNow_7 1 rfl rfl ?_
  refine g_26_0 ln_RX13_9 dX13_setNow_8 ?_
  refine wq_iload_n dX13_setNow_11 2 rfl rfl ?_
  refine wq_iload_n dX13_setNow_12 3 rfl rfl ?_
  refine wq_iast (k := 27) (i := 0) (fun _ _ => rfl) (by decide) rfl rfl (m := 16860) g1 (Nat.le_of_ble_eq_true rfl) (by decide) (by decide) (by decide) dX13_setNow_13 (fun J2 => ?_)
  refine wq_iload_n dX13_setNow_14 0 rfl rfl ?_
  exact wq_iret rfl rfl dX13_setNow_15

theorem ln_RX13_487 : Cond.constant RX13 487 (Int32.ofInt 118020) ∈ lw_good := li_8 116 (by decide +kernel) (by decide +kernel)
theorem ln_RX13_20 : Cond.fieldLink RX13 20 RX13 "past" "[I" ∈ lw_good := li_7 57 (by decide +kernel) (by decide +kernel)
noncomputable def f_M_remembers_w11 (v1 : Nat) (s : Int) (I : Mem) : Option (((Int) ⊕ (Unit)) × Mem) :=
if (w32 s) < 118020 then
if 0 ≤ (w32 (s + 16860)) ∧ (w32 (s + 16860)) < 134880 then
if 0 ≤ (w32 s) ∧ (w32 s) < 134880 then
ltI (sI I 27 3 (w32 s).toNat (I 27 3 (w32 (s + 16860)).toNat)) fun J4 =>
some (.inl (s + 1), J4)
else none
else none
else
some (.inr (), I)

noncomputable def f_M_remembers_j50 (v1 : Nat)   (I : Mem) : Option ((Unit) × Mem) :=
bnd (f_M_lays v1 0 3 (16860 * (I 26 0 6)) I) fun _ J23 =>
ltI (sI J23 26 0 6 ((J23 26 0 6) + 1)) fun J25 =>
some ((), J25)

noncomputable def f_M_remembers (a1 : Nat) (I : Mem) : Option ((Unit) × Mem) :=
if a1 < 23 then
if (w32 (I 26 0 6)) = 8 then
bnd (whl (f_M_remembers_w11 a1) 0 I) fun r17 J18 =>
ltI (sI J18 26 0 6 ((J18 26 0 6) - 1)) fun J20 =>
f_M_remembers_j50 a1 J20
else
f_M_remembers_j50 a1 I
else none
set_option maxRecDepth 20000 in
theorem R_M_remembers (Z : ZT) (a1 : Nat) (I : Mem) (r : Unit) (J : Mem) (hf : f_M_remembers a1 I = some (r, J)) : Runs Z yX13_remembers cX13_remembers 3 (none) 2 [vr Z 26 0, vr Z 27 a1] I (none, J) := by
  refine Runs.of (rv := fun _ => none) (by decide +kernel) (Nat.le_of_ble_eq_true rfl) hf (fun gr => ?_)
  unfold f_M_remembers
  refine WQ.loc [0, 1] (lv' := [(0, vr Z 26 0), (1, vr Z 27 a1)]) rfl ?_
  refine wq_grd (fun h1 => ?_)
  refine wq_aload_n dX13_remembers_0 0 rfl rfl ?_
  refine g_26_6 ln_RX13_342 dX13_remembers_1 ?_
  refine wq_bipush dX13_remembers_4 (by decide) ?_
  have hj1 : ∀ (gr27 : Nat → Nat)   (J26 : Mem), WQ Z (yX13_remembers, cX13_remembers, 3, none, 2) I gr27 50 [(0, vr Z 26 0), (1, vr Z 27 a1)] [] J26 (f_M_remembers_j50 a1 J26) (fun b K => some (.inl ((fun _ => none) b), K)) := by
    intro gr27 J26
    unfold f_M_remembers_j50
    refine wq_aload_n dX13_remembers_50 1 rfl rfl ?_
    refine wq_iconst dX13_remembers_51 ?_
    refine wq_aload_n dX13_remembers_52 0 rfl rfl ?_
    refine g_26_3 ln_RX13_20 dX13_remembers_53 ?_
    refine wq_sipush dX13_remembers_56 (by decide) ?_
    refine wq_aload_n dX13_remembers_59 0 rfl rfl ?_
    refine g_26_6 ln_RX13_342 dX13_remembers_60 ?_
    refine wq_imul dX13_remembers_63 ?_
    refine wq_cSv M_M_lays (R_M_lays Z a1 0 3 (16860 * (J26 26 0 6)) _) rfl rfl rfl (by decide) (by decide) (Nat.le_of_ble_eq_true rfl) ln_RX13_208 dX13_remembers_64 (fun gr28 _ J29 => ?_)
    refine wq_aload_n dX13_remembers_67 0 rfl rfl ?_
    refine wq_dup dX13_remembers_68 rfl ?_
    refine g_26_6 ln_RX13_342 dX13_remembers_69 ?_
    refine wq_iconst dX13_remembers_72 ?_
    refine wq_iadd dX13_remembers_73 ?_
    refine p_26_6 ln_RX13_342 dX13_remembers_74 (fun J31 => ?_)
    exact wq_vret rfl rfl dX13_remembers_77
  refine wq_icmp_ne 50 dX13_remembers_6 (by decide) rfl rfl (fun c21 => ?_) (fun c21 => ?_)
  · refine wq_iconst dX13_remembers_9 ?_
    refine wq_istore_n (lv' := [(2, vi 0), (0, vr Z 26 0), (1, vr Z 27 a1)]) dX13_remembers_10 rfl (by decide) rfl ?_
    refine WQ.loc [1, 2, 0] (lv' := [(0, vr Z 26 0), (1, vr Z 27 a1), (2, vi 0)]) rfl ?_
    refine wq_loopS (fun s12 => [(0, vr Z 26 0), (1, vr Z 27 a1), (2, vi s12)]) 40 (fun _ => [(0, vr Z 26 0), (1, vr Z 27 a1)]) (fun κ6 bk7 ex8 gr11 s12 J10 => ?_) (fun gr19 r17 J18 => ?_) gr _ rfl
    · unfold f_M_remembers_w11
      refine wq_iload_n dX13_remembers_11 2 rfl rfl ?_
      refine wq_ldc_w ln_RX13_487 dX13_remembers_12 ?_
      refine wq_icmp_ge 40 dX13_remembers_15 (by decide) rfl rfl (fun c16 => ?_) (fun c16 => ?_)
      · refine wq_aload_n dX13_remembers_18 0 rfl rfl ?_
        refine g_26_3 ln_RX13_20 dX13_remembers_19 ?_
        refine wq_iload_n dX13_remembers_22 2 rfl rfl ?_
        refine wq_aload_n dX13_remembers_23 0 rfl rfl ?_
        refine g_26_3 ln_RX13_20 dX13_remembers_24 ?_
        refine wq_iload_n dX13_remembers_27 2 rfl rfl ?_
        refine wq_sipush dX13_remembers_28 (by decide) ?_
        refine wq_iadd dX13_remembers_31 ?_
        refine wq_grd (fun g13 => ?_)
        refine wq_iald (k := 27) (i := 3) rfl (by decide) rfl rfl (m := 134880) g13 (Nat.le_of_ble_eq_true rfl) dX13_remembers_32 ?_
        refine wq_grd (fun g14 => ?_)
        refine wq_iast (k := 27) (i := 3) (fun _ _ => rfl) (by decide) rfl rfl (m := 134880) g14 (Nat.le_of_ble_eq_true rfl) (by decide) (by decide) (by decide) dX13_remembers_33 (fun J15 => ?_)
        refine wq_iinc (lv' := [(2, vi (s12 + 1)), (0, vr Z 26 0), (1, vr Z 27 a1)]) dX13_remembers_34 2 rfl (by decide) rfl ?_
        refine wq_goto 11 dX13_remembers_37 (by decide) ?_
        exact WQ.loc [1, 2, 0] rfl (bk7 _ _ _)
      · exact WQ.loc [0, 1] rfl (ex8 _ _ _)
    · refine wq_aload_n dX13_remembers_40 0 rfl rfl ?_
      refine wq_dup dX13_remembers_41 rfl ?_
      refine g_26_6 ln_RX13_342 dX13_remembers_42 ?_
      refine wq_iconst dX13_remembers_45 ?_
      refine wq_isub dX13_remembers_46 ?_
      refine p_26_6 ln_RX13_342 dX13_remembers_47 (fun J20 => ?_)
      exact WQ.loc [0, 1] rfl (hj1 _   _)
  · exact WQ.loc [0, 1] rfl (hj1 _   _)

theorem ln_RX13_16 : Cond.fieldLink RX13 16 RX13 "ahead" "[I" ∈ lw_good := li_7 56 (by decide +kernel) (by decide +kernel)
noncomputable def f_M_holds  (I : Mem) : Option ((Unit) × Mem) :=
bnd (f_M_lays 0 0 2 0 I) fun _ J2 =>
some ((), J2)
set_option maxRecDepth 20000 in
theorem R_M_holds (Z : ZT)  (I : Mem) (r : Unit) (J : Mem) (hf : f_M_holds I = some (r, J)) : Runs Z yX13_holds cX13_holds 1 (none) 2 [vr Z 26 0] I (none, J) := by
  refine Runs.of (rv := fun _ => none) (by decide +kernel) (Nat.le_of_ble_eq_true rfl) hf (fun gr => ?_)
  unfold f_M_holds
  refine WQ.loc [0] (lv' := [(0, vr Z 26 0)]) rfl ?_
  refine wq_aload_n dX13_holds_0 0 rfl rfl ?_
  refine g_26_0 ln_RX13_9 dX13_holds_1 ?_
  refine wq_iconst dX13_holds_4 ?_
  refine wq_aload_n dX13_holds_5 0 rfl rfl ?_
  refine g_26_2 ln_RX13_16 dX13_holds_6 ?_
  refine wq_iconst dX13_holds_9 ?_
  refine wq_cSv M_M_lays (R_M_lays Z 0 0 2 0 _) rfl rfl rfl (by decide) (by decide) (Nat.le_of_ble_eq_true rfl) ln_RX13_208 dX13_holds_10 (fun gr1 _ J2 => ?_)
  exact wq_vret rfl rfl dX13_holds_13

theorem M_M_remembers : MwV yX13_remembers cX13_remembers 3 (none) 1 := ⟨li_8 115 (by decide +kernel) (by decide +kernel), li_8 114 (by decide +kernel) (by decide +kernel), lw_in 85 (by decide +kernel) (by decide +kernel), li_1 16 (by decide +kernel) (by decide +kernel), by decide +kernel⟩
theorem ln_RX13_415 : Cond.methodLink RX13 415 yX13_remembers ∈ lw_good := li_8 112 (by decide +kernel) (by decide +kernel)
noncomputable def f_M_recorded (a1 : Int) (I : Mem) : Option ((Int) × Mem) :=
if (w32 a1) < 0 then
some (a1, I)
else
bnd (f_M_remembers 2 I) fun _ J2 =>
some (a1, J2)
set_option maxRecDepth 20000 in
theorem R_M_recorded (Z : ZT) (a1 : Int) (I : Mem) (r : Int) (J : Mem) (hf : f_M_recorded a1 I = some (r, J)) : Runs Z yX13_recorded cX13_recorded 2 (some .int) 3 [vr Z 26 0, vi a1] I (some (vi r), J) := by
  refine Runs.of (rv := fun x => some (vi x)) (by decide +kernel) (Nat.le_of_ble_eq_true rfl) hf (fun gr => ?_)
  unfold f_M_recorded
  refine WQ.loc [0, 1] (lv' := [(0, vr Z 26 0), (1, vi a1)]) rfl ?_
  refine wq_iload_n dX13_recorded_0 1 rfl rfl ?_
  refine wq_if_lt 12 dX13_recorded_1 (by decide) rfl (fun c4 => ?_) (fun c4 => ?_)
  · refine wq_iload_n dX13_recorded_12 1 rfl rfl ?_
    exact wq_iret rfl rfl dX13_recorded_13
  · refine wq_aload_n dX13_recorded_4 0 rfl rfl ?_
    refine wq_aload_n dX13_recorded_5 0 rfl rfl ?_
    refine g_26_2 ln_RX13_16 dX13_recorded_6 ?_
    refine wq_cVv M_M_remembers (R_M_remembers Z 2 _) ob_26 rfl rfl (by decide) (by decide) (Nat.le_of_ble_eq_true rfl) ln_RX13_415 dX13_recorded_9 (fun gr1 _ J2 => ?_)
    refine wq_iload_n dX13_recorded_12 1 rfl rfl ?_
    exact wq_iret rfl rfl dX13_recorded_13

theorem M_M_holds : MwV yX13_holds cX13_holds 1 (none) 0 := ⟨li_9 173 (by decide +kernel) (by decide +kernel), li_9 172 (by decide +kernel) (by decide +kernel), lw_in 131 (by decide +kernel) (by decide +kernel), li_1 16 (by decide +kernel) (by decide +kernel), by decide +kernel⟩
theorem M_M_recorded : MwV yX13_recorded cX13_recorded 2 (some .int) 1 := ⟨li_9 177 (by decide +kernel) (by decide +kernel), li_9 176 (by decide +kernel) (by decide +kernel), lw_in 132 (by decide +kernel) (by decide +kernel), li_1 16 (by decide +kernel) (by decide +kernel), by decide +kernel⟩
theorem ln_RX13_491 : Cond.methodLink RX13 491 yX13_recorded ∈ lw_good := li_9 174 (by decide +kernel) (by decide +kernel)
theorem ln_RX13_488 : Cond.methodLink RX13 488 yX13_holds ∈ lw_good := li_9 170 (by decide +kernel) (by decide +kernel)
noncomputable def f_M_step (a1 : Int) (I : Mem) : Option ((Int) × Mem) :=
ltI (sI I 26 0 7 0) fun J1 =>
bnd (f_M_in a1 1 50 J1) fun x4 J3 =>
bnd (f_M_fails (if (w32 x4) = 0 then 1 else 0) 1 J3) fun x7 J6 =>
if (w32 x7) = 0 then
bnd (f_M_holds J6) fun _ J9 =>
bnd (f_M_stepsMany a1 J9) fun x13 J12 =>
bnd (f_M_recorded x13 J12) fun x16 J15 =>
some (x16, J15)
else
some (0, J6)
set_option maxRecDepth 20000 in
theorem R_M_step (Z : ZT) (a1 : Int) (I : Mem) (r : Int) (J : Mem) (hf : f_M_step a1 I = some (r, J)) : Runs Z yX13_step cX13_step 2 (some .int) 8 [vr Z 26 0, vi a1] I (some (vi r), J) := by
  refine Runs.of (rv := fun x => some (vi x)) (by decide +kernel) (Nat.le_of_ble_eq_true rfl) hf (fun gr => ?_)
  unfold f_M_step
  refine WQ.loc [0, 1] (lv' := [(0, vr Z 26 0), (1, vi a1)]) rfl ?_
  refine wq_aload_n dX13_step_0 0 rfl rfl ?_
  refine wq_iconst dX13_step_1 ?_
  refine p_26_7 ln_RX13_100 dX13_step_2 (fun J1 => ?_)
  refine wq_aload_n dX13_step_5 0 rfl rfl ?_
  refine wq_iload_n dX13_step_6 1 rfl rfl ?_
  refine wq_iconst dX13_step_7 ?_
  refine wq_bipush dX13_step_8 (by decide) ?_
  refine wq_cSi M_M_in (R_M_in Z a1 1 50 _) rfl rfl rfl (by decide) (by decide) (Nat.le_of_ble_eq_true rfl) ln_RX13_224 dX13_step_10 (fun gr2 x4 J3 => ?_)
  refine WQ.via 21 [vi (if (w32 x4) = 0 then 1 else 0), vr Z 26 0] (by
      refine wq_iconst dX13_step_21 ?_
      refine wq_cVi M_M_fails (R_M_fails Z (if (w32 x4) = 0 then 1 else 0) 1 _) ob_26 rfl rfl (by decide) (by decide) (Nat.le_of_ble_eq_true rfl) ln_RX13_428 dX13_step_22 (fun gr5 x7 J6 => ?_)
      refine wq_if_eq 30 dX13_step_25 (by decide) rfl (fun c17 => ?_) (fun c17 => ?_)
      · refine wq_aload_n dX13_step_30 0 rfl rfl ?_
        refine wq_cVv M_M_holds (R_M_holds Z _) ob_26 rfl rfl (by decide) (by decide) (Nat.le_of_ble_eq_true rfl) ln_RX13_488 dX13_step_31 (fun gr8 _ J9 => ?_)
        refine wq_aload_n dX13_step_34 0 rfl rfl ?_
        refine wq_aload_n dX13_step_35 0 rfl rfl ?_
        refine wq_iload_n dX13_step_36 1 rfl rfl ?_
        refine wq_cVi M_M_stepsMany (R_M_stepsMany Z a1 _) ob_26 rfl rfl (by decide) (by decide) (Nat.le_of_ble_eq_true rfl) ln_RX13_391 dX13_step_37 (fun gr11 x13 J12 => ?_)
        refine wq_cVi M_M_recorded (R_M_recorded Z x13 _) ob_26 rfl rfl (by decide) (by decide) (Nat.le_of_ble_eq_true rfl) ln_RX13_491 dX13_step_40 (fun gr14 x16 J15 => ?_)
        exact wq_iret rfl rfl dX13_step_43
      · refine wq_iconst dX13_step_28 ?_
        exact wq_iret rfl rfl dX13_step_29) (fun hj18 => ?_)
  refine WQ.both ((w32 x4) = 0) ?_
  refine wq_if_ne 20 dX13_step_13 (by decide) rfl (fun c19 => ?_) (fun c19 => ?_)
  · refine wq_iconst dX13_step_16 ?_
    refine wq_goto 21 dX13_step_17 (by decide) ?_
    exact WQ.top (if_pos c19) hj18
  · refine wq_iconst dX13_step_20 ?_
    exact WQ.top (if_neg c19) hj18

noncomputable def f_M_inline  (I : Mem) : Option ((Int) × Mem) :=
ltI (sI I 26 0 7 0) fun J1 =>
bnd (f_M_holds J1) fun _ J3 =>
bnd (f_M_inlines J3) fun x7 J6 =>
bnd (f_M_recorded x7 J6) fun x10 J9 =>
some (x10, J9)
set_option maxRecDepth 20000 in
theorem R_M_inline (Z : ZT)  (I : Mem) (r : Int) (J : Mem) (hf : f_M_inline I = some (r, J)) : Runs Z yX13_inline cX13_inline 1 (some .int) 6 [vr Z 26 0] I (some (vi r), J) := by
  refine Runs.of (rv := fun x => some (vi x)) (by decide +kernel) (Nat.le_of_ble_eq_true rfl) hf (fun gr => ?_)
  unfold f_M_inline
  refine WQ.loc [0] (lv' := [(0, vr Z 26 0)]) rfl ?_
  refine wq_aload_n dX13_inline_0 0 rfl rfl ?_
  refine wq_iconst dX13_inline_1 ?_
  refine p_26_7 ln_RX13_100 dX13_inline_2 (fun J1 => ?_)
  refine wq_aload_n dX13_inline_5 0 rfl rfl ?_
  refine wq_cVv M_M_holds (R_M_holds Z _) ob_26 rfl rfl (by decide) (by decide) (Nat.le_of_ble_eq_true rfl) ln_RX13_488 dX13_inline_6 (fun gr2 _ J3 => ?_)
  refine wq_aload_n dX13_inline_9 0 rfl rfl ?_
  refine wq_aload_n dX13_inline_10 0 rfl rfl ?_
  refine wq_cVi M_M_inlines (R_M_inlines Z _) ob_26 rfl rfl (by decide) (by decide) (Nat.le_of_ble_eq_true rfl) ln_RX13_201 dX13_inline_11 (fun gr5 x7 J6 => ?_)
  refine wq_cVi M_M_recorded (R_M_recorded Z x7 _) ob_26 rfl rfl (by decide) (by decide) (Nat.le_of_ble_eq_true rfl) ln_RX13_491 dX13_inline_14 (fun gr8 x10 J9 => ?_)
  exact wq_iret rfl rfl dX13_inline_17

theorem M_M_makeNow : MwV yX13_makeNow cX13_makeNow 4 (some .int) 2 := ⟨li_8 207 (by decide +kernel) (by decide +kernel), li_8 206 (by decide +kernel) (by decide +kernel), lw_in 107 (by decide +kernel) (by decide +kernel), li_1 16 (by decide +kernel) (by decide +kernel), by decide +kernel⟩
theorem ln_RX13_394 : Cond.methodLink RX13 394 yX13_makeNow ∈ lw_good := li_8 204 (by decide +kernel) (by decide +kernel)
noncomputable def f_M_make (a1 : Int) (a2 : Int) (I : Mem) : Option ((Int) × Mem) :=
ltI (sI I 26 0 7 0) fun J1 =>
bnd (f_M_noPair a1 a2 J1) fun x4 J3 =>
if (w32 x4) = 0 then
bnd (f_M_holds J3) fun _ J6 =>
bnd (f_M_makeNow a1 a2 J6) fun x10 J9 =>
bnd (f_M_recorded x10 J9) fun x13 J12 =>
some (x13, J12)
else
some (0, J3)
set_option maxRecDepth 20000 in
theorem R_M_make (Z : ZT) (a1 : Int) (a2 : Int) (I : Mem) (r : Int) (J : Mem) (hf : f_M_make a1 a2 I = some (r, J)) : Runs Z yX13_make cX13_make 3 (some .int) 6 [vr Z 26 0, vi a1, vi a2] I (some (vi r), J) := by
  refine Runs.of (rv := fun x => some (vi x)) (by decide +kernel) (Nat.le_of_ble_eq_true rfl) hf (fun gr => ?_)
  unfold f_M_make
  refine WQ.loc [0, 1, 2] (lv' := [(0, vr Z 26 0), (1, vi a1), (2, vi a2)]) rfl ?_
  refine wq_aload_n dX13_make_0 0 rfl rfl ?_
  refine wq_iconst dX13_make_1 ?_
  refine p_26_7 ln_RX13_100 dX13_make_2 (fun J1 => ?_)
  refine wq_aload_n dX13_make_5 0 rfl rfl ?_
  refine wq_iload_n dX13_make_6 1 rfl rfl ?_
  refine wq_iload_n dX13_make_7 2 rfl rfl ?_
  refine wq_cVi M_M_noPair (R_M_noPair Z a1 a2 _) ob_26 rfl rfl (by decide) (by decide) (Nat.le_of_ble_eq_true rfl) ln_RX13_475 dX13_make_8 (fun gr2 x4 J3 => ?_)
  refine wq_if_eq 16 dX13_make_11 (by decide) rfl (fun c14 => ?_) (fun c14 => ?_)
  · refine wq_aload_n dX13_make_16 0 rfl rfl ?_
    refine wq_cVv M_M_holds (R_M_holds Z _) ob_26 rfl rfl (by decide) (by decide) (Nat.le_of_ble_eq_true rfl) ln_RX13_488 dX13_make_17 (fun gr5 _ J6 => ?_)
    refine wq_aload_n dX13_make_20 0 rfl rfl ?_
    refine wq_aload_n dX13_make_21 0 rfl rfl ?_
    refine wq_iload_n dX13_make_22 1 rfl rfl ?_
    refine wq_iload_n dX13_make_23 2 rfl rfl ?_
    refine wq_cVi M_M_makeNow (R_M_makeNow Z a1 a2 _) ob_26 rfl rfl (by decide) (by decide) (Nat.le_of_ble_eq_true rfl) ln_RX13_394 dX13_make_24 (fun gr8 x10 J9 => ?_)
    refine wq_cVi M_M_recorded (R_M_recorded Z x10 _) ob_26 rfl rfl (by decide) (by decide) (Nat.le_of_ble_eq_true rfl) ln_RX13_491 dX13_make_27 (fun gr11 x13 J12 => ?_)
    exact wq_iret rfl rfl dX13_make_30
  · refine wq_iconst dX13_make_14 ?_
    exact wq_iret rfl rfl dX13_make_15

theorem M_M_expandNow : MwV yX13_expandNow cX13_expandNow 2 (some .int) 1 := ⟨li_8 215 (by decide +kernel) (by decide +kernel), li_8 214 (by decide +kernel) (by decide +kernel), lw_in 109 (by decide +kernel) (by decide +kernel), li_1 16 (by decide +kernel) (by decide +kernel), by decide +kernel⟩
theorem ln_RX13_397 : Cond.methodLink RX13 397 yX13_expandNow ∈ lw_good := li_8 212 (by decide +kernel) (by decide +kernel)
noncomputable def f_M_expand (a1 : Int) (I : Mem) : Option ((Int) × Mem) :=
ltI (sI I 26 0 7 0) fun J1 =>
bnd (f_M_noRule a1 J1) fun x4 J3 =>
if (w32 x4) = 0 then
bnd (f_M_holds J3) fun _ J6 =>
bnd (f_M_expandNow a1 J6) fun x10 J9 =>
bnd (f_M_recorded x10 J9) fun x13 J12 =>
some (x13, J12)
else
some (0, J3)
set_option maxRecDepth 20000 in
theorem R_M_expand (Z : ZT) (a1 : Int) (I : Mem) (r : Int) (J : Mem) (hf : f_M_expand a1 I = some (r, J)) : Runs Z yX13_expand cX13_expand 2 (some .int) 5 [vr Z 26 0, vi a1] I (some (vi r), J) := by
  refine Runs.of (rv := fun x => some (vi x)) (by decide +kernel) (Nat.le_of_ble_eq_true rfl) hf (fun gr => ?_)
  unfold f_M_expand
  refine WQ.loc [0, 1] (lv' := [(0, vr Z 26 0), (1, vi a1)]) rfl ?_
  refine wq_aload_n dX13_expand_0 0 rfl rfl ?_
  refine wq_iconst dX13_expand_1 ?_
  refine p_26_7 ln_RX13_100 dX13_expand_2 (fun J1 => ?_)
  refine wq_aload_n dX13_expand_5 0 rfl rfl ?_
  refine wq_iload_n dX13_expand_6 1 rfl rfl ?_
  refine wq_cVi M_M_noRule (R_M_noRule Z a1 _) ob_26 rfl rfl (by decide) (by decide) (Nat.le_of_ble_eq_true rfl) ln_RX13_446 dX13_expand_7 (fun gr2 x4 J3 => ?_)
  refine wq_if_eq 15 dX13_expand_10 (by decide) rfl (fun c14 => ?_) (fun c14 => ?_)
  · refine wq_aload_n dX13_expand_15 0 rfl rfl ?_
    refine wq_cVv M_M_holds (R_M_holds Z _) ob_26 rfl rfl (by decide) (by decide) (Nat.le_of_ble_eq_true rfl) ln_RX13_488 dX13_expand_16 (fun gr5 _ J6 => ?_)
    refine wq_aload_n dX13_expand_19 0 rfl rfl ?_
    refine wq_aload_n dX13_expand_20 0 rfl rfl ?_
    refine wq_iload_n dX13_expand_21 1 rfl rfl ?_
    refine wq_cVi M_M_expandNow (R_M_expandNow Z a1 _) ob_26 rfl rfl (by decide) (by decide) (Nat.le_of_ble_eq_true rfl) ln_RX13_397 dX13_expand_22 (fun gr8 x10 J9 => ?_)
    refine wq_cVi M_M_recorded (R_M_recorded Z x10 _) ob_26 rfl rfl (by decide) (by decide) (Nat.le_of_ble_eq_true rfl) ln_RX13_491 dX13_expand_25 (fun gr11 x13 J12 => ?_)
    exact wq_iret rfl rfl dX13_expand_28
  · refine wq_iconst dX13_expand_13 ?_
    exact wq_iret rfl rfl dX13_expand_14

theorem M_M_appendNow : MwV yX13_appendNow cX13_appendNow 2 (some .int) 1 := ⟨li_8 223 (by decide +kernel) (by decide +kernel), li_8 222 (by decide +kernel) (by decide +kernel), lw_in 111 (by decide +kernel) (by decide +kernel), li_1 16 (by decide +kernel) (by decide +kernel), by decide +kernel⟩
theorem ln_RX13_388 : Cond.methodLink RX13 388 yX13_appendNow ∈ lw_good := li_8 220 (by decide +kernel) (by decide +kernel)
noncomputable def f_M_append (a1 : Int) (I : Mem) : Option ((Int) × Mem) :=
ltI (sI I 26 0 7 0) fun J1 =>
bnd (f_M_in a1 0 25 J1) fun x4 J3 =>
bnd (f_M_fails (if (w32 x4) = 0 then 1 else 0) 1 J3) fun x7 J6 =>
if (w32 x7) = 0 then
bnd (f_M_holds J6) fun _ J9 =>
bnd (f_M_appendNow a1 J9) fun x13 J12 =>
bnd (f_M_recorded x13 J12) fun x16 J15 =>
some (x16, J15)
else
some (0, J6)
set_option maxRecDepth 20000 in
theorem R_M_append (Z : ZT) (a1 : Int) (I : Mem) (r : Int) (J : Mem) (hf : f_M_append a1 I = some (r, J)) : Runs Z yX13_append cX13_append 2 (some .int) 4 [vr Z 26 0, vi a1] I (some (vi r), J) := by
  refine Runs.of (rv := fun x => some (vi x)) (by decide +kernel) (Nat.le_of_ble_eq_true rfl) hf (fun gr => ?_)
  unfold f_M_append
  refine WQ.loc [0, 1] (lv' := [(0, vr Z 26 0), (1, vi a1)]) rfl ?_
  refine wq_aload_n dX13_append_0 0 rfl rfl ?_
  refine wq_iconst dX13_append_1 ?_
  refine p_26_7 ln_RX13_100 dX13_append_2 (fun J1 => ?_)
  refine wq_aload_n dX13_append_5 0 rfl rfl ?_
  refine wq_iload_n dX13_append_6 1 rfl rfl ?_
  refine wq_iconst dX13_append_7 ?_
  refine wq_bipush dX13_append_8 (by decide) ?_
  refine wq_cSi M_M_in (R_M_in Z a1 0 25 _) rfl rfl rfl (by decide) (by decide) (Nat.le_of_ble_eq_true rfl) ln_RX13_224 dX13_append_10 (fun gr2 x4 J3 => ?_)
  refine WQ.via 21 [vi (if (w32 x4) = 0 then 1 else 0), vr Z 26 0] (by
      refine wq_iconst dX13_append_21 ?_
      refine wq_cVi M_M_fails (R_M_fails Z (if (w32 x4) = 0 then 1 else 0) 1 _) ob_26 rfl rfl (by decide) (by decide) (Nat.le_of_ble_eq_true rfl) ln_RX13_428 dX13_append_22 (fun gr5 x7 J6 => ?_)
      refine wq_if_eq 30 dX13_append_25 (by decide) rfl (fun c17 => ?_) (fun c17 => ?_)
      · refine wq_aload_n dX13_append_30 0 rfl rfl ?_
        refine wq_cVv M_M_holds (R_M_holds Z _) ob_26 rfl rfl (by decide) (by decide) (Nat.le_of_ble_eq_true rfl) ln_RX13_488 dX13_append_31 (fun gr8 _ J9 => ?_)
        refine wq_aload_n dX13_append_34 0 rfl rfl ?_
        refine wq_aload_n dX13_append_35 0 rfl rfl ?_
        refine wq_iload_n dX13_append_36 1 rfl rfl ?_
        refine wq_cVi M_M_appendNow (R_M_appendNow Z a1 _) ob_26 rfl rfl (by decide) (by decide) (Nat.le_of_ble_eq_true rfl) ln_RX13_388 dX13_append_37 (fun gr11 x13 J12 => ?_)
        refine wq_cVi M_M_recorded (R_M_recorded Z x13 _) ob_26 rfl rfl (by decide) (by decide) (Nat.le_of_ble_eq_true rfl) ln_RX13_491 dX13_append_40 (fun gr14 x16 J15 => ?_)
        exact wq_iret rfl rfl dX13_append_43
      · refine wq_iconst dX13_append_28 ?_
        exact wq_iret rfl rfl dX13_append_29) (fun hj18 => ?_)
  refine WQ.both ((w32 x4) = 0) ?_
  refine wq_if_ne 20 dX13_append_13 (by decide) rfl (fun c19 => ?_) (fun c19 => ?_)
  · refine wq_iconst dX13_append_16 ?_
    refine wq_goto 21 dX13_append_17 (by decide) ?_
    exact WQ.top (if_pos c19) hj18
  · refine wq_iconst dX13_append_20 ?_
    exact WQ.top (if_neg c19) hj18

theorem M_M_cutNow : MwV yX13_cutNow cX13_cutNow 5 (some .int) 1 := ⟨li_8 227 (by decide +kernel) (by decide +kernel), li_8 226 (by decide +kernel) (by decide +kernel), lw_in 112 (by decide +kernel) (by decide +kernel), li_1 16 (by decide +kernel) (by decide +kernel), by decide +kernel⟩
theorem ln_RX13_403 : Cond.methodLink RX13 403 yX13_cutNow ∈ lw_good := li_8 224 (by decide +kernel) (by decide +kernel)
noncomputable def f_M_cut (a1 : Int) (I : Mem) : Option ((Int) × Mem) :=
ltI (sI I 26 0 7 0) fun J1 =>
bnd (f_M_in a1 1 400 J1) fun x4 J3 =>
bnd (f_M_fails (if (w32 x4) = 0 then 1 else 0) 1 J3) fun x7 J6 =>
if (w32 x7) = 0 then
bnd (f_M_holds J6) fun _ J9 =>
bnd (f_M_cutNow a1 J9) fun x13 J12 =>
bnd (f_M_recorded x13 J12) fun x16 J15 =>
some (x16, J15)
else
some (0, J6)
set_option maxRecDepth 20000 in
theorem R_M_cut (Z : ZT) (a1 : Int) (I : Mem) (r : Int) (J : Mem) (hf : f_M_cut a1 I = some (r, J)) : Runs Z yX13_cut cX13_cut 2 (some .int) 5 [vr Z 26 0, vi a1] I (some (vi r), J) := by
  refine Runs.of (rv := fun x => some (vi x)) (by decide +kernel) (Nat.le_of_ble_eq_true rfl) hf (fun gr => ?_)
  unfold f_M_cut
  refine WQ.loc [0, 1] (lv' := [(0, vr Z 26 0), (1, vi a1)]) rfl ?_
  refine wq_aload_n dX13_cut_0 0 rfl rfl ?_
  refine wq_iconst dX13_cut_1 ?_
  refine p_26_7 ln_RX13_100 dX13_cut_2 (fun J1 => ?_)
  refine wq_aload_n dX13_cut_5 0 rfl rfl ?_
  refine wq_iload_n dX13_cut_6 1 rfl rfl ?_
  refine wq_iconst dX13_cut_7 ?_
  refine wq_sipush dX13_cut_8 (by decide) ?_
  refine wq_cSi M_M_in (R_M_in Z a1 1 400 _) rfl rfl rfl (by decide) (by decide) (Nat.le_of_ble_eq_true rfl) ln_RX13_224 dX13_cut_11 (fun gr2 x4 J3 => ?_)
  refine WQ.via 22 [vi (if (w32 x4) = 0 then 1 else 0), vr Z 26 0] (by
      refine wq_iconst dX13_cut_22 ?_
      refine wq_cVi M_M_fails (R_M_fails Z (if (w32 x4) = 0 then 1 else 0) 1 _) ob_26 rfl rfl (by decide) (by decide) (Nat.le_of_ble_eq_true rfl) ln_RX13_428 dX13_cut_23 (fun gr5 x7 J6 => ?_)
      refine wq_if_eq 31 dX13_cut_26 (by decide) rfl (fun c17 => ?_) (fun c17 => ?_)
      · refine wq_aload_n dX13_cut_31 0 rfl rfl ?_
        refine wq_cVv M_M_holds (R_M_holds Z _) ob_26 rfl rfl (by decide) (by decide) (Nat.le_of_ble_eq_true rfl) ln_RX13_488 dX13_cut_32 (fun gr8 _ J9 => ?_)
        refine wq_aload_n dX13_cut_35 0 rfl rfl ?_
        refine wq_aload_n dX13_cut_36 0 rfl rfl ?_
        refine wq_iload_n dX13_cut_37 1 rfl rfl ?_
        refine wq_cVi M_M_cutNow (R_M_cutNow Z a1 _) ob_26 rfl rfl (by decide) (by decide) (Nat.le_of_ble_eq_true rfl) ln_RX13_403 dX13_cut_38 (fun gr11 x13 J12 => ?_)
        refine wq_cVi M_M_recorded (R_M_recorded Z x13 _) ob_26 rfl rfl (by decide) (by decide) (Nat.le_of_ble_eq_true rfl) ln_RX13_491 dX13_cut_41 (fun gr14 x16 J15 => ?_)
        exact wq_iret rfl rfl dX13_cut_44
      · refine wq_iconst dX13_cut_29 ?_
        exact wq_iret rfl rfl dX13_cut_30) (fun hj18 => ?_)
  refine WQ.both ((w32 x4) = 0) ?_
  refine wq_if_ne 21 dX13_cut_14 (by decide) rfl (fun c19 => ?_) (fun c19 => ?_)
  · refine wq_iconst dX13_cut_17 ?_
    refine wq_goto 22 dX13_cut_18 (by decide) ?_
    exact WQ.top (if_pos c19) hj18
  · refine wq_iconst dX13_cut_21 ?_
    exact WQ.top (if_neg c19) hj18

theorem M_M_setNow : MwV yX13_setNow cX13_setNow 4 (some .int) 2 := ⟨li_8 231 (by decide +kernel) (by decide +kernel), li_8 230 (by decide +kernel) (by decide +kernel), lw_in 113 (by decide +kernel) (by decide +kernel), li_1 16 (by decide +kernel) (by decide +kernel), by decide +kernel⟩
theorem ln_RX13_406 : Cond.methodLink RX13 406 yX13_setNow ∈ lw_good := li_8 228 (by decide +kernel) (by decide +kernel)
noncomputable def f_M_set_j40 (v1 : Int) (v2 : Int)  (e0 : Int) (I : Mem) : Option ((Int) × Mem) :=
bnd (f_M_fails e0 1 I) fun x20 J19 =>
if (w32 x20) = 0 then
bnd (f_M_holds J19) fun _ J22 =>
bnd (f_M_setNow (v1 - 4) v2 J22) fun x26 J25 =>
bnd (f_M_recorded x26 J25) fun x29 J28 =>
some (x29, J28)
else
some (0, J19)

noncomputable def f_M_set_j35 (v1 : Int) (v2 : Int)   (I : Mem) : Option ((Int) × Mem) :=
f_M_set_j40 v1 v2 1 I

noncomputable def f_M_set (a1 : Int) (a2 : Int) (I : Mem) : Option ((Int) × Mem) :=
ltI (sI I 26 0 7 0) fun J1 =>
bnd (f_M_in a1 4 6 J1) fun x4 J3 =>
if (w32 x4) = 0 then
f_M_set_j35 a1 a2 J3
else
bnd (f_M_leastOf (a1 - 4) J3) fun x9 J8 =>
bnd (f_M_mostOf (a1 - 4) J8) fun x12 J11 =>
bnd (f_M_in a2 x9 x12 J11) fun x15 J14 =>
if (w32 x15) = 0 then
f_M_set_j35 a1 a2 J14
else
f_M_set_j40 a1 a2 0 J14
set_option maxRecDepth 20000 in
theorem R_M_set (Z : ZT) (a1 : Int) (a2 : Int) (I : Mem) (r : Int) (J : Mem) (hf : f_M_set a1 a2 I = some (r, J)) : Runs Z yX13_set cX13_set 3 (some .int) 4 [vr Z 26 0, vi a1, vi a2] I (some (vi r), J) := by
  refine Runs.of (rv := fun x => some (vi x)) (by decide +kernel) (Nat.le_of_ble_eq_true rfl) hf (fun gr => ?_)
  unfold f_M_set
  refine WQ.loc [0, 1, 2] (lv' := [(0, vr Z 26 0), (1, vi a1), (2, vi a2)]) rfl ?_
  refine wq_aload_n dX13_set_0 0 rfl rfl ?_
  refine wq_iconst dX13_set_1 ?_
  refine p_26_7 ln_RX13_100 dX13_set_2 (fun J1 => ?_)
  refine wq_aload_n dX13_set_5 0 rfl rfl ?_
  refine wq_iload_n dX13_set_6 1 rfl rfl ?_
  refine wq_iconst dX13_set_7 ?_
  refine wq_bipush dX13_set_8 (by decide) ?_
  refine wq_cSi M_M_in (R_M_in Z a1 4 6 _) rfl rfl rfl (by decide) (by decide) (Nat.le_of_ble_eq_true rfl) ln_RX13_224 dX13_set_10 (fun gr2 x4 J3 => ?_)
  have hj5 : ∀ (gr32 : Nat → Nat)  (hj5e0 : Int) (J31 : Mem), WQ Z (yX13_set, cX13_set, 3, some .int, 4) I gr32 40 [(0, vr Z 26 0), (1, vi a1), (2, vi a2)] [vi hj5e0, vr Z 26 0] J31 (f_M_set_j40 a1 a2 hj5e0 J31) (fun b K => some (.inl ((fun x => some (vi x)) b), K)) := by
    intro gr32 hj5e0 J31
    unfold f_M_set_j40
    refine wq_iconst dX13_set_40 ?_
    refine wq_cVi M_M_fails (R_M_fails Z hj5e0 1 _) ob_26 rfl rfl (by decide) (by decide) (Nat.le_of_ble_eq_true rfl) ln_RX13_428 dX13_set_41 (fun gr33 x35 J34 => ?_)
    refine wq_if_eq 49 dX13_set_44 (by decide) rfl (fun c45 => ?_) (fun c45 => ?_)
    · refine wq_aload_n dX13_set_49 0 rfl rfl ?_
      refine wq_cVv M_M_holds (R_M_holds Z _) ob_26 rfl rfl (by decide) (by decide) (Nat.le_of_ble_eq_true rfl) ln_RX13_488 dX13_set_50 (fun gr36 _ J37 => ?_)
      refine wq_aload_n dX13_set_53 0 rfl rfl ?_
      refine wq_aload_n dX13_set_54 0 rfl rfl ?_
      refine wq_iload_n dX13_set_55 1 rfl rfl ?_
      refine wq_iconst dX13_set_56 ?_
      refine wq_isub dX13_set_57 ?_
      refine wq_iload_n dX13_set_58 2 rfl rfl ?_
      refine wq_cVi M_M_setNow (R_M_setNow Z (a1 - 4) a2 _) ob_26 rfl rfl (by decide) (by decide) (Nat.le_of_ble_eq_true rfl) ln_RX13_406 dX13_set_59 (fun gr39 x41 J40 => ?_)
      refine wq_cVi M_M_recorded (R_M_recorded Z x41 _) ob_26 rfl rfl (by decide) (by decide) (Nat.le_of_ble_eq_true rfl) ln_RX13_491 dX13_set_62 (fun gr42 x44 J43 => ?_)
      exact wq_iret rfl rfl dX13_set_65
    · refine wq_iconst dX13_set_47 ?_
      exact wq_iret rfl rfl dX13_set_48
  have hj6 : ∀ (gr47 : Nat → Nat)   (J46 : Mem), WQ Z (yX13_set, cX13_set, 3, some .int, 4) I gr47 35 [(0, vr Z 26 0), (1, vi a1), (2, vi a2)] [vr Z 26 0] J46 (f_M_set_j35 a1 a2 J46) (fun b K => some (.inl ((fun x => some (vi x)) b), K)) := by
    intro gr47 J46
    unfold f_M_set_j35
    refine wq_iconst dX13_set_35 ?_
    refine wq_goto 40 dX13_set_36 (by decide) ?_
    exact WQ.loc [0, 1, 2] rfl (hj5 _  _ _)
  refine wq_if_eq 35 dX13_set_13 (by decide) rfl (fun c17 => ?_) (fun c17 => ?_)
  · exact WQ.loc [0, 1, 2] rfl (hj6 _   _)
  · refine wq_iload_n dX13_set_16 2 rfl rfl ?_
    refine wq_iload_n dX13_set_17 1 rfl rfl ?_
    refine wq_iconst dX13_set_18 ?_
    refine wq_isub dX13_set_19 ?_
    refine wq_cSi M_M_leastOf (R_M_leastOf Z (a1 - 4) _) rfl rfl rfl (by decide) (by decide) (Nat.le_of_ble_eq_true rfl) ln_RX13_301 dX13_set_20 (fun gr7 x9 J8 => ?_)
    refine wq_iload_n dX13_set_23 1 rfl rfl ?_
    refine wq_iconst dX13_set_24 ?_
    refine wq_isub dX13_set_25 ?_
    refine wq_cSi M_M_mostOf (R_M_mostOf Z (a1 - 4) _) rfl rfl rfl (by decide) (by decide) (Nat.le_of_ble_eq_true rfl) ln_RX13_304 dX13_set_26 (fun gr10 x12 J11 => ?_)
    refine wq_cSi M_M_in (R_M_in Z a2 x9 x12 _) rfl rfl rfl (by decide) (by decide) (Nat.le_of_ble_eq_true rfl) ln_RX13_224 dX13_set_29 (fun gr13 x15 J14 => ?_)
    refine wq_if_ne 39 dX13_set_32 (by decide) rfl (fun c16 => ?_) (fun c16 => ?_)
    · exact WQ.loc [0, 1, 2] rfl (hj6 _   _)
    · refine wq_iconst dX13_set_39 ?_
      exact WQ.loc [0, 1, 2] rfl (hj5 _  _ _)

theorem ln_RX13_87 : Cond.fieldLink RX13 87 RX13 "page" "[I" ∈ lw_good := li_7 96 (by decide +kernel) (by decide +kernel)
theorem ln_RX13_494 : Cond.fieldLink RX13 494 RX13 "pageMany" "I" ∈ lw_good := li_7 97 (by decide +kernel) (by decide +kernel)
noncomputable def f_M_writes (a1 : Int) (I : Mem) : Option ((Unit) × Mem) :=
if 0 ≤ (w32 (I 26 0 43)) ∧ (w32 (I 26 0 43)) < 70000 then
ltI (sI I 27 22 (w32 (I 26 0 43)).toNat a1) fun J2 =>
ltI (sI J2 26 0 43 ((J2 26 0 43) + 1)) fun J3 =>
some ((), J3)
else none
set_option maxRecDepth 20000 in
theorem R_M_writes (Z : ZT) (a1 : Int) (I : Mem) (r : Unit) (J : Mem) (hf : f_M_writes a1 I = some (r, J)) : Runs Z yX13_writes cX13_writes 2 (none) 1 [vr Z 26 0, vi a1] I (none, J) := by
  refine Runs.of (rv := fun _ => none) (by decide +kernel) (Nat.le_of_ble_eq_true rfl) hf (fun gr => ?_)
  unfold f_M_writes
  refine WQ.loc [0, 1] (lv' := [(0, vr Z 26 0), (1, vi a1)]) rfl ?_
  refine wq_aload_n dX13_writes_0 0 rfl rfl ?_
  refine g_26_42 ln_RX13_87 dX13_writes_1 ?_
  refine wq_aload_n dX13_writes_4 0 rfl rfl ?_
  refine g_26_43 ln_RX13_494 dX13_writes_5 ?_
  refine wq_iload_n dX13_writes_8 1 rfl rfl ?_
  refine wq_grd (fun g1 => ?_)
  refine wq_iast (k := 27) (i := 22) (fun _ _ => rfl) (by decide) rfl rfl (m := 70000) g1 (Nat.le_of_ble_eq_true rfl) (by decide) (by decide) (by decide) dX13_writes_9 (fun J2 => ?_)
  refine wq_aload_n dX13_writes_10 0 rfl rfl ?_
  refine wq_dup dX13_writes_11 rfl ?_
  refine g_26_43 ln_RX13_494 dX13_writes_12 ?_
  refine wq_iconst dX13_writes_15 ?_
  refine wq_iadd dX13_writes_16 ?_
  refine p_26_43 ln_RX13_494 dX13_writes_17 (fun J3 => ?_)
  exact wq_vret rfl rfl dX13_writes_20

theorem M_M_writes : MwV yX13_writes cX13_writes 2 (none) 1 := ⟨li_9 213 (by decide +kernel) (by decide +kernel), li_9 212 (by decide +kernel) (by decide +kernel), lw_in 134 (by decide +kernel) (by decide +kernel), li_1 16 (by decide +kernel) (by decide +kernel), by decide +kernel⟩
theorem ln_RX13_497 : Cond.methodLink RX13 497 yX13_writes ∈ lw_good := li_9 210 (by decide +kernel) (by decide +kernel)
noncomputable def f_M_writesNumber_j17 (v1 : Int)   (I : Mem) : Option ((Unit) × Mem) :=
bnd (f_M_writes (48 + (irm v1 10)) I) fun _ J7 =>
some ((), J7)

noncomputable def f_M_writesNumber (a1 : Int) (I : Mem) : Option ((Unit) × Mem) :=
if 9 < (w32 a1) then
bnd (f_M_writes (48 + (idv a1 10)) I) fun _ J3 =>
f_M_writesNumber_j17 a1 J3
else
f_M_writesNumber_j17 a1 I
set_option maxRecDepth 20000 in
theorem R_M_writesNumber (Z : ZT) (a1 : Int) (I : Mem) (r : Unit) (J : Mem) (hf : f_M_writesNumber a1 I = some (r, J)) : Runs Z yX13_writesNumber cX13_writesNumber 2 (none) 2 [vr Z 26 0, vi a1] I (none, J) := by
  refine Runs.of (rv := fun _ => none) (by decide +kernel) (Nat.le_of_ble_eq_true rfl) hf (fun gr => ?_)
  unfold f_M_writesNumber
  refine WQ.loc [0, 1] (lv' := [(0, vr Z 26 0), (1, vi a1)]) rfl ?_
  refine wq_iload_n dX13_writesNumber_0 1 rfl rfl ?_
  refine wq_bipush dX13_writesNumber_1 (by decide) ?_
  have hj1 : ∀ (gr10 : Nat → Nat)   (J9 : Mem), WQ Z (yX13_writesNumber, cX13_writesNumber, 2, none, 2) I gr10 17 [(0, vr Z 26 0), (1, vi a1)] [] J9 (f_M_writesNumber_j17 a1 J9) (fun b K => some (.inl ((fun _ => none) b), K)) := by
    intro gr10 J9
    unfold f_M_writesNumber_j17
    refine wq_aload_n dX13_writesNumber_17 0 rfl rfl ?_
    refine wq_bipush dX13_writesNumber_18 (by decide) ?_
    refine wq_iload_n dX13_writesNumber_20 1 rfl rfl ?_
    refine wq_bipush dX13_writesNumber_21 (by decide) ?_
    refine wq_irem dX13_writesNumber_23 (by decide) ?_
    refine wq_iadd dX13_writesNumber_24 ?_
    refine wq_cVv M_M_writes (R_M_writes Z (48 + (irm a1 10)) _) ob_26 rfl rfl (by decide) (by decide) (Nat.le_of_ble_eq_true rfl) ln_RX13_497 dX13_writesNumber_25 (fun gr11 _ J12 => ?_)
    exact wq_vret rfl rfl dX13_writesNumber_28
  refine wq_icmp_le 17 dX13_writesNumber_3 (by decide) rfl rfl (fun c5 => ?_) (fun c5 => ?_)
  · refine wq_aload_n dX13_writesNumber_6 0 rfl rfl ?_
    refine wq_bipush dX13_writesNumber_7 (by decide) ?_
    refine wq_iload_n dX13_writesNumber_9 1 rfl rfl ?_
    refine wq_bipush dX13_writesNumber_10 (by decide) ?_
    refine wq_idiv dX13_writesNumber_12 (by decide) ?_
    refine wq_iadd dX13_writesNumber_13 ?_
    refine wq_cVv M_M_writes (R_M_writes Z (48 + (idv a1 10)) _) ob_26 rfl rfl (by decide) (by decide) (Nat.le_of_ble_eq_true rfl) ln_RX13_497 dX13_writesNumber_14 (fun gr2 _ J3 => ?_)
    exact WQ.loc [0, 1] rfl (hj1 _   _)
  · exact WQ.loc [0, 1] rfl (hj1 _   _)

theorem M_M_writesNumber : MwV yX13_writesNumber cX13_writesNumber 2 (none) 1 := ⟨li_9 217 (by decide +kernel) (by decide +kernel), li_9 216 (by decide +kernel) (by decide +kernel), lw_in 135 (by decide +kernel) (by decide +kernel), li_1 16 (by decide +kernel) (by decide +kernel), by decide +kernel⟩
theorem ln_RX13_500 : Cond.methodLink RX13 500 yX13_writesNumber ∈ lw_good := li_9 214 (by decide +kernel) (by decide +kernel)
noncomputable def f_M_writesRow_w2 (v1 : Int) (s : Int) (I : Mem) : Option (((Int) ⊕ (Unit)) × Mem) :=
bnd (f_M_many v1 I) fun x3 J2 =>
if (w32 s) < (w32 x3) then
bnd (f_M_at v1 s J2) fun x6 J5 =>
if (w32 x6) < 26 then
bnd (f_M_writes (97 + x6) J5) fun _ J17 =>
some (.inl (s + 1), J17)
else
bnd (f_M_writes 40 J5) fun _ J8 =>
bnd (f_M_writesNumber (x6 - 26) J8) fun _ J11 =>
bnd (f_M_writes 41 J11) fun _ J14 =>
some (.inl (s + 1), J14)
else
some (.inr (), J2)

noncomputable def f_M_writesRow (a1 : Int) (I : Mem) : Option ((Unit) × Mem) :=
bnd (whl (f_M_writesRow_w2 a1) 0 I) fun r48 J49 =>
some ((), J49)
set_option maxRecDepth 20000 in
theorem R_M_writesRow (Z : ZT) (a1 : Int) (I : Mem) (r : Unit) (J : Mem) (hf : f_M_writesRow a1 I = some (r, J)) : Runs Z yX13_writesRow cX13_writesRow 4 (none) 3 [vr Z 26 0, vi a1] I (none, J) := by
  refine Runs.of (rv := fun _ => none) (by decide +kernel) (Nat.le_of_ble_eq_true rfl) hf (fun gr => ?_)
  unfold f_M_writesRow
  refine WQ.loc [0, 1] (lv' := [(0, vr Z 26 0), (1, vi a1)]) rfl ?_
  refine wq_iconst dX13_writesRow_0 ?_
  refine wq_istore_n (lv' := [(2, vi 0), (0, vr Z 26 0), (1, vi a1)]) dX13_writesRow_1 rfl (by decide) rfl ?_
  refine WQ.loc [1, 2, 0] (lv' := [(0, vr Z 26 0), (1, vi a1), (2, vi 0)]) rfl ?_
  refine wq_loopS (fun s27 => [(0, vr Z 26 0), (1, vi a1), (2, vi s27)]) 61 (fun _ => []) (fun κ21 bk22 ex23 gr26 s27 J25 => ?_) (fun gr50 r48 J49 => ?_) gr _ rfl
  · unfold f_M_writesRow_w2
    refine wq_iload_n dX13_writesRow_2 2 rfl rfl ?_
    refine wq_aload_n dX13_writesRow_3 0 rfl rfl ?_
    refine wq_iload_n dX13_writesRow_4 1 rfl rfl ?_
    refine wq_cVi M_M_many (R_M_many Z a1 _) ob_26 rfl rfl (by decide) (by decide) (Nat.le_of_ble_eq_true rfl) ln_RX13_103 dX13_writesRow_5 (fun gr28 x30 J29 => ?_)
    refine wq_icmp_ge 61 dX13_writesRow_8 (by decide) rfl rfl (fun c47 => ?_) (fun c47 => ?_)
    · refine wq_aload_n dX13_writesRow_11 0 rfl rfl ?_
      refine wq_iload_n dX13_writesRow_12 1 rfl rfl ?_
      refine wq_iload_n dX13_writesRow_13 2 rfl rfl ?_
      refine wq_cVi M_M_at (R_M_at Z a1 s27 _) ob_26 rfl rfl (by decide) (by decide) (Nat.le_of_ble_eq_true rfl) ln_RX13_119 dX13_writesRow_14 (fun gr31 x33 J32 => ?_)
      refine wq_istore_n (lv' := [(3, vi x33), (0, vr Z 26 0), (1, vi a1), (2, vi s27)]) dX13_writesRow_17 rfl (by decide) rfl ?_
      refine wq_iload_n dX13_writesRow_18 0 rfl rfl ?_
      refine wq_bipush dX13_writesRow_19 (by decide) ?_
      refine wq_icmp_ge 35 dX13_writesRow_21 (by decide) rfl rfl (fun c46 => ?_) (fun c46 => ?_)
      · refine wq_aload_n dX13_writesRow_24 1 rfl rfl ?_
        refine wq_bipush dX13_writesRow_25 (by decide) ?_
        refine wq_iload_n dX13_writesRow_27 0 rfl rfl ?_
        refine wq_iadd dX13_writesRow_28 ?_
        refine wq_cVv M_M_writes (R_M_writes Z (97 + x33) _) ob_26 rfl rfl (by decide) (by decide) (Nat.le_of_ble_eq_true rfl) ln_RX13_497 dX13_writesRow_29 (fun gr43 _ J44 => ?_)
        refine wq_goto 55 dX13_writesRow_32 (by decide) ?_
        refine wq_iinc (lv' := [(2, vi (s27 + 1)), (3, vi x33), (0, vr Z 26 0), (1, vi a1)]) dX13_writesRow_55 3 rfl (by decide) rfl ?_
        refine wq_goto 2 dX13_writesRow_58 (by decide) ?_
        exact WQ.loc [2, 3, 0] rfl (bk22 _ _ _)
      · refine wq_aload_n dX13_writesRow_35 1 rfl rfl ?_
        refine wq_bipush dX13_writesRow_36 (by decide) ?_
        refine wq_cVv M_M_writes (R_M_writes Z 40 _) ob_26 rfl rfl (by decide) (by decide) (Nat.le_of_ble_eq_true rfl) ln_RX13_497 dX13_writesRow_38 (fun gr34 _ J35 => ?_)
        refine wq_aload_n dX13_writesRow_41 1 rfl rfl ?_
        refine wq_iload_n dX13_writesRow_42 0 rfl rfl ?_
        refine wq_bipush dX13_writesRow_43 (by decide) ?_
        refine wq_isub dX13_writesRow_45 ?_
        refine wq_cVv M_M_writesNumber (R_M_writesNumber Z (x33 - 26) _) ob_26 rfl rfl (by decide) (by decide) (Nat.le_of_ble_eq_true rfl) ln_RX13_500 dX13_writesRow_46 (fun gr37 _ J38 => ?_)
        refine wq_aload_n dX13_writesRow_49 1 rfl rfl ?_
        refine wq_bipush dX13_writesRow_50 (by decide) ?_
        refine wq_cVv M_M_writes (R_M_writes Z 41 _) ob_26 rfl rfl (by decide) (by decide) (Nat.le_of_ble_eq_true rfl) ln_RX13_497 dX13_writesRow_52 (fun gr40 _ J41 => ?_)
        refine wq_iinc (lv' := [(2, vi (s27 + 1)), (3, vi x33), (0, vr Z 26 0), (1, vi a1)]) dX13_writesRow_55 3 rfl (by decide) rfl ?_
        refine wq_goto 2 dX13_writesRow_58 (by decide) ?_
        exact WQ.loc [2, 3, 0] rfl (bk22 _ _ _)
    · exact WQ.loc [] rfl (ex23 _ _ _)
  · exact wq_vret rfl rfl dX13_writesRow_61

theorem M_M_writesRow : MwV yX13_writesRow cX13_writesRow 4 (none) 1 := ⟨li_9 209 (by decide +kernel) (by decide +kernel), li_9 208 (by decide +kernel) (by decide +kernel), lw_in 133 (by decide +kernel) (by decide +kernel), li_1 16 (by decide +kernel) (by decide +kernel), by decide +kernel⟩
theorem ln_RX13_503 : Cond.methodLink RX13 503 yX13_writesRow ∈ lw_good := li_9 206 (by decide +kernel) (by decide +kernel)
noncomputable def f_M_report_w17  (s : Int) (I : Mem) : Option (((Int) ⊕ (Unit)) × Mem) :=
if (w32 s) < 40 then
bnd (f_M_isHere s I) fun x8 J7 =>
if (w32 x8) = 0 then
some (.inl (s + 1), J7)
else
bnd (f_M_writes 32 J7) fun _ J10 =>
bnd (f_M_writesNumber s J10) fun _ J13 =>
bnd (f_M_writes 61 J13) fun _ J16 =>
bnd (f_M_writesRow (s + 1) J16) fun _ J19 =>
some (.inl (s + 1), J19)
else
some (.inr (), I)

noncomputable def f_M_report  (I : Mem) : Option ((Int) × Mem) :=
ltI (sI I 26 0 7 0) fun J1 =>
ltI (sI J1 26 0 43 0) fun J2 =>
bnd (f_M_writesRow 0 J2) fun _ J4 =>
bnd (whl (f_M_report_w17) 0 J4) fun r47 J48 =>
some ((J48 26 0 43), J48)
set_option maxRecDepth 20000 in
theorem R_M_report (Z : ZT)  (I : Mem) (r : Int) (J : Mem) (hf : f_M_report I = some (r, J)) : Runs Z yX13_report cX13_report 2 (some .int) 4 [vr Z 26 0] I (some (vi r), J) := by
  refine Runs.of (rv := fun x => some (vi x)) (by decide +kernel) (Nat.le_of_ble_eq_true rfl) hf (fun gr => ?_)
  unfold f_M_report
  refine WQ.loc [0] (lv' := [(0, vr Z 26 0)]) rfl ?_
  refine wq_aload_n dX13_report_0 0 rfl rfl ?_
  refine wq_iconst dX13_report_1 ?_
  refine p_26_7 ln_RX13_100 dX13_report_2 (fun J1 => ?_)
  refine wq_aload_n dX13_report_5 0 rfl rfl ?_
  refine wq_iconst dX13_report_6 ?_
  refine p_26_43 ln_RX13_494 dX13_report_7 (fun J2 => ?_)
  refine wq_aload_n dX13_report_10 0 rfl rfl ?_
  refine wq_iconst dX13_report_11 ?_
  refine wq_cVv M_M_writesRow (R_M_writesRow Z 0 _) ob_26 rfl rfl (by decide) (by decide) (Nat.le_of_ble_eq_true rfl) ln_RX13_503 dX13_report_12 (fun gr3 _ J4 => ?_)
  refine wq_iconst dX13_report_15 ?_
  refine wq_istore_n (lv' := [(1, vi 0), (0, vr Z 26 0)]) dX13_report_16 rfl (by decide) rfl ?_
  refine WQ.loc [1, 0] (lv' := [(0, vr Z 26 0), (1, vi 0)]) rfl ?_
  refine wq_loopS (fun s29 => [(0, vr Z 26 0), (1, vi s29)]) 64 (fun _ => [(0, vr Z 26 0)]) (fun κ23 bk24 ex25 gr28 s29 J27 => ?_) (fun gr49 r47 J48 => ?_) gr3 _ rfl
  · unfold f_M_report_w17
    refine wq_iload_n dX13_report_17 1 rfl rfl ?_
    refine wq_bipush dX13_report_18 (by decide) ?_
    refine wq_icmp_ge 64 dX13_report_20 (by decide) rfl rfl (fun c46 => ?_) (fun c46 => ?_)
    · refine wq_aload_n dX13_report_23 0 rfl rfl ?_
      refine wq_iload_n dX13_report_24 1 rfl rfl ?_
      refine wq_cVi M_M_isHere (R_M_isHere Z s29 _) ob_26 rfl rfl (by decide) (by decide) (Nat.le_of_ble_eq_true rfl) ln_RX13_111 dX13_report_25 (fun gr30 x32 J31 => ?_)
      refine wq_if_ne 34 dX13_report_28 (by decide) rfl (fun c45 => ?_) (fun c45 => ?_)
      · refine wq_goto 58 dX13_report_31 (by decide) ?_
        refine wq_iinc (lv' := [(1, vi (s29 + 1)), (0, vr Z 26 0)]) dX13_report_58 1 rfl (by decide) rfl ?_
        refine wq_goto 17 dX13_report_61 (by decide) ?_
        exact WQ.loc [1, 0] rfl (bk24 _ _ _)
      · refine wq_aload_n dX13_report_34 0 rfl rfl ?_
        refine wq_bipush dX13_report_35 (by decide) ?_
        refine wq_cVv M_M_writes (R_M_writes Z 32 _) ob_26 rfl rfl (by decide) (by decide) (Nat.le_of_ble_eq_true rfl) ln_RX13_497 dX13_report_37 (fun gr33 _ J34 => ?_)
        refine wq_aload_n dX13_report_40 0 rfl rfl ?_
        refine wq_iload_n dX13_report_41 1 rfl rfl ?_
        refine wq_cVv M_M_writesNumber (R_M_writesNumber Z s29 _) ob_26 rfl rfl (by decide) (by decide) (Nat.le_of_ble_eq_true rfl) ln_RX13_500 dX13_report_42 (fun gr36 _ J37 => ?_)
        refine wq_aload_n dX13_report_45 0 rfl rfl ?_
        refine wq_bipush dX13_report_46 (by decide) ?_
        refine wq_cVv M_M_writes (R_M_writes Z 61 _) ob_26 rfl rfl (by decide) (by decide) (Nat.le_of_ble_eq_true rfl) ln_RX13_497 dX13_report_48 (fun gr39 _ J40 => ?_)
        refine wq_aload_n dX13_report_51 0 rfl rfl ?_
        refine wq_iload_n dX13_report_52 1 rfl rfl ?_
        refine wq_iconst dX13_report_53 ?_
        refine wq_iadd dX13_report_54 ?_
        refine wq_cVv M_M_writesRow (R_M_writesRow Z (s29 + 1) _) ob_26 rfl rfl (by decide) (by decide) (Nat.le_of_ble_eq_true rfl) ln_RX13_503 dX13_report_55 (fun gr42 _ J43 => ?_)
        refine wq_iinc (lv' := [(1, vi (s29 + 1)), (0, vr Z 26 0)]) dX13_report_58 1 rfl (by decide) rfl ?_
        refine wq_goto 17 dX13_report_61 (by decide) ?_
        exact WQ.loc [1, 0] rfl (bk24 _ _ _)
    · exact WQ.loc [0] rfl (ex25 _ _ _)
  · refine wq_aload_n dX13_report_64 0 rfl rfl ?_
    refine g_26_43 ln_RX13_494 dX13_report_65 ?_
    exact wq_iret rfl rfl dX13_report_68

noncomputable def f_M_reportByte (a1 : Int) (I : Mem) : Option ((Int) × Mem) :=
ltI (sI I 26 0 7 0) fun J1 =>
bnd (f_M_in a1 0 ((J1 26 0 43) - 1) J1) fun x4 J3 =>
if (w32 x4) = 0 then
some ((-1), J3)
else
if 0 ≤ (w32 a1) ∧ (w32 a1) < 70000 then
some ((J3 27 22 (w32 a1).toNat), J3)
else none
set_option maxRecDepth 20000 in
theorem R_M_reportByte (Z : ZT) (a1 : Int) (I : Mem) (r : Int) (J : Mem) (hf : f_M_reportByte a1 I = some (r, J)) : Runs Z yX13_reportByte cX13_reportByte 2 (some .int) 2 [vr Z 26 0, vi a1] I (some (vi r), J) := by
  refine Runs.of (rv := fun x => some (vi x)) (by decide +kernel) (Nat.le_of_ble_eq_true rfl) hf (fun gr => ?_)
  unfold f_M_reportByte
  refine WQ.loc [0, 1] (lv' := [(0, vr Z 26 0), (1, vi a1)]) rfl ?_
  refine wq_aload_n dX13_reportByte_0 0 rfl rfl ?_
  refine wq_iconst dX13_reportByte_1 ?_
  refine p_26_7 ln_RX13_100 dX13_reportByte_2 (fun J1 => ?_)
  refine wq_iload_n dX13_reportByte_5 1 rfl rfl ?_
  refine wq_iconst dX13_reportByte_6 ?_
  refine wq_aload_n dX13_reportByte_7 0 rfl rfl ?_
  refine g_26_43 ln_RX13_494 dX13_reportByte_8 ?_
  refine wq_iconst dX13_reportByte_11 ?_
  refine wq_isub dX13_reportByte_12 ?_
  refine wq_cSi M_M_in (R_M_in Z a1 0 ((J1 26 0 43) - 1) _) rfl rfl rfl (by decide) (by decide) (Nat.le_of_ble_eq_true rfl) ln_RX13_224 dX13_reportByte_13 (fun gr2 x4 J3 => ?_)
  refine wq_if_eq 28 dX13_reportByte_16 (by decide) rfl (fun c6 => ?_) (fun c6 => ?_)
  · refine wq_iconst dX13_reportByte_28 ?_
    exact wq_iret rfl rfl dX13_reportByte_29
  · refine wq_aload_n dX13_reportByte_19 0 rfl rfl ?_
    refine g_26_42 ln_RX13_87 dX13_reportByte_20 ?_
    refine wq_iload_n dX13_reportByte_23 1 rfl rfl ?_
    refine wq_grd (fun g5 => ?_)
    refine wq_iald (k := 27) (i := 22) rfl (by decide) rfl rfl (m := 70000) g5 (Nat.le_of_ble_eq_true rfl) dX13_reportByte_24 ?_
    refine wq_goto 29 dX13_reportByte_25 (by decide) ?_
    exact wq_iret rfl rfl dX13_reportByte_29

noncomputable def f_M_undo  (I : Mem) : Option ((Int) × Mem) :=
ltI (sI I 26 0 7 0) fun J1 =>
bnd (f_M_fails (if (w32 (J1 26 0 6)) = 0 then 1 else 0) 1 J1) fun x4 J3 =>
if (w32 x4) = 0 then
ltI (sI J3 26 0 6 ((J3 26 0 6) - 1)) fun J5 =>
bnd (f_M_lays 3 (16860 * (J5 26 0 6)) 0 0 J5) fun _ J7 =>
some ((J7 26 0 6), J7)
else
some (0, J3)
set_option maxRecDepth 20000 in
theorem R_M_undo (Z : ZT)  (I : Mem) (r : Int) (J : Mem) (hf : f_M_undo I = some (r, J)) : Runs Z yX13_undo cX13_undo 1 (some .int) 2 [vr Z 26 0] I (some (vi r), J) := by
  refine Runs.of (rv := fun x => some (vi x)) (by decide +kernel) (Nat.le_of_ble_eq_true rfl) hf (fun gr => ?_)
  unfold f_M_undo
  refine WQ.loc [0] (lv' := [(0, vr Z 26 0)]) rfl ?_
  refine wq_aload_n dX13_undo_0 0 rfl rfl ?_
  refine wq_iconst dX13_undo_1 ?_
  refine p_26_7 ln_RX13_100 dX13_undo_2 (fun J1 => ?_)
  refine wq_aload_n dX13_undo_5 0 rfl rfl ?_
  refine wq_aload_n dX13_undo_6 0 rfl rfl ?_
  refine g_26_6 ln_RX13_342 dX13_undo_7 ?_
  refine WQ.via 18 [vi (if (w32 (J1 26 0 6)) = 0 then 1 else 0), vr Z 26 0] (by
      refine wq_iconst dX13_undo_18 ?_
      refine wq_cVi M_M_fails (R_M_fails Z (if (w32 (J1 26 0 6)) = 0 then 1 else 0) 1 _) ob_26 rfl rfl (by decide) (by decide) (Nat.le_of_ble_eq_true rfl) ln_RX13_428 dX13_undo_19 (fun gr2 x4 J3 => ?_)
      refine wq_if_eq 27 dX13_undo_22 (by decide) rfl (fun c9 => ?_) (fun c9 => ?_)
      · refine wq_aload_n dX13_undo_27 0 rfl rfl ?_
        refine wq_dup dX13_undo_28 rfl ?_
        refine g_26_6 ln_RX13_342 dX13_undo_29 ?_
        refine wq_iconst dX13_undo_32 ?_
        refine wq_isub dX13_undo_33 ?_
        refine p_26_6 ln_RX13_342 dX13_undo_34 (fun J5 => ?_)
        refine wq_aload_n dX13_undo_37 0 rfl rfl ?_
        refine g_26_3 ln_RX13_20 dX13_undo_38 ?_
        refine wq_sipush dX13_undo_41 (by decide) ?_
        refine wq_aload_n dX13_undo_44 0 rfl rfl ?_
        refine g_26_6 ln_RX13_342 dX13_undo_45 ?_
        refine wq_imul dX13_undo_48 ?_
        refine wq_aload_n dX13_undo_49 0 rfl rfl ?_
        refine g_26_0 ln_RX13_9 dX13_undo_50 ?_
        refine wq_iconst dX13_undo_53 ?_
        refine wq_cSv M_M_lays (R_M_lays Z 3 (16860 * (J5 26 0 6)) 0 0 _) rfl rfl rfl (by decide) (by decide) (Nat.le_of_ble_eq_true rfl) ln_RX13_208 dX13_undo_54 (fun gr6 _ J7 => ?_)
        refine wq_aload_n dX13_undo_57 0 rfl rfl ?_
        refine g_26_6 ln_RX13_342 dX13_undo_58 ?_
        exact wq_iret rfl rfl dX13_undo_61
      · refine wq_iconst dX13_undo_25 ?_
        exact wq_iret rfl rfl dX13_undo_26) (fun hj10 => ?_)
  refine WQ.both ((w32 (J1 26 0 6)) = 0) ?_
  refine wq_if_ne 17 dX13_undo_10 (by decide) rfl (fun c11 => ?_) (fun c11 => ?_)
  · refine wq_iconst dX13_undo_13 ?_
    refine wq_goto 18 dX13_undo_14 (by decide) ?_
    exact WQ.top (if_pos c11) hj10
  · refine wq_iconst dX13_undo_17 ?_
    exact WQ.top (if_neg c11) hj10

noncomputable def f_M_noSlot (a1 : Int) (I : Mem) : Option ((Int) × Mem) :=
bnd (f_M_in a1 0 1 I) fun x3 J2 =>
bnd (f_M_fails (if (w32 x3) = 0 then 1 else 0) 1 J2) fun x6 J5 =>
if x6 = 0 ∨ x6 = 1 then
some (x6, J5)
else none
set_option maxRecDepth 20000 in
theorem R_M_noSlot (Z : ZT) (a1 : Int) (I : Mem) (r : Int) (J : Mem) (hf : f_M_noSlot a1 I = some (r, J)) : Runs Z yX13_noSlot cX13_noSlot 2 (some .boolean) 2 [vr Z 26 0, vi a1] I (some (vi r), J) := by
  refine Runs.of (rv := fun x => some (vi x)) (by decide +kernel) (Nat.le_of_ble_eq_true rfl) hf (fun gr => ?_)
  unfold f_M_noSlot
  refine WQ.loc [0, 1] (lv' := [(0, vr Z 26 0), (1, vi a1)]) rfl ?_
  refine wq_aload_n dX13_noSlot_0 0 rfl rfl ?_
  refine wq_iload_n dX13_noSlot_1 1 rfl rfl ?_
  refine wq_iconst dX13_noSlot_2 ?_
  refine wq_iconst dX13_noSlot_3 ?_
  refine wq_cSi M_M_in (R_M_in Z a1 0 1 _) rfl rfl rfl (by decide) (by decide) (Nat.le_of_ble_eq_true rfl) ln_RX13_224 dX13_noSlot_4 (fun gr1 x3 J2 => ?_)
  refine WQ.via 15 [vi (if (w32 x3) = 0 then 1 else 0), vr Z 26 0] (by
      refine wq_iconst dX13_noSlot_15 ?_
      refine wq_cVi M_M_fails (R_M_fails Z (if (w32 x3) = 0 then 1 else 0) 1 _) ob_26 rfl rfl (by decide) (by decide) (Nat.le_of_ble_eq_true rfl) ln_RX13_428 dX13_noSlot_16 (fun gr4 x6 J5 => ?_)
      refine wq_grd (fun g7 => ?_)
      exact wq_zret rfl g7 rfl dX13_noSlot_19) (fun hj8 => ?_)
  refine WQ.both ((w32 x3) = 0) ?_
  refine wq_if_ne 14 dX13_noSlot_7 (by decide) rfl (fun c9 => ?_) (fun c9 => ?_)
  · refine wq_iconst dX13_noSlot_10 ?_
    refine wq_goto 15 dX13_noSlot_11 (by decide) ?_
    exact WQ.top (if_pos c9) hj8
  · refine wq_iconst dX13_noSlot_14 ?_
    exact WQ.top (if_neg c9) hj8

theorem M_M_noSlot : MwV yX13_noSlot cX13_noSlot 2 (some .boolean) 1 := ⟨li_9 233 (by decide +kernel) (by decide +kernel), li_9 232 (by decide +kernel) (by decide +kernel), lw_in 136 (by decide +kernel) (by decide +kernel), li_1 16 (by decide +kernel) (by decide +kernel), by decide +kernel⟩
theorem ln_RX13_24 : Cond.fieldLink RX13 24 RX13 "kept" "[I" ∈ lw_good := li_7 58 (by decide +kernel) (by decide +kernel)
theorem ln_RX13_506 : Cond.methodLink RX13 506 yX13_noSlot ∈ lw_good := li_9 230 (by decide +kernel) (by decide +kernel)
noncomputable def f_M_save (a1 : Int) (I : Mem) : Option ((Int) × Mem) :=
ltI (sI I 26 0 7 0) fun J1 =>
bnd (f_M_noSlot a1 J1) fun x4 J3 =>
if (w32 x4) = 0 then
bnd (f_M_lays 0 0 4 (16860 * a1) J3) fun _ J6 =>
if 0 ≤ (w32 a1) ∧ (w32 a1) < 2 then
ltI (sI J6 28 0 (w32 a1).toNat 1) fun J9 =>
bnd (f_M_sizeNow J9) fun x12 J11 =>
some (x12, J11)
else none
else
some (0, J3)
set_option maxRecDepth 20000 in
theorem R_M_save (Z : ZT) (a1 : Int) (I : Mem) (r : Int) (J : Mem) (hf : f_M_save a1 I = some (r, J)) : Runs Z yX13_save cX13_save 2 (some .int) 3 [vr Z 26 0, vi a1] I (some (vi r), J) := by
  refine Runs.of (rv := fun x => some (vi x)) (by decide +kernel) (Nat.le_of_ble_eq_true rfl) hf (fun gr => ?_)
  unfold f_M_save
  refine WQ.loc [0, 1] (lv' := [(0, vr Z 26 0), (1, vi a1)]) rfl ?_
  refine wq_aload_n dX13_save_0 0 rfl rfl ?_
  refine wq_iconst dX13_save_1 ?_
  refine p_26_7 ln_RX13_100 dX13_save_2 (fun J1 => ?_)
  refine wq_aload_n dX13_save_5 0 rfl rfl ?_
  refine wq_iload_n dX13_save_6 1 rfl rfl ?_
  refine wq_cVi M_M_noSlot (R_M_noSlot Z a1 _) ob_26 rfl rfl (by decide) (by decide) (Nat.le_of_ble_eq_true rfl) ln_RX13_506 dX13_save_7 (fun gr2 x4 J3 => ?_)
  refine wq_if_eq 15 dX13_save_10 (by decide) rfl (fun c13 => ?_) (fun c13 => ?_)
  · refine wq_aload_n dX13_save_15 0 rfl rfl ?_
    refine g_26_0 ln_RX13_9 dX13_save_16 ?_
    refine wq_iconst dX13_save_19 ?_
    refine wq_aload_n dX13_save_20 0 rfl rfl ?_
    refine g_26_4 ln_RX13_24 dX13_save_21 ?_
    refine wq_sipush dX13_save_24 (by decide) ?_
    refine wq_iload_n dX13_save_27 1 rfl rfl ?_
    refine wq_imul dX13_save_28 ?_
    refine wq_cSv M_M_lays (R_M_lays Z 0 0 4 (16860 * a1) _) rfl rfl rfl (by decide) (by decide) (Nat.le_of_ble_eq_true rfl) ln_RX13_208 dX13_save_29 (fun gr5 _ J6 => ?_)
    refine wq_aload_n dX13_save_32 0 rfl rfl ?_
    refine g_26_5 ln_RX13_27 dX13_save_33 ?_
    refine wq_iload_n dX13_save_36 1 rfl rfl ?_
    refine wq_iconst dX13_save_37 ?_
    refine wq_grd (fun g8 => ?_)
    refine wq_zast (k := 28) (i := 0) (fun _ => rfl) (by decide) rfl rfl (m := 2) g8 (Nat.le_refl _) rfl (by decide) (by decide) (by decide) dX13_save_38 (fun J9 => ?_)
    refine wq_aload_n dX13_save_39 0 rfl rfl ?_
    refine wq_cVi M_M_sizeNow (R_M_sizeNow Z _) ob_26 rfl rfl (by decide) (by decide) (Nat.le_of_ble_eq_true rfl) ln_RX13_431 dX13_save_40 (fun gr10 x12 J11 => ?_)
    exact wq_iret rfl rfl dX13_save_43
  · refine wq_iconst dX13_save_13 ?_
    exact wq_iret rfl rfl dX13_save_14

noncomputable def f_M_restore (a1 : Int) (I : Mem) : Option ((Int) × Mem) :=
ltI (sI I 26 0 7 0) fun J1 =>
bnd (f_M_noSlot a1 J1) fun x4 J3 =>
if (w32 x4) = 0 then
if 0 ≤ (w32 a1) ∧ (w32 a1) < 2 then
bnd (f_M_fails (if (w32 (J3 28 0 (w32 a1).toNat)) = 0 then 1 else 0) 2 J3) fun x8 J7 =>
if (w32 x8) = 0 then
bnd (f_M_lays 4 (16860 * a1) 0 0 J7) fun _ J10 =>
ltI (sI J10 26 0 6 0) fun J12 =>
bnd (f_M_sizeNow J12) fun x15 J14 =>
some (x15, J14)
else
some (0, J7)
else none
else
some (0, J3)
set_option maxRecDepth 20000 in
theorem R_M_restore (Z : ZT) (a1 : Int) (I : Mem) (r : Int) (J : Mem) (hf : f_M_restore a1 I = some (r, J)) : Runs Z yX13_restore cX13_restore 2 (some .int) 3 [vr Z 26 0, vi a1] I (some (vi r), J) := by
  refine Runs.of (rv := fun x => some (vi x)) (by decide +kernel) (Nat.le_of_ble_eq_true rfl) hf (fun gr => ?_)
  unfold f_M_restore
  refine WQ.loc [0, 1] (lv' := [(0, vr Z 26 0), (1, vi a1)]) rfl ?_
  refine wq_aload_n dX13_restore_0 0 rfl rfl ?_
  refine wq_iconst dX13_restore_1 ?_
  refine p_26_7 ln_RX13_100 dX13_restore_2 (fun J1 => ?_)
  refine wq_aload_n dX13_restore_5 0 rfl rfl ?_
  refine wq_iload_n dX13_restore_6 1 rfl rfl ?_
  refine wq_cVi M_M_noSlot (R_M_noSlot Z a1 _) ob_26 rfl rfl (by decide) (by decide) (Nat.le_of_ble_eq_true rfl) ln_RX13_506 dX13_restore_7 (fun gr2 x4 J3 => ?_)
  refine wq_if_ne 35 dX13_restore_10 (by decide) rfl (fun c19 => ?_) (fun c19 => ?_)
  · refine wq_aload_n dX13_restore_13 0 rfl rfl ?_
    refine wq_aload_n dX13_restore_14 0 rfl rfl ?_
    refine g_26_5 ln_RX13_27 dX13_restore_15 ?_
    refine wq_iload_n dX13_restore_18 1 rfl rfl ?_
    refine wq_grd (fun g5 => ?_)
    refine wq_zald (k := 28) (i := 0) rfl (by decide) rfl rfl (m := 2) g5 (Nat.le_refl _) dX13_restore_19 ?_
    refine WQ.via 28 [vi (if (w32 (J3 28 0 (w32 a1).toNat)) = 0 then 1 else 0), vr Z 26 0] (by
        refine wq_iconst dX13_restore_28 ?_
        refine wq_cVi M_M_fails (R_M_fails Z (if (w32 (J3 28 0 (w32 a1).toNat)) = 0 then 1 else 0) 2 _) ob_26 rfl rfl (by decide) (by decide) (Nat.le_of_ble_eq_true rfl) ln_RX13_428 dX13_restore_29 (fun gr6 x8 J7 => ?_)
        refine wq_if_eq 37 dX13_restore_32 (by decide) rfl (fun c16 => ?_) (fun c16 => ?_)
        · refine wq_aload_n dX13_restore_37 0 rfl rfl ?_
          refine g_26_4 ln_RX13_24 dX13_restore_38 ?_
          refine wq_sipush dX13_restore_41 (by decide) ?_
          refine wq_iload_n dX13_restore_44 1 rfl rfl ?_
          refine wq_imul dX13_restore_45 ?_
          refine wq_aload_n dX13_restore_46 0 rfl rfl ?_
          refine g_26_0 ln_RX13_9 dX13_restore_47 ?_
          refine wq_iconst dX13_restore_50 ?_
          refine wq_cSv M_M_lays (R_M_lays Z 4 (16860 * a1) 0 0 _) rfl rfl rfl (by decide) (by decide) (Nat.le_of_ble_eq_true rfl) ln_RX13_208 dX13_restore_51 (fun gr9 _ J10 => ?_)
          refine wq_aload_n dX13_restore_54 0 rfl rfl ?_
          refine wq_iconst dX13_restore_55 ?_
          refine p_26_6 ln_RX13_342 dX13_restore_56 (fun J12 => ?_)
          refine wq_aload_n dX13_restore_59 0 rfl rfl ?_
          refine wq_cVi M_M_sizeNow (R_M_sizeNow Z _) ob_26 rfl rfl (by decide) (by decide) (Nat.le_of_ble_eq_true rfl) ln_RX13_431 dX13_restore_60 (fun gr13 x15 J14 => ?_)
          exact wq_iret rfl rfl dX13_restore_63
        · refine wq_iconst dX13_restore_35 ?_
          exact wq_iret rfl rfl dX13_restore_36) (fun hj17 => ?_)
    refine WQ.both ((w32 (J3 28 0 (w32 a1).toNat)) = 0) ?_
    refine wq_if_ne 27 dX13_restore_20 (by decide) rfl (fun c18 => ?_) (fun c18 => ?_)
    · refine wq_iconst dX13_restore_23 ?_
      refine wq_goto 28 dX13_restore_24 (by decide) ?_
      exact WQ.top (if_pos c18) hj17
    · refine wq_iconst dX13_restore_27 ?_
      exact WQ.top (if_neg c18) hj17
  · refine wq_iconst dX13_restore_35 ?_
    exact wq_iret rfl rfl dX13_restore_36

noncomputable def f_M_appendsWord_w5 (v1 : Int) (v2 : Int) (s : Int × Int) (I : Mem) : Option (((Int × Int) ⊕ (Int)) × Mem) :=
if (w32 s.2) < (w32 v2) then
if (w32 s.1) < 0 then
some (.inr s.1, I)
else
if 0 ≤ (w32 (v1 + s.2)) ∧ (w32 (v1 + s.2)) < 600 then
bnd (f_M_appendNow ((I 27 14 (w32 (v1 + s.2)).toNat) - 97) I) fun x4 J3 =>
some (.inl (x4, (s.2 + 1)), J3)
else none
else
some (.inr s.1, I)

noncomputable def f_M_appendsWord (a1 : Int) (a2 : Int) (I : Mem) : Option ((Int) × Mem) :=
bnd (whl (f_M_appendsWord_w5 a1 a2) (0, 0) I) fun r20 J21 =>
some (r20, J21)
set_option maxRecDepth 20000 in
theorem R_M_appendsWord (Z : ZT) (a1 : Int) (a2 : Int) (I : Mem) (r : Int) (J : Mem) (hf : f_M_appendsWord a1 a2 I = some (r, J)) : Runs Z yX13_appendsWord cX13_appendsWord 5 (some .int) 4 [vr Z 26 0, vi a1, vi a2] I (some (vi r), J) := by
  refine Runs.of (rv := fun x => some (vi x)) (by decide +kernel) (Nat.le_of_ble_eq_true rfl) hf (fun gr => ?_)
  unfold f_M_appendsWord
  refine WQ.loc [0, 1, 2] (lv' := [(0, vr Z 26 0), (1, vi a1), (2, vi a2)]) rfl ?_
  refine wq_iconst dX13_appendsWord_0 ?_
  refine wq_istore_n (lv' := [(3, vi 0), (0, vr Z 26 0), (1, vi a1), (2, vi a2)]) dX13_appendsWord_1 rfl (by decide) rfl ?_
  refine wq_iconst dX13_appendsWord_2 ?_
  refine wq_istore (lv' := [(4, vi 0), (3, vi 0), (0, vr Z 26 0), (1, vi a1), (2, vi a2)]) dX13_appendsWord_3 (by decide) rfl ?_
  refine WQ.loc [2, 3, 4, 1, 0] (lv' := [(0, vr Z 26 0), (1, vi a1), (2, vi a2), (3, vi 0), (4, vi 0)]) rfl ?_
  refine wq_loopS (fun s13 => [(0, vr Z 26 0), (1, vi a1), (2, vi a2), (3, vi s13.1), (4, vi s13.2)]) 38 (fun r20 => [(3, vi r20)]) (fun κ7 bk8 ex9 gr12 s13 J11 => ?_) (fun gr22 r20 J21 => ?_) gr _ rfl
  · unfold f_M_appendsWord_w5
    refine wq_iload dX13_appendsWord_5 4 rfl ?_
    refine wq_iload_n dX13_appendsWord_7 2 rfl rfl ?_
    refine wq_icmp_ge 38 dX13_appendsWord_8 (by decide) rfl rfl (fun c19 => ?_) (fun c19 => ?_)
    · refine wq_iload_n dX13_appendsWord_11 3 rfl rfl ?_
      refine wq_if_lt 38 dX13_appendsWord_12 (by decide) rfl (fun c18 => ?_) (fun c18 => ?_)
      · exact WQ.loc [3] rfl (ex9 _ _ _)
      · refine wq_aload_n dX13_appendsWord_15 0 rfl rfl ?_
        refine wq_aload_n dX13_appendsWord_16 0 rfl rfl ?_
        refine g_26_19 ln_RX13_58 dX13_appendsWord_17 ?_
        refine wq_iload_n dX13_appendsWord_20 1 rfl rfl ?_
        refine wq_iload dX13_appendsWord_21 4 rfl ?_
        refine wq_iadd dX13_appendsWord_23 ?_
        refine wq_grd (fun g14 => ?_)
        refine wq_iald (k := 27) (i := 14) rfl (by decide) rfl rfl (m := 600) g14 (Nat.le_of_ble_eq_true rfl) dX13_appendsWord_24 ?_
        refine wq_bipush dX13_appendsWord_25 (by decide) ?_
        refine wq_isub dX13_appendsWord_27 ?_
        refine wq_cVi M_M_appendNow (R_M_appendNow Z ((J11 27 14 (w32 (a1 + s13.2)).toNat) - 97) _) ob_26 rfl rfl (by decide) (by decide) (Nat.le_of_ble_eq_true rfl) ln_RX13_388 dX13_appendsWord_28 (fun gr15 x17 J16 => ?_)
        refine wq_istore_n (lv' := [(3, vi x17), (0, vr Z 26 0), (1, vi a1), (2, vi a2), (4, vi s13.2)]) dX13_appendsWord_31 rfl (by decide) rfl ?_
        refine wq_iinc (lv' := [(4, vi (s13.2 + 1)), (3, vi x17), (0, vr Z 26 0), (1, vi a1), (2, vi a2)]) dX13_appendsWord_32 4 rfl (by decide) rfl ?_
        refine wq_goto 5 dX13_appendsWord_35 (by decide) ?_
        exact WQ.loc [2, 3, 4, 1, 0] rfl (bk8 _ _ _)
    · exact WQ.loc [3] rfl (ex9 _ _ _)
  · refine wq_iload_n dX13_appendsWord_38 0 rfl rfl ?_
    exact wq_iret rfl rfl dX13_appendsWord_39

theorem M_M_appendsWord : MwV yX13_appendsWord cX13_appendsWord 5 (some .int) 2 := ⟨li_8 219 (by decide +kernel) (by decide +kernel), li_8 218 (by decide +kernel) (by decide +kernel), lw_in 110 (by decide +kernel) (by decide +kernel), li_1 16 (by decide +kernel) (by decide +kernel), by decide +kernel⟩
theorem ln_RX13_400 : Cond.methodLink RX13 400 yX13_appendsWord ∈ lw_good := li_8 216 (by decide +kernel) (by decide +kernel)
noncomputable def f_M_does (a1 : Int) (I : Mem) : Option ((Int) × Mem) :=
if 0 ≤ (w32 a1) ∧ (w32 a1) < 64 then
if (w32 (I 27 15 (w32 a1).toNat)) = 10 then
bnd (f_M_stepsMany (I 27 16 (w32 a1).toNat) I) fun x4 J3 =>
some (x4, J3)
else if (w32 (I 27 15 (w32 a1).toNat)) = 11 then
bnd (f_M_inlines I) fun x8 J7 =>
some (x8, J7)
else if (w32 (I 27 15 (w32 a1).toNat)) = 12 then
if 0 ≤ (w32 (I 27 16 (w32 a1).toNat)) ∧ (w32 (I 27 16 (w32 a1).toNat)) < 600 then
if 0 ≤ (w32 ((I 27 16 (w32 a1).toNat) + 1)) ∧ (w32 ((I 27 16 (w32 a1).toNat) + 1)) < 600 then
bnd (f_M_makeNow ((I 27 14 (w32 (I 27 16 (w32 a1).toNat)).toNat) - 97) ((I 27 14 (w32 ((I 27 16 (w32 a1).toNat) + 1)).toNat) - 97) I) fun x14 J13 =>
some (x14, J13)
else none
else none
else if (w32 (I 27 15 (w32 a1).toNat)) = 13 then
bnd (f_M_expandNow (I 27 16 (w32 a1).toNat) I) fun x18 J17 =>
some (x18, J17)
else if (w32 (I 27 15 (w32 a1).toNat)) = 14 then
bnd (f_M_appendsWord (I 27 16 (w32 a1).toNat) (I 27 17 (w32 a1).toNat) I) fun x22 J21 =>
some (x22, J21)
else if (w32 (I 27 15 (w32 a1).toNat)) = 15 then
bnd (f_M_cutNow (I 27 16 (w32 a1).toNat) I) fun x26 J25 =>
some (x26, J25)
else bnd (f_M_setNow (I 27 15 (w32 a1).toNat) (I 27 16 (w32 a1).toNat) I) fun x30 J29 =>
some (x30, J29)
else none
set_option maxRecDepth 20000 in
theorem R_M_does (Z : ZT) (a1 : Int) (I : Mem) (r : Int) (J : Mem) (hf : f_M_does a1 I = some (r, J)) : Runs Z yX13_does cX13_does 3 (some .int) 8 [vr Z 26 0, vi a1] I (some (vi r), J) := by
  refine Runs.of (rv := fun x => some (vi x)) (by decide +kernel) (Nat.le_of_ble_eq_true rfl) hf (fun gr => ?_)
  unfold f_M_does
  refine WQ.loc [0, 1] (lv' := [(0, vr Z 26 0), (1, vi a1)]) rfl ?_
  refine wq_aload_n dX13_does_0 0 rfl rfl ?_
  refine g_26_33 ln_RX13_68 dX13_does_1 ?_
  refine wq_iload_n dX13_does_4 1 rfl rfl ?_
  refine wq_grd (fun g1 => ?_)
  refine wq_iald (k := 27) (i := 16) rfl (by decide) rfl rfl (m := 64) g1 (Nat.le_of_ble_eq_true rfl) dX13_does_5 ?_
  refine wq_istore_n (lv' := [(2, vi (I 27 16 (w32 a1).toNat)), (0, vr Z 26 0), (1, vi a1)]) dX13_does_6 rfl (by decide) rfl ?_
  refine wq_aload_n dX13_does_7 1 rfl rfl ?_
  refine g_26_32 ln_RX13_65 dX13_does_8 ?_
  refine wq_iload_n dX13_does_11 2 rfl rfl ?_
  refine wq_iald (k := 27) (i := 15) rfl (by decide) rfl rfl (m := 64) g1 (Nat.le_of_ble_eq_true rfl) dX13_does_12 ?_
  refine WQ.split (fun c5 => ?_) (fun c5 => ?_)
  · refine wq_tin (n := 10) 52 dX13_does_13 rfl c5 (by decide) (by decide) rfl (by decide) ?_
    refine wq_aload_n dX13_does_52 1 rfl rfl ?_
    refine wq_iload_n dX13_does_53 0 rfl rfl ?_
    refine wq_cVi M_M_stepsMany (R_M_stepsMany Z (I 27 16 (w32 a1).toNat) _) ob_26 rfl rfl (by decide) (by decide) (Nat.le_of_ble_eq_true rfl) ln_RX13_391 dX13_does_54 (fun gr2 x4 J3 => ?_)
    exact wq_iret rfl rfl dX13_does_57
  · skip
    refine WQ.split (fun c9 => ?_) (fun c9 => ?_)
    · refine wq_tin (n := 11) 58 dX13_does_13 rfl c9 (by decide) (by decide) rfl (by decide) ?_
      refine wq_aload_n dX13_does_58 1 rfl rfl ?_
      refine wq_cVi M_M_inlines (R_M_inlines Z _) ob_26 rfl rfl (by decide) (by decide) (Nat.le_of_ble_eq_true rfl) ln_RX13_201 dX13_does_59 (fun gr6 x8 J7 => ?_)
      exact wq_iret rfl rfl dX13_does_62
    · skip
      refine WQ.split (fun c15 => ?_) (fun c15 => ?_)
      · refine wq_tin (n := 12) 63 dX13_does_13 rfl c15 (by decide) (by decide) rfl (by decide) ?_
        refine wq_aload_n dX13_does_63 1 rfl rfl ?_
        refine wq_aload_n dX13_does_64 1 rfl rfl ?_
        refine g_26_19 ln_RX13_58 dX13_does_65 ?_
        refine wq_iload_n dX13_does_68 0 rfl rfl ?_
        refine wq_grd (fun g10 => ?_)
        refine wq_iald (k := 27) (i := 14) rfl (by decide) rfl rfl (m := 600) g10 (Nat.le_of_ble_eq_true rfl) dX13_does_69 ?_
        refine wq_bipush dX13_does_70 (by decide) ?_
        refine wq_isub dX13_does_72 ?_
        refine wq_aload_n dX13_does_73 1 rfl rfl ?_
        refine g_26_19 ln_RX13_58 dX13_does_74 ?_
        refine wq_iload_n dX13_does_77 0 rfl rfl ?_
        refine wq_iconst dX13_does_78 ?_
        refine wq_iadd dX13_does_79 ?_
        refine wq_grd (fun g11 => ?_)
        refine wq_iald (k := 27) (i := 14) rfl (by decide) rfl rfl (m := 600) g11 (Nat.le_of_ble_eq_true rfl) dX13_does_80 ?_
        refine wq_bipush dX13_does_81 (by decide) ?_
        refine wq_isub dX13_does_83 ?_
        refine wq_cVi M_M_makeNow (R_M_makeNow Z ((I 27 14 (w32 (I 27 16 (w32 a1).toNat)).toNat) - 97) ((I 27 14 (w32 ((I 27 16 (w32 a1).toNat) + 1)).toNat) - 97) _) ob_26 rfl rfl (by decide) (by decide) (Nat.le_of_ble_eq_true rfl) ln_RX13_394 dX13_does_84 (fun gr12 x14 J13 => ?_)
        exact wq_iret rfl rfl dX13_does_87
      · skip
        refine WQ.split (fun c19 => ?_) (fun c19 => ?_)
        · refine wq_tin (n := 13) 88 dX13_does_13 rfl c19 (by decide) (by decide) rfl (by decide) ?_
          refine wq_aload_n dX13_does_88 1 rfl rfl ?_
          refine wq_iload_n dX13_does_89 0 rfl rfl ?_
          refine wq_cVi M_M_expandNow (R_M_expandNow Z (I 27 16 (w32 a1).toNat) _) ob_26 rfl rfl (by decide) (by decide) (Nat.le_of_ble_eq_true rfl) ln_RX13_397 dX13_does_90 (fun gr16 x18 J17 => ?_)
          exact wq_iret rfl rfl dX13_does_93
        · skip
          refine WQ.split (fun c23 => ?_) (fun c23 => ?_)
          · refine wq_tin (n := 14) 94 dX13_does_13 rfl c23 (by decide) (by decide) rfl (by decide) ?_
            refine wq_aload_n dX13_does_94 1 rfl rfl ?_
            refine wq_iload_n dX13_does_95 0 rfl rfl ?_
            refine wq_aload_n dX13_does_96 1 rfl rfl ?_
            refine g_26_34 ln_RX13_71 dX13_does_97 ?_
            refine wq_iload_n dX13_does_100 2 rfl rfl ?_
            refine wq_iald (k := 27) (i := 17) rfl (by decide) rfl rfl (m := 64) g1 (Nat.le_of_ble_eq_true rfl) dX13_does_101 ?_
            refine wq_cVi M_M_appendsWord (R_M_appendsWord Z (I 27 16 (w32 a1).toNat) (I 27 17 (w32 a1).toNat) _) ob_26 rfl rfl (by decide) (by decide) (Nat.le_of_ble_eq_true rfl) ln_RX13_400 dX13_does_102 (fun gr20 x22 J21 => ?_)
            exact wq_iret rfl rfl dX13_does_105
          · skip
            refine WQ.split (fun c27 => ?_) (fun c27 => ?_)
            · refine wq_tin (n := 15) 106 dX13_does_13 rfl c27 (by decide) (by decide) rfl (by decide) ?_
              refine wq_aload_n dX13_does_106 1 rfl rfl ?_
              refine wq_iload_n dX13_does_107 0 rfl rfl ?_
              refine wq_cVi M_M_cutNow (R_M_cutNow Z (I 27 16 (w32 a1).toNat) _) ob_26 rfl rfl (by decide) (by decide) (Nat.le_of_ble_eq_true rfl) ln_RX13_403 dX13_does_108 (fun gr24 x26 J25 => ?_)
              exact wq_iret rfl rfl dX13_does_111
            · skip
              refine wq_tout 112 dX13_does_13 rfl (by omega) (by decide) ?_
              refine wq_aload_n dX13_does_112 1 rfl rfl ?_
              refine wq_aload_n dX13_does_113 1 rfl rfl ?_
              refine g_26_32 ln_RX13_65 dX13_does_114 ?_
              refine wq_iload_n dX13_does_117 2 rfl rfl ?_
              refine wq_iald (k := 27) (i := 15) rfl (by decide) rfl rfl (m := 64) g1 (Nat.le_of_ble_eq_true rfl) dX13_does_118 ?_
              refine wq_iload_n dX13_does_119 0 rfl rfl ?_
              refine wq_cVi M_M_setNow (R_M_setNow Z (I 27 15 (w32 a1).toNat) (I 27 16 (w32 a1).toNat) _) ob_26 rfl rfl (by decide) (by decide) (Nat.le_of_ble_eq_true rfl) ln_RX13_406 dX13_does_120 (fun gr28 x30 J29 => ?_)
              exact wq_iret rfl rfl dX13_does_123

theorem M_M_does : MwV yX13_does cX13_does 3 (some .int) 1 := ⟨li_8 124 (by decide +kernel) (by decide +kernel), li_8 123 (by decide +kernel) (by decide +kernel), lw_in 87 (by decide +kernel) (by decide +kernel), li_1 16 (by decide +kernel) (by decide +kernel), by decide +kernel⟩
theorem ln_RX13_409 : Cond.methodLink RX13 409 yX13_does ∈ lw_good := li_8 121 (by decide +kernel) (by decide +kernel)
theorem ln_RX13_80 : Cond.fieldLink RX13 80 RX13 "left" "[I" ∈ lw_good := li_7 91 (by decide +kernel) (by decide +kernel)
noncomputable def f_M_plays_j50 (v1 : Int) (v2 : Int) (v3 : Int)   (I : Mem) : Option (((Int × Int × Int) ⊕ (Int)) × Mem) :=
if 0 ≤ (w32 v3) ∧ (w32 v3) < 64 then
if (w32 (I 27 15 (w32 v3).toNat)) = 16 then
if 0 ≤ (w32 v2) ∧ (w32 v2) < 2 then
ltI (sI I 27 19 (w32 v2).toNat v3) fun J15 =>
ltI (sI J15 27 20 (w32 v2).toNat (J15 27 16 (w32 v3).toNat)) fun J16 =>
some (.inl (v1, (v2 + 1), (v3 + 1)), J16)
else none
else
if (w32 (I 27 15 (w32 v3).toNat)) = 17 then
if 0 ≤ (w32 (v2 - 1)) ∧ (w32 (v2 - 1)) < 2 then
ltI (sI I 27 20 (w32 (v2 - 1)).toNat ((I 27 20 (w32 (v2 - 1)).toNat) - 1)) fun J11 =>
if 0 < (w32 (J11 27 20 (w32 (v2 - 1)).toNat)) then
some (.inl (v1, v2, ((J11 27 19 (w32 (v2 - 1)).toNat) + 1)), J11)
else
some (.inl (v1, (v2 + (-1)), (v3 + 1)), J11)
else none
else
bnd (f_M_does v3 I) fun x8 J7 =>
if (w32 x8) < 0 then
some (.inr (v1), J7)
else
some (.inl ((v1 + 1), v2, (v3 + 1)), J7)
else none

noncomputable def f_M_plays_w6  (s : Int × Int × Int) (I : Mem) : Option (((Int × Int × Int) ⊕ (Int)) × Mem) :=
if (w32 s.2.2) < (w32 (I 26 0 38)) then
if (w32 s.1) < 40 then
if 0 ≤ (w32 s.2.2) ∧ (w32 s.2.2) < 64 then
if (w32 (I 27 15 (w32 s.2.2).toNat)) = 16 then
if (w32 (I 27 16 (w32 s.2.2).toNat)) = 0 then
some (.inl (s.1, s.2.1, ((I 27 18 (w32 s.2.2).toNat) + 1)), I)
else
f_M_plays_j50 s.1 s.2.1 s.2.2 I
else
f_M_plays_j50 s.1 s.2.1 s.2.2 I
else none
else
some (.inr (s.1), I)
else
some (.inr (s.1), I)

noncomputable def f_M_plays  (I : Mem) : Option ((Int) × Mem) :=
whl (f_M_plays_w6) (0, 0, 0) I
set_option maxRecDepth 20000 in
theorem R_M_plays (Z : ZT)  (I : Mem) (r : Int) (J : Mem) (hf : f_M_plays I = some (r, J)) : Runs Z yX13_plays cX13_plays 4 (some .int) 9 [vr Z 26 0] I (some (vi r), J) := by
  refine Runs.of (rv := fun x => some (vi x)) (by decide +kernel) (Nat.le_of_ble_eq_true rfl) hf (fun gr => ?_)
  unfold f_M_plays
  refine WQ.loc [0] (lv' := [(0, vr Z 26 0)]) rfl ?_
  refine wq_iconst dX13_plays_0 ?_
  refine wq_istore_n (lv' := [(1, vi 0), (0, vr Z 26 0)]) dX13_plays_1 rfl (by decide) rfl ?_
  refine wq_iconst dX13_plays_2 ?_
  refine wq_istore_n (lv' := [(2, vi 0), (1, vi 0), (0, vr Z 26 0)]) dX13_plays_3 rfl (by decide) rfl ?_
  refine wq_iconst dX13_plays_4 ?_
  refine wq_istore_n (lv' := [(3, vi 0), (2, vi 0), (1, vi 0), (0, vr Z 26 0)]) dX13_plays_5 rfl (by decide) rfl ?_
  refine WQ.loc [3, 2, 1, 0] (lv' := [(0, vr Z 26 0), (1, vi 0), (2, vi 0), (3, vi 0)]) rfl ?_
  refine wq_loop (fun s41 => [(0, vr Z 26 0), (1, vi s41.1), (2, vi s41.2.1), (3, vi s41.2.2)]) (fun κ35 bk36 hr38 gr40 s41 J39 => ?_) gr _ rfl
  unfold f_M_plays_w6
  refine wq_iload_n dX13_plays_6 3 rfl rfl ?_
  refine wq_aload_n dX13_plays_7 0 rfl rfl ?_
  refine g_26_38 ln_RX13_361 dX13_plays_8 ?_
  refine wq_icmp_ge 157 dX13_plays_11 (by decide) rfl rfl (fun c62 => ?_) (fun c62 => ?_)
  · refine wq_iload_n dX13_plays_14 1 rfl rfl ?_
    refine wq_bipush dX13_plays_15 (by decide) ?_
    refine wq_icmp_ge 157 dX13_plays_17 (by decide) rfl rfl (fun c61 => ?_) (fun c61 => ?_)
    · refine wq_aload_n dX13_plays_20 0 rfl rfl ?_
      refine g_26_32 ln_RX13_65 dX13_plays_21 ?_
      refine wq_iload_n dX13_plays_24 3 rfl rfl ?_
      refine wq_grd (fun g42 => ?_)
      refine wq_iald (k := 27) (i := 15) rfl (by decide) rfl rfl (m := 64) g42 (Nat.le_of_ble_eq_true rfl) dX13_plays_25 ?_
      refine wq_bipush dX13_plays_26 (by decide) ?_
      have hj43 : ∀ (gr47 : Nat → Nat)   (J46 : Mem), WQ Z (yX13_plays, cX13_plays, 4, some .int, 9) I gr47 50 [(0, vr Z 26 0), (1, vi s41.1), (2, vi s41.2.1), (3, vi s41.2.2)] [] J46 (f_M_plays_j50 s41.1 s41.2.1 s41.2.2 J46) κ35 := by
        intro gr47 J46
        unfold f_M_plays_j50
        refine wq_aload_n dX13_plays_50 0 rfl rfl ?_
        refine g_26_32 ln_RX13_65 dX13_plays_51 ?_
        refine wq_iload_n dX13_plays_54 3 rfl rfl ?_
        refine wq_grd (fun g48 => ?_)
        refine wq_iald (k := 27) (i := 15) rfl (by decide) rfl rfl (m := 64) g48 (Nat.le_of_ble_eq_true rfl) dX13_plays_55 ?_
        refine wq_bipush dX13_plays_56 (by decide) ?_
        refine wq_icmp_ne 86 dX13_plays_58 (by decide) rfl rfl (fun c60 => ?_) (fun c60 => ?_)
        · refine wq_aload_n dX13_plays_61 0 rfl rfl ?_
          refine g_26_36 ln_RX13_77 dX13_plays_62 ?_
          refine wq_iload_n dX13_plays_65 2 rfl rfl ?_
          refine wq_iload_n dX13_plays_66 3 rfl rfl ?_
          refine wq_grd (fun g57 => ?_)
          refine wq_iast (k := 27) (i := 19) (fun _ _ => rfl) (by decide) rfl rfl (m := 2) g57 (Nat.le_of_ble_eq_true rfl) (by decide) (by decide) (by decide) dX13_plays_67 (fun J58 => ?_)
          refine wq_aload_n dX13_plays_68 0 rfl rfl ?_
          refine g_26_37 ln_RX13_80 dX13_plays_69 ?_
          refine wq_iload_n dX13_plays_72 2 rfl rfl ?_
          refine wq_aload_n dX13_plays_73 0 rfl rfl ?_
          refine g_26_33 ln_RX13_68 dX13_plays_74 ?_
          refine wq_iload_n dX13_plays_77 3 rfl rfl ?_
          refine wq_iald (k := 27) (i := 16) rfl (by decide) rfl rfl (m := 64) g48 (Nat.le_of_ble_eq_true rfl) dX13_plays_78 ?_
          refine wq_iast (k := 27) (i := 20) (fun _ _ => rfl) (by decide) rfl rfl (m := 2) g57 (Nat.le_of_ble_eq_true rfl) (by decide) (by decide) (by decide) dX13_plays_79 (fun J59 => ?_)
          refine wq_iinc (lv' := [(2, vi (s41.2.1 + 1)), (0, vr Z 26 0), (1, vi s41.1), (3, vi s41.2.2)]) dX13_plays_80 2 rfl (by decide) rfl ?_
          refine wq_goto 151 dX13_plays_83 (by decide) ?_
          refine wq_iinc (lv' := [(3, vi (s41.2.2 + 1)), (2, vi (s41.2.1 + 1)), (0, vr Z 26 0), (1, vi s41.1)]) dX13_plays_151 3 rfl (by decide) rfl ?_
          refine wq_goto 6 dX13_plays_154 (by decide) ?_
          exact WQ.loc [2, 3, 1, 0] rfl (bk36 _ _ _)
        · refine wq_aload_n dX13_plays_86 0 rfl rfl ?_
          refine g_26_32 ln_RX13_65 dX13_plays_87 ?_
          refine wq_iload_n dX13_plays_90 3 rfl rfl ?_
          refine wq_iald (k := 27) (i := 15) rfl (by decide) rfl rfl (m := 64) g48 (Nat.le_of_ble_eq_true rfl) dX13_plays_91 ?_
          refine wq_bipush dX13_plays_92 (by decide) ?_
          refine wq_icmp_ne 138 dX13_plays_94 (by decide) rfl rfl (fun c56 => ?_) (fun c56 => ?_)
          · refine wq_aload_n dX13_plays_97 0 rfl rfl ?_
            refine g_26_37 ln_RX13_80 dX13_plays_98 ?_
            refine wq_iload_n dX13_plays_101 2 rfl rfl ?_
            refine wq_iconst dX13_plays_102 ?_
            refine wq_isub dX13_plays_103 ?_
            refine wq_dup2 dX13_plays_104 rfl rfl ?_
            refine wq_grd (fun g53 => ?_)
            refine wq_iald (k := 27) (i := 20) rfl (by decide) rfl rfl (m := 2) g53 (Nat.le_of_ble_eq_true rfl) dX13_plays_105 ?_
            refine wq_iconst dX13_plays_106 ?_
            refine wq_isub dX13_plays_107 ?_
            refine wq_iast (k := 27) (i := 20) (fun _ _ => rfl) (by decide) rfl rfl (m := 2) g53 (Nat.le_of_ble_eq_true rfl) (by decide) (by decide) (by decide) dX13_plays_108 (fun J54 => ?_)
            refine wq_aload_n dX13_plays_109 0 rfl rfl ?_
            refine g_26_37 ln_RX13_80 dX13_plays_110 ?_
            refine wq_iload_n dX13_plays_113 2 rfl rfl ?_
            refine wq_iconst dX13_plays_114 ?_
            refine wq_isub dX13_plays_115 ?_
            refine wq_iald (k := 27) (i := 20) rfl (by decide) rfl rfl (m := 2) g53 (Nat.le_of_ble_eq_true rfl) dX13_plays_116 ?_
            refine wq_if_le 132 dX13_plays_117 (by decide) rfl (fun c55 => ?_) (fun c55 => ?_)
            · refine wq_aload_n dX13_plays_120 0 rfl rfl ?_
              refine g_26_36 ln_RX13_77 dX13_plays_121 ?_
              refine wq_iload_n dX13_plays_124 2 rfl rfl ?_
              refine wq_iconst dX13_plays_125 ?_
              refine wq_isub dX13_plays_126 ?_
              refine wq_iald (k := 27) (i := 19) rfl (by decide) rfl rfl (m := 2) g53 (Nat.le_of_ble_eq_true rfl) dX13_plays_127 ?_
              refine wq_istore_n (lv' := [(3, vi (J54 27 19 (w32 (s41.2.1 - 1)).toNat)), (0, vr Z 26 0), (1, vi s41.1), (2, vi s41.2.1)]) dX13_plays_128 rfl (by decide) rfl ?_
              refine wq_goto 151 dX13_plays_129 (by decide) ?_
              refine wq_iinc (lv' := [(3, vi ((J54 27 19 (w32 (s41.2.1 - 1)).toNat) + 1)), (0, vr Z 26 0), (1, vi s41.1), (2, vi s41.2.1)]) dX13_plays_151 0 rfl (by decide) rfl ?_
              refine wq_goto 6 dX13_plays_154 (by decide) ?_
              exact WQ.loc [1, 2, 3, 0] rfl (bk36 _ _ _)
            · refine wq_iinc (lv' := [(2, vi (s41.2.1 + (-1))), (0, vr Z 26 0), (1, vi s41.1), (3, vi s41.2.2)]) dX13_plays_132 2 rfl (by decide) rfl ?_
              refine wq_goto 151 dX13_plays_135 (by decide) ?_
              refine wq_iinc (lv' := [(3, vi (s41.2.2 + 1)), (2, vi (s41.2.1 + (-1))), (0, vr Z 26 0), (1, vi s41.1)]) dX13_plays_151 3 rfl (by decide) rfl ?_
              refine wq_goto 6 dX13_plays_154 (by decide) ?_
              exact WQ.loc [2, 3, 1, 0] rfl (bk36 _ _ _)
          · refine wq_aload_n dX13_plays_138 0 rfl rfl ?_
            refine wq_iload_n dX13_plays_139 3 rfl rfl ?_
            refine wq_cVi M_M_does (R_M_does Z s41.2.2 _) ob_26 rfl rfl (by decide) (by decide) (Nat.le_of_ble_eq_true rfl) ln_RX13_409 dX13_plays_140 (fun gr49 x51 J50 => ?_)
            refine wq_if_ge 148 dX13_plays_143 (by decide) rfl (fun c52 => ?_) (fun c52 => ?_)
            · refine wq_iload_n dX13_plays_146 1 rfl rfl ?_
              exact wq_iret rfl ((hr38 _ _).trans rfl) dX13_plays_147
            · refine wq_iinc (lv' := [(1, vi (s41.1 + 1)), (0, vr Z 26 0), (2, vi s41.2.1), (3, vi s41.2.2)]) dX13_plays_148 1 rfl (by decide) rfl ?_
              refine wq_iinc (lv' := [(3, vi (s41.2.2 + 1)), (1, vi (s41.1 + 1)), (0, vr Z 26 0), (2, vi s41.2.1)]) dX13_plays_151 3 rfl (by decide) rfl ?_
              refine wq_goto 6 dX13_plays_154 (by decide) ?_
              exact WQ.loc [2, 1, 3, 0] rfl (bk36 _ _ _)
      refine wq_icmp_ne 50 dX13_plays_28 (by decide) rfl rfl (fun c45 => ?_) (fun c45 => ?_)
      · refine wq_aload_n dX13_plays_31 0 rfl rfl ?_
        refine g_26_33 ln_RX13_68 dX13_plays_32 ?_
        refine wq_iload_n dX13_plays_35 3 rfl rfl ?_
        refine wq_iald (k := 27) (i := 16) rfl (by decide) rfl rfl (m := 64) g42 (Nat.le_of_ble_eq_true rfl) dX13_plays_36 ?_
        refine wq_if_ne 50 dX13_plays_37 (by decide) rfl (fun c44 => ?_) (fun c44 => ?_)
        · refine wq_aload_n dX13_plays_40 0 rfl rfl ?_
          refine g_26_35 ln_RX13_74 dX13_plays_41 ?_
          refine wq_iload_n dX13_plays_44 3 rfl rfl ?_
          refine wq_iald (k := 27) (i := 18) rfl (by decide) rfl rfl (m := 64) g42 (Nat.le_of_ble_eq_true rfl) dX13_plays_45 ?_
          refine wq_istore_n (lv' := [(3, vi (J39 27 18 (w32 s41.2.2).toNat)), (0, vr Z 26 0), (1, vi s41.1), (2, vi s41.2.1)]) dX13_plays_46 rfl (by decide) rfl ?_
          refine wq_goto 151 dX13_plays_47 (by decide) ?_
          refine wq_iinc (lv' := [(3, vi ((J39 27 18 (w32 s41.2.2).toNat) + 1)), (0, vr Z 26 0), (1, vi s41.1), (2, vi s41.2.1)]) dX13_plays_151 0 rfl (by decide) rfl ?_
          refine wq_goto 6 dX13_plays_154 (by decide) ?_
          exact WQ.loc [1, 2, 3, 0] rfl (bk36 _ _ _)
        · exact WQ.loc [0, 1, 2, 3] rfl (hj43 _   _)
      · exact WQ.loc [0, 1, 2, 3] rfl (hj43 _   _)
    · refine wq_iload_n dX13_plays_157 1 rfl rfl ?_
      exact wq_iret rfl ((hr38 _ _).trans rfl) dX13_plays_158
  · refine wq_iload_n dX13_plays_157 1 rfl rfl ?_
    exact wq_iret rfl ((hr38 _ _).trans rfl) dX13_plays_158

theorem M_M_script : MwV yX13_script cX13_script 1 (none) 0 := ⟨li_8 82 (by decide +kernel) (by decide +kernel), li_8 81 (by decide +kernel) (by decide +kernel), lw_in 79 (by decide +kernel) (by decide +kernel), li_1 16 (by decide +kernel) (by decide +kernel), by decide +kernel⟩
theorem M_M_plays : MwV yX13_plays cX13_plays 4 (some .int) 0 := ⟨li_8 120 (by decide +kernel) (by decide +kernel), li_8 119 (by decide +kernel) (by decide +kernel), lw_in 86 (by decide +kernel) (by decide +kernel), li_1 16 (by decide +kernel) (by decide +kernel), by decide +kernel⟩
theorem ln_RX13_419 : Cond.methodLink RX13 419 yX13_plays ∈ lw_good := li_8 117 (by decide +kernel) (by decide +kernel)
theorem ln_RX13_412 : Cond.methodLink RX13 412 yX13_script ∈ lw_good := li_8 79 (by decide +kernel) (by decide +kernel)
noncomputable def f_M_play  (I : Mem) : Option ((Int) × Mem) :=
ltI (sI I 26 0 7 0) fun J1 =>
bnd (f_M_script J1) fun _ J3 =>
bnd (f_M_ended J3) fun x7 J6 =>
if (w32 x7) < 0 then
some (x7, J6)
else
bnd (f_M_remembers 0 J6) fun _ J9 =>
bnd (f_M_plays J9) fun x13 J12 =>
some (x13, J12)
set_option maxRecDepth 20000 in
theorem R_M_play (Z : ZT)  (I : Mem) (r : Int) (J : Mem) (hf : f_M_play I = some (r, J)) : Runs Z yX13_play cX13_play 2 (some .int) 10 [vr Z 26 0] I (some (vi r), J) := by
  refine Runs.of (rv := fun x => some (vi x)) (by decide +kernel) (Nat.le_of_ble_eq_true rfl) hf (fun gr => ?_)
  unfold f_M_play
  refine WQ.loc [0] (lv' := [(0, vr Z 26 0)]) rfl ?_
  refine wq_aload_n dX13_play_0 0 rfl rfl ?_
  refine wq_iconst dX13_play_1 ?_
  refine p_26_7 ln_RX13_100 dX13_play_2 (fun J1 => ?_)
  refine wq_aload_n dX13_play_5 0 rfl rfl ?_
  refine wq_cVv M_M_script (R_M_script Z _) ob_26 rfl rfl (by decide) (by decide) (Nat.le_of_ble_eq_true rfl) ln_RX13_412 dX13_play_6 (fun gr2 _ J3 => ?_)
  refine wq_aload_n dX13_play_9 0 rfl rfl ?_
  refine wq_cVi M_M_ended (R_M_ended Z _) ob_26 rfl rfl (by decide) (by decide) (Nat.le_of_ble_eq_true rfl) ln_RX13_336 dX13_play_10 (fun gr5 x7 J6 => ?_)
  refine wq_istore_n (lv' := [(1, vi x7), (0, vr Z 26 0)]) dX13_play_13 rfl (by decide) rfl ?_
  refine wq_iload_n dX13_play_14 0 rfl rfl ?_
  refine wq_if_ge 20 dX13_play_15 (by decide) rfl (fun c14 => ?_) (fun c14 => ?_)
  · refine wq_iload_n dX13_play_18 0 rfl rfl ?_
    exact wq_iret rfl rfl dX13_play_19
  · refine wq_aload_n dX13_play_20 1 rfl rfl ?_
    refine wq_aload_n dX13_play_21 1 rfl rfl ?_
    refine g_26_0 ln_RX13_9 dX13_play_22 ?_
    refine wq_cVv M_M_remembers (R_M_remembers Z 0 _) ob_26 rfl rfl (by decide) (by decide) (Nat.le_of_ble_eq_true rfl) ln_RX13_415 dX13_play_25 (fun gr8 _ J9 => ?_)
    refine wq_aload_n dX13_play_28 1 rfl rfl ?_
    refine wq_cVi M_M_plays (R_M_plays Z _) ob_26 rfl rfl (by decide) (by decide) (Nat.le_of_ble_eq_true rfl) ln_RX13_419 dX13_play_29 (fun gr11 x13 J12 => ?_)
    exact wq_iret rfl rfl dX13_play_32
