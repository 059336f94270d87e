theorem M_M_comesBy : MwV yX13_comesBy cX13_comesBy 4 (none) 2 := ⟨li_9 51 (by decide +kernel) (by decide +kernel), li_9 50 (by decide +kernel) (by decide +kernel), lw_in 125 (by decide +kernel) (by decide +kernel), li_1 16 (by decide +kernel) (by decide +kernel), by decide +kernel⟩
theorem ln_RX13_449 : Cond.methodLink RX13 449 yX13_comesBy ∈ lw_good := li_9 48 (by decide +kernel) (by decide +kernel)
noncomputable def f_M_comesOf_w6 (v1 : Int) (s : Int) (I : Mem) : Option (((Int) ⊕ (Unit)) × Mem) :=
if (w32 s) < 66 then
if 0 ≤ (w32 s) ∧ (w32 s) < 66 then
ltI (sI I 27 21 (w32 s).toNat 0) fun J5 =>
some (.inl (s + 1), J5)
else none
else
some (.inr (), I)

noncomputable def f_M_comesOf_w40 (v1 : Int) (v2 : Int) (s : Int) (I : Mem) : Option (((Int) ⊕ (Unit)) × Mem) :=
if (w32 s) < 40 then
bnd (f_M_isHere s I) fun x25 J24 =>
if (w32 x25) = 0 then
some (.inl (s + 1), J24)
else
if 0 ≤ (w32 (26 + s)) ∧ (w32 (26 + s)) < 66 then
if (w32 (J24 27 6 (w32 (26 + s)).toNat)) = (w32 v2) then
bnd (f_M_comesBy (s + 1) (J24 27 21 (w32 (26 + s)).toNat) J24) fun _ J28 =>
some (.inl (s + 1), J28)
else
some (.inl (s + 1), J24)
else none
else
some (.inr (), I)

noncomputable def f_M_comesOf_w34 (v1 : Int) (s : Int) (I : Mem) : Option (((Int) ⊕ (Unit)) × Mem) :=
if 0 < (w32 s) then
bnd (whl (f_M_comesOf_w40 v1 s) 0 I) fun r50 J51 =>
some (.inl (s + (-1)), J51)
else
some (.inr (), I)

noncomputable def f_M_comesOf (a1 : Int) (I : Mem) : Option ((Int) × Mem) :=
bnd (f_M_laysLengths I) fun _ J2 =>
bnd (whl (f_M_comesOf_w6 a1) 0 J2) fun r17 J18 =>
bnd (f_M_comesBy 0 1 J18) fun _ J21 =>
bnd (whl (f_M_comesOf_w34 a1) 40 J21) fun r82 J83 =>
if 0 ≤ (w32 a1) ∧ (w32 a1) < 66 then
some ((J83 27 21 (w32 a1).toNat), J83)
else none
set_option maxRecDepth 20000 in
theorem R_M_comesOf (Z : ZT) (a1 : Int) (I : Mem) (r : Int) (J : Mem) (hf : f_M_comesOf a1 I = some (r, J)) : Runs Z yX13_comesOf cX13_comesOf 4 (some .int) 4 [vr Z 26 0, vi a1] I (some (vi r), J) := by
  refine Runs.of (rv := fun x => some (vi x)) (by decide +kernel) (Nat.le_of_ble_eq_true rfl) hf (fun gr => ?_)
  unfold f_M_comesOf
  refine WQ.loc [0, 1] (lv' := [(0, vr Z 26 0), (1, vi a1)]) rfl ?_
  refine wq_aload_n dX13_comesOf_0 0 rfl rfl ?_
  refine wq_cVv M_M_laysLengths (R_M_laysLengths Z _) ob_26 rfl rfl (by decide) (by decide) (Nat.le_of_ble_eq_true rfl) ln_RX13_137 dX13_comesOf_1 (fun gr1 _ J2 => ?_)
  refine wq_iconst dX13_comesOf_4 ?_
  refine wq_istore_n (lv' := [(2, vi 0), (0, vr Z 26 0), (1, vi a1)]) dX13_comesOf_5 rfl (by decide) rfl ?_
  refine WQ.loc [1, 2, 0] (lv' := [(0, vr Z 26 0), (1, vi a1), (2, vi 0)]) rfl ?_
  refine wq_loopS (fun s13 => [(0, vr Z 26 0), (1, vi a1), (2, vi s13)]) 25 (fun _ => [(0, vr Z 26 0), (1, vi a1)]) (fun κ7 bk8 ex9 gr12 s13 J11 => ?_) (fun gr19 r17 J18 => ?_) gr1 _ rfl
  · unfold f_M_comesOf_w6
    refine wq_iload_n dX13_comesOf_6 2 rfl rfl ?_
    refine wq_bipush dX13_comesOf_7 (by decide) ?_
    refine wq_icmp_ge 25 dX13_comesOf_9 (by decide) rfl rfl (fun c16 => ?_) (fun c16 => ?_)
    · refine wq_aload_n dX13_comesOf_12 0 rfl rfl ?_
      refine g_26_41 ln_RX13_83 dX13_comesOf_13 ?_
      refine wq_iload_n dX13_comesOf_16 2 rfl rfl ?_
      refine wq_iconst dX13_comesOf_17 ?_
      refine wq_grd (fun g14 => ?_)
      refine wq_iast (k := 27) (i := 21) (fun _ _ => rfl) (by decide) rfl rfl (m := 66) g14 (Nat.le_of_ble_eq_true rfl) (by decide) (by decide) (by decide) dX13_comesOf_18 (fun J15 => ?_)
      refine wq_iinc (lv' := [(2, vi (s13 + 1)), (0, vr Z 26 0), (1, vi a1)]) dX13_comesOf_19 2 rfl (by decide) rfl ?_
      refine wq_goto 6 dX13_comesOf_22 (by decide) ?_
      exact WQ.loc [1, 2, 0] rfl (bk8 _ _ _)
    · exact WQ.loc [0, 1] rfl (ex9 _ _ _)
  · refine wq_aload_n dX13_comesOf_25 0 rfl rfl ?_
    refine wq_iconst dX13_comesOf_26 ?_
    refine wq_iconst dX13_comesOf_27 ?_
    refine wq_cVv M_M_comesBy (R_M_comesBy Z 0 1 _) ob_26 rfl rfl (by decide) (by decide) (Nat.le_of_ble_eq_true rfl) ln_RX13_449 dX13_comesOf_28 (fun gr20 _ J21 => ?_)
    refine wq_bipush dX13_comesOf_31 (by decide) ?_
    refine wq_istore_n (lv' := [(2, vi 40), (0, vr Z 26 0), (1, vi a1)]) dX13_comesOf_33 rfl (by decide) rfl ?_
    refine WQ.loc [1, 2, 0] (lv' := [(0, vr Z 26 0), (1, vi a1), (2, vi 40)]) rfl ?_
    refine wq_loopS (fun s60 => [(0, vr Z 26 0), (1, vi a1), (2, vi s60)]) 95 (fun _ => [(0, vr Z 26 0), (1, vi a1)]) (fun κ54 bk55 ex56 gr59 s60 J58 => ?_) (fun gr84 r82 J83 => ?_) gr20 _ rfl
    · unfold f_M_comesOf_w34
      refine wq_iload_n dX13_comesOf_34 2 rfl rfl ?_
      refine wq_if_le 95 dX13_comesOf_35 (by decide) rfl (fun c81 => ?_) (fun c81 => ?_)
      · refine wq_iconst dX13_comesOf_38 ?_
        refine wq_istore_n (lv' := [(3, vi 0), (0, vr Z 26 0), (1, vi a1), (2, vi s60)]) dX13_comesOf_39 rfl (by decide) rfl ?_
        refine WQ.loc [1, 2, 3, 0] (lv' := [(0, vr Z 26 0), (1, vi a1), (2, vi s60), (3, vi 0)]) rfl ?_
        refine wq_loopS (fun s67 => [(0, vr Z 26 0), (1, vi a1), (2, vi s60), (3, vi s67)]) 89 (fun _ => [(0, vr Z 26 0), (1, vi a1), (2, vi s60)]) (fun κ61 bk62 ex63 gr66 s67 J65 => ?_) (fun gr80 r78 J79 => ?_) gr59 _ rfl
        · unfold f_M_comesOf_w40
          refine wq_iload_n dX13_comesOf_40 3 rfl rfl ?_
          refine wq_bipush dX13_comesOf_41 (by decide) ?_
          refine wq_icmp_ge 89 dX13_comesOf_43 (by decide) rfl rfl (fun c77 => ?_) (fun c77 => ?_)
          · refine wq_aload_n dX13_comesOf_46 0 rfl rfl ?_
            refine wq_iload_n dX13_comesOf_47 3 rfl rfl ?_
            refine wq_cVi M_M_isHere (R_M_isHere Z s67 _) ob_26 rfl rfl (by decide) (by decide) (Nat.le_of_ble_eq_true rfl) ln_RX13_111 dX13_comesOf_48 (fun gr68 x70 J69 => ?_)
            refine wq_if_eq 83 dX13_comesOf_51 (by decide) rfl (fun c76 => ?_) (fun c76 => ?_)
            · refine wq_iinc (lv' := [(3, vi (s67 + 1)), (0, vr Z 26 0), (1, vi a1), (2, vi s60)]) dX13_comesOf_83 3 rfl (by decide) rfl ?_
              refine wq_goto 40 dX13_comesOf_86 (by decide) ?_
              exact WQ.loc [1, 2, 3, 0] rfl (bk62 _ _ _)
            · refine wq_aload_n dX13_comesOf_54 0 rfl rfl ?_
              refine g_26_9 ln_RX13_34 dX13_comesOf_55 ?_
              refine wq_bipush dX13_comesOf_58 (by decide) ?_
              refine wq_iload_n dX13_comesOf_60 3 rfl rfl ?_
              refine wq_iadd dX13_comesOf_61 ?_
              refine wq_grd (fun g71 => ?_)
              refine wq_iald (k := 27) (i := 6) rfl (by decide) rfl rfl (m := 66) g71 (Nat.le_of_ble_eq_true rfl) dX13_comesOf_62 ?_
              refine wq_iload_n dX13_comesOf_63 2 rfl rfl ?_
              refine wq_icmp_ne 83 dX13_comesOf_64 (by decide) rfl rfl (fun c75 => ?_) (fun c75 => ?_)
              · refine wq_aload_n dX13_comesOf_67 0 rfl rfl ?_
                refine wq_iload_n dX13_comesOf_68 3 rfl rfl ?_
                refine wq_iconst dX13_comesOf_69 ?_
                refine wq_iadd dX13_comesOf_70 ?_
                refine wq_aload_n dX13_comesOf_71 0 rfl rfl ?_
                refine g_26_41 ln_RX13_83 dX13_comesOf_72 ?_
                refine wq_bipush dX13_comesOf_75 (by decide) ?_
                refine wq_iload_n dX13_comesOf_77 3 rfl rfl ?_
                refine wq_iadd dX13_comesOf_78 ?_
                refine wq_iald (k := 27) (i := 21) rfl (by decide) rfl rfl (m := 66) g71 (Nat.le_of_ble_eq_true rfl) dX13_comesOf_79 ?_
                refine wq_cVv M_M_comesBy (R_M_comesBy Z (s67 + 1) (J69 27 21 (w32 (26 + s67)).toNat) _) ob_26 rfl rfl (by decide) (by decide) (Nat.le_of_ble_eq_true rfl) ln_RX13_449 dX13_comesOf_80 (fun gr72 _ J73 => ?_)
                refine wq_iinc (lv' := [(3, vi (s67 + 1)), (0, vr Z 26 0), (1, vi a1), (2, vi s60)]) dX13_comesOf_83 3 rfl (by decide) rfl ?_
                refine wq_goto 40 dX13_comesOf_86 (by decide) ?_
                exact WQ.loc [1, 2, 3, 0] rfl (bk62 _ _ _)
              · refine wq_iinc (lv' := [(3, vi (s67 + 1)), (0, vr Z 26 0), (1, vi a1), (2, vi s60)]) dX13_comesOf_83 3 rfl (by decide) rfl ?_
                refine wq_goto 40 dX13_comesOf_86 (by decide) ?_
                exact WQ.loc [1, 2, 3, 0] rfl (bk62 _ _ _)
          · exact WQ.loc [0, 1, 2] rfl (ex63 _ _ _)
        · refine wq_iinc (lv' := [(2, vi (s60 + (-1))), (0, vr Z 26 0), (1, vi a1)]) dX13_comesOf_89 2 rfl (by decide) rfl ?_
          refine wq_goto 34 dX13_comesOf_92 (by decide) ?_
          exact WQ.loc [1, 2, 0] rfl (bk55 _ _ _)
      · exact WQ.loc [0, 1] rfl (ex56 _ _ _)
    · refine wq_aload_n dX13_comesOf_95 0 rfl rfl ?_
      refine g_26_41 ln_RX13_83 dX13_comesOf_96 ?_
      refine wq_iload_n dX13_comesOf_99 1 rfl rfl ?_
      refine wq_grd (fun g85 => ?_)
      refine wq_iald (k := 27) (i := 21) rfl (by decide) rfl rfl (m := 66) g85 (Nat.le_of_ble_eq_true rfl) dX13_comesOf_100 ?_
      exact wq_iret rfl rfl dX13_comesOf_101

theorem M_M_noSuchRule : MwV yX13_noSuchRule cX13_noSuchRule 2 (some .boolean) 1 := ⟨li_9 43 (by decide +kernel) (by decide +kernel), li_9 42 (by decide +kernel) (by decide +kernel), lw_in 123 (by decide +kernel) (by decide +kernel), li_1 16 (by decide +kernel) (by decide +kernel), by decide +kernel⟩
theorem M_M_comesOf : MwV yX13_comesOf cX13_comesOf 4 (some .int) 1 := ⟨li_9 47 (by decide +kernel) (by decide +kernel), li_9 46 (by decide +kernel) (by decide +kernel), lw_in 124 (by decide +kernel) (by decide +kernel), li_1 16 (by decide +kernel) (by decide +kernel), by decide +kernel⟩
theorem ln_RX13_455 : Cond.methodLink RX13 455 yX13_comesOf ∈ lw_good := li_9 44 (by decide +kernel) (by decide +kernel)
theorem ln_RX13_452 : Cond.methodLink RX13 452 yX13_noSuchRule ∈ lw_good := li_9 40 (by decide +kernel) (by decide +kernel)
noncomputable def f_M_rule (a1 : Int) (a2 : Int) (I : Mem) : Option ((Int) × Mem) :=
ltI (sI I 26 0 7 0) fun J1 =>
bnd (f_M_noSuchRule a1 J1) fun x4 J3 =>
if (w32 x4) = 0 then
bnd (f_M_in a2 0 4 J3) fun x7 J6 =>
bnd (f_M_fails (if (w32 x7) = 0 then 1 else 0) 2 J6) fun x10 J9 =>
if (w32 x10) = 0 then
bnd (f_M_laysLengths J9) fun _ J12 =>
if (w32 a2) = 0 then
bnd (f_M_many (a1 + 1) J12) fun x16 J15 =>
some (x16, J15)
else if (w32 a2) = 1 then
bnd (f_M_usesOf a1 J12) fun x20 J19 =>
some (x20, J19)
else if (w32 a2) = 2 then
if 0 ≤ (w32 (26 + a1)) ∧ (w32 (26 + a1)) < 66 then
some ((J12 27 5 (w32 (26 + a1)).toNat), J12)
else none
else if (w32 a2) = 3 then
if 0 ≤ (w32 (26 + a1)) ∧ (w32 (26 + a1)) < 66 then
some ((J12 27 6 (w32 (26 + a1)).toNat), J12)
else none
else bnd (f_M_comesOf (26 + a1) J12) fun x28 J27 =>
some (x28, J27)
else
some (0, J9)
else
some (0, J3)
set_option maxRecDepth 20000 in
theorem R_M_rule (Z : ZT) (a1 : Int) (a2 : Int) (I : Mem) (r : Int) (J : Mem) (hf : f_M_rule a1 a2 I = some (r, J)) : Runs Z yX13_rule cX13_rule 3 (some .int) 5 [vr Z 26 0, vi a1, vi a2] I (some (vi r), J) := by
  refine Runs.of (rv := fun x => some (vi x)) (by decide +kernel) (Nat.le_of_ble_eq_true rfl) hf (fun gr => ?_)
  unfold f_M_rule
  refine WQ.loc [0, 1, 2] (lv' := [(0, vr Z 26 0), (1, vi a1), (2, vi a2)]) rfl ?_
  refine wq_aload_n dX13_rule_0 0 rfl rfl ?_
  refine wq_iconst dX13_rule_1 ?_
  refine p_26_7 ln_RX13_100 dX13_rule_2 (fun J1 => ?_)
  refine wq_aload_n dX13_rule_5 0 rfl rfl ?_
  refine wq_iload_n dX13_rule_6 1 rfl rfl ?_
  refine wq_cVi M_M_noSuchRule (R_M_noSuchRule Z a1 _) ob_26 rfl rfl (by decide) (by decide) (Nat.le_of_ble_eq_true rfl) ln_RX13_452 dX13_rule_7 (fun gr2 x4 J3 => ?_)
  refine wq_if_ne 35 dX13_rule_10 (by decide) rfl (fun c32 => ?_) (fun c32 => ?_)
  · refine wq_aload_n dX13_rule_13 0 rfl rfl ?_
    refine wq_iload_n dX13_rule_14 2 rfl rfl ?_
    refine wq_iconst dX13_rule_15 ?_
    refine wq_iconst dX13_rule_16 ?_
    refine wq_cSi M_M_in (R_M_in Z a2 0 4 _) rfl rfl rfl (by decide) (by decide) (Nat.le_of_ble_eq_true rfl) ln_RX13_224 dX13_rule_17 (fun gr5 x7 J6 => ?_)
    refine WQ.via 28 [vi (if (w32 x7) = 0 then 1 else 0), vr Z 26 0] (by
        refine wq_iconst dX13_rule_28 ?_
        refine wq_cVi M_M_fails (R_M_fails Z (if (w32 x7) = 0 then 1 else 0) 2 _) ob_26 rfl rfl (by decide) (by decide) (Nat.le_of_ble_eq_true rfl) ln_RX13_428 dX13_rule_29 (fun gr8 x10 J9 => ?_)
        refine wq_if_eq 37 dX13_rule_32 (by decide) rfl (fun c29 => ?_) (fun c29 => ?_)
        · refine wq_aload_n dX13_rule_37 0 rfl rfl ?_
          refine wq_cVv M_M_laysLengths (R_M_laysLengths Z _) ob_26 rfl rfl (by decide) (by decide) (Nat.le_of_ble_eq_true rfl) ln_RX13_137 dX13_rule_38 (fun gr11 _ J12 => ?_)
          refine wq_iload_n dX13_rule_41 2 rfl rfl ?_
          refine WQ.split (fun c17 => ?_) (fun c17 => ?_)
          · refine wq_tin (n := 0) 72 dX13_rule_42 rfl c17 (by decide) (by decide) rfl (by decide) ?_
            refine wq_aload_n dX13_rule_72 0 rfl rfl ?_
            refine wq_iload_n dX13_rule_73 1 rfl rfl ?_
            refine wq_iconst dX13_rule_74 ?_
            refine wq_iadd dX13_rule_75 ?_
            refine wq_cVi M_M_many (R_M_many Z (a1 + 1) _) ob_26 rfl rfl (by decide) (by decide) (Nat.le_of_ble_eq_true rfl) ln_RX13_103 dX13_rule_76 (fun gr14 x16 J15 => ?_)
            exact wq_iret rfl rfl dX13_rule_79
          · skip
            refine WQ.split (fun c21 => ?_) (fun c21 => ?_)
            · refine wq_tin (n := 1) 80 dX13_rule_42 rfl c21 (by decide) (by decide) rfl (by decide) ?_
              refine wq_aload_n dX13_rule_80 0 rfl rfl ?_
              refine wq_iload_n dX13_rule_81 1 rfl rfl ?_
              refine wq_cVi M_M_usesOf (R_M_usesOf Z a1 _) ob_26 rfl rfl (by decide) (by decide) (Nat.le_of_ble_eq_true rfl) ln_RX13_180 dX13_rule_82 (fun gr18 x20 J19 => ?_)
              exact wq_iret rfl rfl dX13_rule_85
            · skip
              refine WQ.split (fun c23 => ?_) (fun c23 => ?_)
              · refine wq_tin (n := 2) 86 dX13_rule_42 rfl c23 (by decide) (by decide) rfl (by decide) ?_
                refine wq_aload_n dX13_rule_86 0 rfl rfl ?_
                refine g_26_8 ln_RX13_31 dX13_rule_87 ?_
                refine wq_bipush dX13_rule_90 (by decide) ?_
                refine wq_iload_n dX13_rule_92 1 rfl rfl ?_
                refine wq_iadd dX13_rule_93 ?_
                refine wq_grd (fun g22 => ?_)
                refine wq_iald (k := 27) (i := 5) rfl (by decide) rfl rfl (m := 66) g22 (Nat.le_of_ble_eq_true rfl) dX13_rule_94 ?_
                exact wq_iret rfl rfl dX13_rule_95
              · skip
                refine WQ.split (fun c25 => ?_) (fun c25 => ?_)
                · refine wq_tin (n := 3) 96 dX13_rule_42 rfl c25 (by decide) (by decide) rfl (by decide) ?_
                  refine wq_aload_n dX13_rule_96 0 rfl rfl ?_
                  refine g_26_9 ln_RX13_34 dX13_rule_97 ?_
                  refine wq_bipush dX13_rule_100 (by decide) ?_
                  refine wq_iload_n dX13_rule_102 1 rfl rfl ?_
                  refine wq_iadd dX13_rule_103 ?_
                  refine wq_grd (fun g24 => ?_)
                  refine wq_iald (k := 27) (i := 6) rfl (by decide) rfl rfl (m := 66) g24 (Nat.le_of_ble_eq_true rfl) dX13_rule_104 ?_
                  exact wq_iret rfl rfl dX13_rule_105
                · skip
                  refine wq_tout 106 dX13_rule_42 rfl (by omega) (by decide) ?_
                  refine wq_aload_n dX13_rule_106 0 rfl rfl ?_
                  refine wq_bipush dX13_rule_107 (by decide) ?_
                  refine wq_iload_n dX13_rule_109 1 rfl rfl ?_
                  refine wq_iadd dX13_rule_110 ?_
                  refine wq_cVi M_M_comesOf (R_M_comesOf Z (26 + a1) _) ob_26 rfl rfl (by decide) (by decide) (Nat.le_of_ble_eq_true rfl) ln_RX13_455 dX13_rule_111 (fun gr26 x28 J27 => ?_)
                  exact wq_iret rfl rfl dX13_rule_114
        · refine wq_iconst dX13_rule_35 ?_
          exact wq_iret rfl rfl dX13_rule_36) (fun hj30 => ?_)
    refine WQ.both ((w32 x7) = 0) ?_
    refine wq_if_ne 27 dX13_rule_20 (by decide) rfl (fun c31 => ?_) (fun c31 => ?_)
    · refine wq_iconst dX13_rule_23 ?_
      refine wq_goto 28 dX13_rule_24 (by decide) ?_
      exact WQ.top (if_pos c31) hj30
    · refine wq_iconst dX13_rule_27 ?_
      exact WQ.top (if_neg c31) hj30
  · refine wq_iconst dX13_rule_35 ?_
    exact wq_iret rfl rfl dX13_rule_36

noncomputable def f_M_bodyAt (a1 : Int) (a2 : Int) (I : Mem) : Option ((Int) × Mem) :=
ltI (sI I 26 0 7 0) fun J1 =>
bnd (f_M_noSuchRule a1 J1) fun x4 J3 =>
if (w32 x4) = 0 then
bnd (f_M_many (a1 + 1) J3) fun x7 J6 =>
bnd (f_M_in a2 0 (x7 - 1) J6) fun x10 J9 =>
bnd (f_M_fails (if (w32 x10) = 0 then 1 else 0) 1 J9) fun x13 J12 =>
if (w32 x13) = 0 then
bnd (f_M_at (a1 + 1) a2 J12) fun x16 J15 =>
some (x16, J15)
else
some (0, J12)
else
some (0, J3)
set_option maxRecDepth 20000 in
theorem R_M_bodyAt (Z : ZT) (a1 : Int) (a2 : Int) (I : Mem) (r : Int) (J : Mem) (hf : f_M_bodyAt a1 a2 I = some (r, J)) : Runs Z yX13_bodyAt cX13_bodyAt 3 (some .int) 4 [vr Z 26 0, vi a1, vi a2] I (some (vi r), J) := by
  refine Runs.of (rv := fun x => some (vi x)) (by decide +kernel) (Nat.le_of_ble_eq_true rfl) hf (fun gr => ?_)
  unfold f_M_bodyAt
  refine WQ.loc [0, 1, 2] (lv' := [(0, vr Z 26 0), (1, vi a1), (2, vi a2)]) rfl ?_
  refine wq_aload_n dX13_bodyAt_0 0 rfl rfl ?_
  refine wq_iconst dX13_bodyAt_1 ?_
  refine p_26_7 ln_RX13_100 dX13_bodyAt_2 (fun J1 => ?_)
  refine wq_aload_n dX13_bodyAt_5 0 rfl rfl ?_
  refine wq_iload_n dX13_bodyAt_6 1 rfl rfl ?_
  refine wq_cVi M_M_noSuchRule (R_M_noSuchRule Z a1 _) ob_26 rfl rfl (by decide) (by decide) (Nat.le_of_ble_eq_true rfl) ln_RX13_452 dX13_bodyAt_7 (fun gr2 x4 J3 => ?_)
  refine wq_if_ne 43 dX13_bodyAt_10 (by decide) rfl (fun c20 => ?_) (fun c20 => ?_)
  · refine wq_aload_n dX13_bodyAt_13 0 rfl rfl ?_
    refine wq_iload_n dX13_bodyAt_14 2 rfl rfl ?_
    refine wq_iconst dX13_bodyAt_15 ?_
    refine wq_aload_n dX13_bodyAt_16 0 rfl rfl ?_
    refine wq_iload_n dX13_bodyAt_17 1 rfl rfl ?_
    refine wq_iconst dX13_bodyAt_18 ?_
    refine wq_iadd dX13_bodyAt_19 ?_
    refine wq_cVi M_M_many (R_M_many Z (a1 + 1) _) ob_26 rfl rfl (by decide) (by decide) (Nat.le_of_ble_eq_true rfl) ln_RX13_103 dX13_bodyAt_20 (fun gr5 x7 J6 => ?_)
    refine wq_iconst dX13_bodyAt_23 ?_
    refine wq_isub dX13_bodyAt_24 ?_
    refine wq_cSi M_M_in (R_M_in Z a2 0 (x7 - 1) _) rfl rfl rfl (by decide) (by decide) (Nat.le_of_ble_eq_true rfl) ln_RX13_224 dX13_bodyAt_25 (fun gr8 x10 J9 => ?_)
    refine WQ.via 36 [vi (if (w32 x10) = 0 then 1 else 0), vr Z 26 0] (by
        refine wq_iconst dX13_bodyAt_36 ?_
        refine wq_cVi M_M_fails (R_M_fails Z (if (w32 x10) = 0 then 1 else 0) 1 _) ob_26 rfl rfl (by decide) (by decide) (Nat.le_of_ble_eq_true rfl) ln_RX13_428 dX13_bodyAt_37 (fun gr11 x13 J12 => ?_)
        refine wq_if_eq 47 dX13_bodyAt_40 (by decide) rfl (fun c17 => ?_) (fun c17 => ?_)
        · refine wq_aload_n dX13_bodyAt_47 0 rfl rfl ?_
          refine wq_iload_n dX13_bodyAt_48 1 rfl rfl ?_
          refine wq_iconst dX13_bodyAt_49 ?_
          refine wq_iadd dX13_bodyAt_50 ?_
          refine wq_iload_n dX13_bodyAt_51 2 rfl rfl ?_
          refine wq_cVi M_M_at (R_M_at Z (a1 + 1) a2 _) ob_26 rfl rfl (by decide) (by decide) (Nat.le_of_ble_eq_true rfl) ln_RX13_119 dX13_bodyAt_52 (fun gr14 x16 J15 => ?_)
          exact wq_iret rfl rfl dX13_bodyAt_55
        · refine wq_iconst dX13_bodyAt_43 ?_
          refine wq_goto 55 dX13_bodyAt_44 (by decide) ?_
          exact wq_iret rfl rfl dX13_bodyAt_55) (fun hj18 => ?_)
    refine WQ.both ((w32 x10) = 0) ?_
    refine wq_if_ne 35 dX13_bodyAt_28 (by decide) rfl (fun c19 => ?_) (fun c19 => ?_)
    · refine wq_iconst dX13_bodyAt_31 ?_
      refine wq_goto 36 dX13_bodyAt_32 (by decide) ?_
      exact WQ.top (if_pos c19) hj18
    · refine wq_iconst dX13_bodyAt_35 ?_
      exact WQ.top (if_neg c19) hj18
  · refine wq_iconst dX13_bodyAt_43 ?_
    refine wq_goto 55 dX13_bodyAt_44 (by decide) ?_
    exact wq_iret rfl rfl dX13_bodyAt_55

noncomputable def f_M_startAt (a1 : Int) (I : Mem) : Option ((Int) × Mem) :=
ltI (sI I 26 0 7 0) fun J1 =>
bnd (f_M_many 0 J1) fun x4 J3 =>
bnd (f_M_in a1 0 (x4 - 1) J3) fun x7 J6 =>
bnd (f_M_fails (if (w32 x7) = 0 then 1 else 0) 1 J6) fun x10 J9 =>
if (w32 x10) = 0 then
bnd (f_M_at 0 a1 J9) fun x13 J12 =>
some (x13, J12)
else
some (0, J9)
set_option maxRecDepth 20000 in
theorem R_M_startAt (Z : ZT) (a1 : Int) (I : Mem) (r : Int) (J : Mem) (hf : f_M_startAt a1 I = some (r, J)) : Runs Z yX13_startAt cX13_startAt 2 (some .int) 2 [vr Z 26 0, vi a1] I (some (vi r), J) := by
  refine Runs.of (rv := fun x => some (vi x)) (by decide +kernel) (Nat.le_of_ble_eq_true rfl) hf (fun gr => ?_)
  unfold f_M_startAt
  refine WQ.loc [0, 1] (lv' := [(0, vr Z 26 0), (1, vi a1)]) rfl ?_
  refine wq_aload_n dX13_startAt_0 0 rfl rfl ?_
  refine wq_iconst dX13_startAt_1 ?_
  refine p_26_7 ln_RX13_100 dX13_startAt_2 (fun J1 => ?_)
  refine wq_aload_n dX13_startAt_5 0 rfl rfl ?_
  refine wq_iload_n dX13_startAt_6 1 rfl rfl ?_
  refine wq_iconst dX13_startAt_7 ?_
  refine wq_aload_n dX13_startAt_8 0 rfl rfl ?_
  refine wq_iconst dX13_startAt_9 ?_
  refine wq_cVi M_M_many (R_M_many Z 0 _) ob_26 rfl rfl (by decide) (by decide) (Nat.le_of_ble_eq_true rfl) ln_RX13_103 dX13_startAt_10 (fun gr2 x4 J3 => ?_)
  refine wq_iconst dX13_startAt_13 ?_
  refine wq_isub dX13_startAt_14 ?_
  refine wq_cSi M_M_in (R_M_in Z a1 0 (x4 - 1) _) rfl rfl rfl (by decide) (by decide) (Nat.le_of_ble_eq_true rfl) ln_RX13_224 dX13_startAt_15 (fun gr5 x7 J6 => ?_)
  refine WQ.via 26 [vi (if (w32 x7) = 0 then 1 else 0), vr Z 26 0] (by
      refine wq_iconst dX13_startAt_26 ?_
      refine wq_cVi M_M_fails (R_M_fails Z (if (w32 x7) = 0 then 1 else 0) 1 _) ob_26 rfl rfl (by decide) (by decide) (Nat.le_of_ble_eq_true rfl) ln_RX13_428 dX13_startAt_27 (fun gr8 x10 J9 => ?_)
      refine wq_if_eq 37 dX13_startAt_30 (by decide) rfl (fun c14 => ?_) (fun c14 => ?_)
      · refine wq_aload_n dX13_startAt_37 0 rfl rfl ?_
        refine wq_iconst dX13_startAt_38 ?_
        refine wq_iload_n dX13_startAt_39 1 rfl rfl ?_
        refine wq_cVi M_M_at (R_M_at Z 0 a1 _) ob_26 rfl rfl (by decide) (by decide) (Nat.le_of_ble_eq_true rfl) ln_RX13_119 dX13_startAt_40 (fun gr11 x13 J12 => ?_)
        exact wq_iret rfl rfl dX13_startAt_43
      · refine wq_iconst dX13_startAt_33 ?_
        refine wq_goto 43 dX13_startAt_34 (by decide) ?_
        exact wq_iret rfl rfl dX13_startAt_43) (fun hj15 => ?_)
  refine WQ.both ((w32 x7) = 0) ?_
  refine wq_if_ne 25 dX13_startAt_18 (by decide) rfl (fun c16 => ?_) (fun c16 => ?_)
  · refine wq_iconst dX13_startAt_21 ?_
    refine wq_goto 26 dX13_startAt_22 (by decide) ?_
    exact WQ.top (if_pos c16) hj15
  · refine wq_iconst dX13_startAt_25 ?_
    exact WQ.top (if_neg c16) hj15

noncomputable def f_M_noPlace (a1 : Int) (I : Mem) : Option ((Int) × Mem) :=
bnd (f_M_unfolds I) fun x3 J2 =>
bnd (f_M_in a1 0 (x3 - 1) J2) fun x6 J5 =>
bnd (f_M_fails (if (w32 x6) = 0 then 1 else 0) 1 J5) fun x9 J8 =>
if x9 = 0 ∨ x9 = 1 then
some (x9, J8)
else none
set_option maxRecDepth 20000 in
theorem R_M_noPlace (Z : ZT) (a1 : Int) (I : Mem) (r : Int) (J : Mem) (hf : f_M_noPlace a1 I = some (r, J)) : Runs Z yX13_noPlace cX13_noPlace 2 (some .boolean) 3 [vr Z 26 0, vi a1] I (some (vi r), J) := by
  refine Runs.of (rv := fun x => some (vi x)) (by decide +kernel) (Nat.le_of_ble_eq_true rfl) hf (fun gr => ?_)
  unfold f_M_noPlace
  refine WQ.loc [0, 1] (lv' := [(0, vr Z 26 0), (1, vi a1)]) rfl ?_
  refine wq_aload_n dX13_noPlace_0 0 rfl rfl ?_
  refine wq_iload_n dX13_noPlace_1 1 rfl rfl ?_
  refine wq_iconst dX13_noPlace_2 ?_
  refine wq_aload_n dX13_noPlace_3 0 rfl rfl ?_
  refine wq_cVi M_M_unfolds (R_M_unfolds Z _) ob_26 rfl rfl (by decide) (by decide) (Nat.le_of_ble_eq_true rfl) ln_RX13_140 dX13_noPlace_4 (fun gr1 x3 J2 => ?_)
  refine wq_iconst dX13_noPlace_7 ?_
  refine wq_isub dX13_noPlace_8 ?_
  refine wq_cSi M_M_in (R_M_in Z a1 0 (x3 - 1) _) rfl rfl rfl (by decide) (by decide) (Nat.le_of_ble_eq_true rfl) ln_RX13_224 dX13_noPlace_9 (fun gr4 x6 J5 => ?_)
  refine WQ.via 20 [vi (if (w32 x6) = 0 then 1 else 0), vr Z 26 0] (by
      refine wq_iconst dX13_noPlace_20 ?_
      refine wq_cVi M_M_fails (R_M_fails Z (if (w32 x6) = 0 then 1 else 0) 1 _) ob_26 rfl rfl (by decide) (by decide) (Nat.le_of_ble_eq_true rfl) ln_RX13_428 dX13_noPlace_21 (fun gr7 x9 J8 => ?_)
      refine wq_grd (fun g10 => ?_)
      exact wq_zret rfl g10 rfl dX13_noPlace_24) (fun hj11 => ?_)
  refine WQ.both ((w32 x6) = 0) ?_
  refine wq_if_ne 19 dX13_noPlace_12 (by decide) rfl (fun c12 => ?_) (fun c12 => ?_)
  · refine wq_iconst dX13_noPlace_15 ?_
    refine wq_goto 20 dX13_noPlace_16 (by decide) ?_
    exact WQ.top (if_pos c12) hj11
  · refine wq_iconst dX13_noPlace_19 ?_
    exact WQ.top (if_neg c12) hj11

theorem M_M_noPlace : MwV yX13_noPlace cX13_noPlace 2 (some .boolean) 1 := ⟨li_9 67 (by decide +kernel) (by decide +kernel), li_9 66 (by decide +kernel) (by decide +kernel), lw_in 126 (by decide +kernel) (by decide +kernel), li_1 16 (by decide +kernel) (by decide +kernel), by decide +kernel⟩
theorem ln_RX13_458 : Cond.methodLink RX13 458 yX13_noPlace ∈ lw_good := li_9 64 (by decide +kernel) (by decide +kernel)
noncomputable def f_M_letterAt (a1 : Int) (I : Mem) : Option ((Int) × Mem) :=
ltI (sI I 26 0 7 0) fun J1 =>
bnd (f_M_noPlace a1 J1) fun x4 J3 =>
if (w32 x4) = 0 then
if 0 ≤ (w32 a1) ∧ (w32 a1) < 401 then
some ((J3 27 7 (w32 a1).toNat), J3)
else none
else
some (0, J3)
set_option maxRecDepth 20000 in
theorem R_M_letterAt (Z : ZT) (a1 : Int) (I : Mem) (r : Int) (J : Mem) (hf : f_M_letterAt a1 I = some (r, J)) : Runs Z yX13_letterAt cX13_letterAt 2 (some .int) 4 [vr Z 26 0, vi a1] I (some (vi r), J) := by
  refine Runs.of (rv := fun x => some (vi x)) (by decide +kernel) (Nat.le_of_ble_eq_true rfl) hf (fun gr => ?_)
  unfold f_M_letterAt
  refine WQ.loc [0, 1] (lv' := [(0, vr Z 26 0), (1, vi a1)]) rfl ?_
  refine wq_aload_n dX13_letterAt_0 0 rfl rfl ?_
  refine wq_iconst dX13_letterAt_1 ?_
  refine p_26_7 ln_RX13_100 dX13_letterAt_2 (fun J1 => ?_)
  refine wq_aload_n dX13_letterAt_5 0 rfl rfl ?_
  refine wq_iload_n dX13_letterAt_6 1 rfl rfl ?_
  refine wq_cVi M_M_noPlace (R_M_noPlace Z a1 _) ob_26 rfl rfl (by decide) (by decide) (Nat.le_of_ble_eq_true rfl) ln_RX13_458 dX13_letterAt_7 (fun gr2 x4 J3 => ?_)
  refine wq_if_eq 17 dX13_letterAt_10 (by decide) rfl (fun c6 => ?_) (fun c6 => ?_)
  · refine wq_aload_n dX13_letterAt_17 0 rfl rfl ?_
    refine g_26_11 ln_RX13_37 dX13_letterAt_18 ?_
    refine wq_iload_n dX13_letterAt_21 1 rfl rfl ?_
    refine wq_grd (fun g5 => ?_)
    refine wq_iald (k := 27) (i := 7) rfl (by decide) rfl rfl (m := 401) g5 (Nat.le_of_ble_eq_true rfl) dX13_letterAt_22 ?_
    exact wq_iret rfl rfl dX13_letterAt_23
  · refine wq_iconst dX13_letterAt_13 ?_
    refine wq_goto 23 dX13_letterAt_14 (by decide) ?_
    exact wq_iret rfl rfl dX13_letterAt_23

noncomputable def f_M_symbolOf (a1 : Int) (I : Mem) : Option ((Int) × Mem) :=
ltI (sI I 26 0 7 0) fun J1 =>
bnd (f_M_noPlace a1 J1) fun x4 J3 =>
if (w32 x4) = 0 then
if 0 ≤ (w32 a1) ∧ (w32 a1) < 401 then
some ((J3 27 8 (w32 a1).toNat), J3)
else none
else
some (0, J3)
set_option maxRecDepth 20000 in
theorem R_M_symbolOf (Z : ZT) (a1 : Int) (I : Mem) (r : Int) (J : Mem) (hf : f_M_symbolOf a1 I = some (r, J)) : Runs Z yX13_symbolOf cX13_symbolOf 2 (some .int) 4 [vr Z 26 0, vi a1] I (some (vi r), J) := by
  refine Runs.of (rv := fun x => some (vi x)) (by decide +kernel) (Nat.le_of_ble_eq_true rfl) hf (fun gr => ?_)
  unfold f_M_symbolOf
  refine WQ.loc [0, 1] (lv' := [(0, vr Z 26 0), (1, vi a1)]) rfl ?_
  refine wq_aload_n dX13_symbolOf_0 0 rfl rfl ?_
  refine wq_iconst dX13_symbolOf_1 ?_
  refine p_26_7 ln_RX13_100 dX13_symbolOf_2 (fun J1 => ?_)
  refine wq_aload_n dX13_symbolOf_5 0 rfl rfl ?_
  refine wq_iload_n dX13_symbolOf_6 1 rfl rfl ?_
  refine wq_cVi M_M_noPlace (R_M_noPlace Z a1 _) ob_26 rfl rfl (by decide) (by decide) (Nat.le_of_ble_eq_true rfl) ln_RX13_458 dX13_symbolOf_7 (fun gr2 x4 J3 => ?_)
  refine wq_if_eq 17 dX13_symbolOf_10 (by decide) rfl (fun c6 => ?_) (fun c6 => ?_)
  · refine wq_aload_n dX13_symbolOf_17 0 rfl rfl ?_
    refine g_26_12 ln_RX13_40 dX13_symbolOf_18 ?_
    refine wq_iload_n dX13_symbolOf_21 1 rfl rfl ?_
    refine wq_grd (fun g5 => ?_)
    refine wq_iald (k := 27) (i := 8) rfl (by decide) rfl rfl (m := 401) g5 (Nat.le_of_ble_eq_true rfl) dX13_symbolOf_22 ?_
    exact wq_iret rfl rfl dX13_symbolOf_23
  · refine wq_iconst dX13_symbolOf_13 ?_
    refine wq_goto 23 dX13_symbolOf_14 (by decide) ?_
    exact wq_iret rfl rfl dX13_symbolOf_23

theorem M_M_lettersOf : MwV yX13_lettersOf cX13_lettersOf 5 (some .int) 1 := ⟨li_9 79 (by decide +kernel) (by decide +kernel), li_9 78 (by decide +kernel) (by decide +kernel), lw_in 127 (by decide +kernel) (by decide +kernel), li_1 16 (by decide +kernel) (by decide +kernel), by decide +kernel⟩
theorem ln_RX13_461 : Cond.methodLink RX13 461 yX13_lettersOf ∈ lw_good := li_9 76 (by decide +kernel) (by decide +kernel)
noncomputable def f_M_letters (a1 : Int) (I : Mem) : Option ((Int) × Mem) :=
ltI (sI I 26 0 7 0) fun J1 =>
bnd (f_M_in a1 0 25 J1) fun x4 J3 =>
bnd (f_M_fails (if (w32 x4) = 0 then 1 else 0) 1 J3) fun x7 J6 =>
if (w32 x7) = 0 then
bnd (f_M_lettersOf a1 J6) fun x10 J9 =>
some (x10, J9)
else
some (0, J6)
set_option maxRecDepth 20000 in
theorem R_M_letters (Z : ZT) (a1 : Int) (I : Mem) (r : Int) (J : Mem) (hf : f_M_letters a1 I = some (r, J)) : Runs Z yX13_letters cX13_letters 2 (some .int) 4 [vr Z 26 0, vi a1] I (some (vi r), J) := by
  refine Runs.of (rv := fun x => some (vi x)) (by decide +kernel) (Nat.le_of_ble_eq_true rfl) hf (fun gr => ?_)
  unfold f_M_letters
  refine WQ.loc [0, 1] (lv' := [(0, vr Z 26 0), (1, vi a1)]) rfl ?_
  refine wq_aload_n dX13_letters_0 0 rfl rfl ?_
  refine wq_iconst dX13_letters_1 ?_
  refine p_26_7 ln_RX13_100 dX13_letters_2 (fun J1 => ?_)
  refine wq_aload_n dX13_letters_5 0 rfl rfl ?_
  refine wq_iload_n dX13_letters_6 1 rfl rfl ?_
  refine wq_iconst dX13_letters_7 ?_
  refine wq_bipush dX13_letters_8 (by decide) ?_
  refine wq_cSi M_M_in (R_M_in Z a1 0 25 _) rfl rfl rfl (by decide) (by decide) (Nat.le_of_ble_eq_true rfl) ln_RX13_224 dX13_letters_10 (fun gr2 x4 J3 => ?_)
  refine WQ.via 21 [vi (if (w32 x4) = 0 then 1 else 0), vr Z 26 0] (by
      refine wq_iconst dX13_letters_21 ?_
      refine wq_cVi M_M_fails (R_M_fails Z (if (w32 x4) = 0 then 1 else 0) 1 _) ob_26 rfl rfl (by decide) (by decide) (Nat.le_of_ble_eq_true rfl) ln_RX13_428 dX13_letters_22 (fun gr5 x7 J6 => ?_)
      refine wq_if_eq 32 dX13_letters_25 (by decide) rfl (fun c11 => ?_) (fun c11 => ?_)
      · refine wq_aload_n dX13_letters_32 0 rfl rfl ?_
        refine wq_iload_n dX13_letters_33 1 rfl rfl ?_
        refine wq_cVi M_M_lettersOf (R_M_lettersOf Z a1 _) ob_26 rfl rfl (by decide) (by decide) (Nat.le_of_ble_eq_true rfl) ln_RX13_461 dX13_letters_34 (fun gr8 x10 J9 => ?_)
        exact wq_iret rfl rfl dX13_letters_37
      · refine wq_iconst dX13_letters_28 ?_
        refine wq_goto 37 dX13_letters_29 (by decide) ?_
        exact wq_iret rfl rfl dX13_letters_37) (fun hj12 => ?_)
  refine WQ.both ((w32 x4) = 0) ?_
  refine wq_if_ne 20 dX13_letters_13 (by decide) rfl (fun c13 => ?_) (fun c13 => ?_)
  · refine wq_iconst dX13_letters_16 ?_
    refine wq_goto 21 dX13_letters_17 (by decide) ?_
    exact WQ.top (if_pos c13) hj12
  · refine wq_iconst dX13_letters_20 ?_
    exact WQ.top (if_neg c13) hj12

noncomputable def f_M_account (a1 : Int) (I : Mem) : Option ((Int) × Mem) :=
ltI (sI I 26 0 7 0) fun J1 =>
bnd (f_M_in a1 0 8 J1) fun x4 J3 =>
bnd (f_M_fails (if (w32 x4) = 0 then 1 else 0) 1 J3) fun x7 J6 =>
if (w32 x7) = 0 then
if 0 ≤ (w32 (6 + a1)) ∧ (w32 (6 + a1)) < 16860 then
some ((J6 27 0 (w32 (6 + a1)).toNat), J6)
else none
else
some (0, J6)
set_option maxRecDepth 20000 in
theorem R_M_account (Z : ZT) (a1 : Int) (I : Mem) (r : Int) (J : Mem) (hf : f_M_account a1 I = some (r, J)) : Runs Z yX13_account cX13_account 2 (some .int) 2 [vr Z 26 0, vi a1] I (some (vi r), J) := by
  refine Runs.of (rv := fun x => some (vi x)) (by decide +kernel) (Nat.le_of_ble_eq_true rfl) hf (fun gr => ?_)
  unfold f_M_account
  refine WQ.loc [0, 1] (lv' := [(0, vr Z 26 0), (1, vi a1)]) rfl ?_
  refine wq_aload_n dX13_account_0 0 rfl rfl ?_
  refine wq_iconst dX13_account_1 ?_
  refine p_26_7 ln_RX13_100 dX13_account_2 (fun J1 => ?_)
  refine wq_aload_n dX13_account_5 0 rfl rfl ?_
  refine wq_iload_n dX13_account_6 1 rfl rfl ?_
  refine wq_iconst dX13_account_7 ?_
  refine wq_bipush dX13_account_8 (by decide) ?_
  refine wq_cSi M_M_in (R_M_in Z a1 0 8 _) rfl rfl rfl (by decide) (by decide) (Nat.le_of_ble_eq_true rfl) ln_RX13_224 dX13_account_10 (fun gr2 x4 J3 => ?_)
  refine WQ.via 21 [vi (if (w32 x4) = 0 then 1 else 0), vr Z 26 0] (by
      refine wq_iconst dX13_account_21 ?_
      refine wq_cVi M_M_fails (R_M_fails Z (if (w32 x4) = 0 then 1 else 0) 1 _) ob_26 rfl rfl (by decide) (by decide) (Nat.le_of_ble_eq_true rfl) ln_RX13_428 dX13_account_22 (fun gr5 x7 J6 => ?_)
      refine wq_if_eq 32 dX13_account_25 (by decide) rfl (fun c9 => ?_) (fun c9 => ?_)
      · refine wq_aload_n dX13_account_32 0 rfl rfl ?_
        refine g_26_0 ln_RX13_9 dX13_account_33 ?_
        refine wq_bipush dX13_account_36 (by decide) ?_
        refine wq_iload_n dX13_account_38 1 rfl rfl ?_
        refine wq_iadd dX13_account_39 ?_
        refine wq_grd (fun g8 => ?_)
        refine wq_iald (k := 27) (i := 0) rfl (by decide) rfl rfl (m := 16860) g8 (Nat.le_of_ble_eq_true rfl) dX13_account_40 ?_
        exact wq_iret rfl rfl dX13_account_41
      · refine wq_iconst dX13_account_28 ?_
        refine wq_goto 41 dX13_account_29 (by decide) ?_
        exact wq_iret rfl rfl dX13_account_41) (fun hj10 => ?_)
  refine WQ.both ((w32 x4) = 0) ?_
  refine wq_if_ne 20 dX13_account_13 (by decide) rfl (fun c11 => ?_) (fun c11 => ?_)
  · refine wq_iconst dX13_account_16 ?_
    refine wq_goto 21 dX13_account_17 (by decide) ?_
    exact WQ.top (if_pos c11) hj10
  · refine wq_iconst dX13_account_20 ?_
    exact WQ.top (if_neg c11) hj10

theorem ln_RX13_464 : Cond.methodLink RX13 464 Lib.Math.abs.name ∈ lw_good := li_9 88 (by decide +kernel) (by decide +kernel)
noncomputable def f_M_gap_w24 (v1 : Int) (s : Int × Int) (I : Mem) : Option (((Int × Int) ⊕ (Int)) × Mem) :=
if (w32 s.2) < (w32 v1) then
if (w32 s.2) < (w32 (I 27 0 3)) then
if 0 ≤ (w32 s.2) ∧ (w32 s.2) < 401 then
if 0 ≤ (w32 (16460 + s.2)) ∧ (w32 (16460 + s.2)) < 16860 then
bnd (f_M_one (if (w32 (I 27 7 (w32 s.2).toNat)) = (w32 (I 27 0 (w32 (16460 + s.2)).toNat)) then 0 else 1) I) fun x11 J10 =>
some (.inl ((s.1 + x11), (s.2 + 1)), J10)
else none
else none
else
some (.inr s.1, I)
else
some (.inr s.1, I)

noncomputable def f_M_gap  (I : Mem) : Option ((Int) × Mem) :=
ltI (sI I 26 0 7 0) fun J1 =>
bnd (f_M_unfolds J1) fun x4 J3 =>
bnd (whl (f_M_gap_w24 x4) ((iab (x4 - (J3 27 0 3))), 0) J3) fun r33 J34 =>
some (r33, J34)
set_option maxRecDepth 20000 in
theorem R_M_gap (Z : ZT)  (I : Mem) (r : Int) (J : Mem) (hf : f_M_gap I = some (r, J)) : Runs Z yX13_gap cX13_gap 4 (some .int) 3 [vr Z 26 0] I (some (vi r), J) := by
  refine Runs.of (rv := fun x => some (vi x)) (by decide +kernel) (Nat.le_of_ble_eq_true rfl) hf (fun gr => ?_)
  unfold f_M_gap
  refine WQ.loc [0] (lv' := [(0, vr Z 26 0)]) rfl ?_
  refine wq_aload_n dX13_gap_0 0 rfl rfl ?_
  refine wq_iconst dX13_gap_1 ?_
  refine p_26_7 ln_RX13_100 dX13_gap_2 (fun J1 => ?_)
  refine wq_aload_n dX13_gap_5 0 rfl rfl ?_
  refine wq_cVi M_M_unfolds (R_M_unfolds Z _) ob_26 rfl rfl (by decide) (by decide) (Nat.le_of_ble_eq_true rfl) ln_RX13_140 dX13_gap_6 (fun gr2 x4 J3 => ?_)
  refine wq_istore_n (lv' := [(1, vi x4), (0, vr Z 26 0)]) dX13_gap_9 rfl (by decide) rfl ?_
  refine wq_iload_n dX13_gap_10 0 rfl rfl ?_
  refine wq_aload_n dX13_gap_11 1 rfl rfl ?_
  refine g_26_0 ln_RX13_9 dX13_gap_12 ?_
  refine wq_iconst dX13_gap_15 ?_
  refine wq_iald (k := 27) (i := 0) rfl (by decide) rfl rfl (m := 16860) (by decide) (Nat.le_of_ble_eq_true rfl) dX13_gap_16 ?_
  refine wq_isub dX13_gap_17 ?_
  refine wq_abs (by decide) (Nat.le_of_ble_eq_true rfl) ln_RX13_464 mt_abs_s mt_i mt_abs_c dX13_gap_18 ?_
  refine wq_istore_n (lv' := [(2, vi (iab (x4 - (J3 27 0 3)))), (1, vi x4), (0, vr Z 26 0)]) dX13_gap_21 rfl (by decide) rfl ?_
  refine wq_iconst dX13_gap_22 ?_
  refine wq_istore_n (lv' := [(3, vi 0), (2, vi (iab (x4 - (J3 27 0 3)))), (1, vi x4), (0, vr Z 26 0)]) dX13_gap_23 rfl (by decide) rfl ?_
  refine WQ.loc [3, 2, 1, 0] (lv' := [(0, vr Z 26 0), (1, vi x4), (2, vi (iab (x4 - (J3 27 0 3)))), (3, vi 0)]) rfl ?_
  refine wq_loopS (fun s22 => [(0, vr Z 26 0), (1, vi x4), (2, vi s22.1), (3, vi s22.2)]) 75 (fun r33 => [(2, vi r33)]) (fun κ16 bk17 ex18 gr21 s22 J20 => ?_) (fun gr35 r33 J34 => ?_) gr2 _ rfl
  · unfold f_M_gap_w24
    refine wq_iload_n dX13_gap_24 3 rfl rfl ?_
    refine wq_iload_n dX13_gap_25 1 rfl rfl ?_
    refine wq_icmp_ge 75 dX13_gap_26 (by decide) rfl rfl (fun c32 => ?_) (fun c32 => ?_)
    · refine wq_iload_n dX13_gap_29 3 rfl rfl ?_
      refine wq_aload_n dX13_gap_30 0 rfl rfl ?_
      refine g_26_0 ln_RX13_9 dX13_gap_31 ?_
      refine wq_iconst dX13_gap_34 ?_
      refine wq_iald (k := 27) (i := 0) rfl (by decide) rfl rfl (m := 16860) (by decide) (Nat.le_of_ble_eq_true rfl) dX13_gap_35 ?_
      refine wq_icmp_ge 75 dX13_gap_36 (by decide) rfl rfl (fun c31 => ?_) (fun c31 => ?_)
      · refine wq_iload_n dX13_gap_39 2 rfl rfl ?_
        refine wq_aload_n dX13_gap_40 0 rfl rfl ?_
        refine g_26_11 ln_RX13_37 dX13_gap_41 ?_
        refine wq_iload_n dX13_gap_44 3 rfl rfl ?_
        refine wq_grd (fun g24 => ?_)
        refine wq_iald (k := 27) (i := 7) rfl (by decide) rfl rfl (m := 401) g24 (Nat.le_of_ble_eq_true rfl) dX13_gap_45 ?_
        refine wq_aload_n dX13_gap_46 0 rfl rfl ?_
        refine g_26_0 ln_RX13_9 dX13_gap_47 ?_
        refine wq_sipush dX13_gap_50 (by decide) ?_
        refine wq_iload_n dX13_gap_53 3 rfl rfl ?_
        refine wq_iadd dX13_gap_54 ?_
        refine wq_grd (fun g25 => ?_)
        refine wq_iald (k := 27) (i := 0) rfl (by decide) rfl rfl (m := 16860) g25 (Nat.le_of_ble_eq_true rfl) dX13_gap_55 ?_
        refine WQ.via 64 [vi (if (w32 (J20 27 7 (w32 s22.2).toNat)) = (w32 (J20 27 0 (w32 (16460 + s22.2)).toNat)) then 0 else 1), vi s22.1] (by
            refine wq_cSi M_M_one (R_M_one Z (if (w32 (J20 27 7 (w32 s22.2).toNat)) = (w32 (J20 27 0 (w32 (16460 + s22.2)).toNat)) then 0 else 1) _) rfl rfl rfl (by decide) (by decide) (Nat.le_of_ble_eq_true rfl) ln_RX13_115 dX13_gap_64 (fun gr26 x28 J27 => ?_)
            refine wq_iadd dX13_gap_67 ?_
            refine wq_istore_n (lv' := [(2, vi (s22.1 + x28)), (0, vr Z 26 0), (1, vi x4), (3, vi s22.2)]) dX13_gap_68 rfl (by decide) rfl ?_
            refine wq_iinc (lv' := [(3, vi (s22.2 + 1)), (2, vi (s22.1 + x28)), (0, vr Z 26 0), (1, vi x4)]) dX13_gap_69 3 rfl (by decide) rfl ?_
            refine wq_goto 24 dX13_gap_72 (by decide) ?_
            exact WQ.loc [2, 3, 1, 0] rfl (bk17 _ _ _)) (fun hj29 => ?_)
        refine WQ.both ((w32 (J20 27 7 (w32 s22.2).toNat)) = (w32 (J20 27 0 (w32 (16460 + s22.2)).toNat))) ?_
        refine wq_icmp_eq 63 dX13_gap_56 (by decide) rfl rfl (fun c30 => ?_) (fun c30 => ?_)
        · refine wq_iconst dX13_gap_63 ?_
          exact WQ.top (if_pos c30) hj29
        · refine wq_iconst dX13_gap_59 ?_
          refine wq_goto 64 dX13_gap_60 (by decide) ?_
          exact WQ.top (if_neg c30) hj29
      · exact WQ.loc [2] rfl (ex18 _ _ _)
    · exact WQ.loc [2] rfl (ex18 _ _ _)
  · refine wq_iload_n dX13_gap_75 0 rfl rfl ?_
    exact wq_iret rfl rfl dX13_gap_76

noncomputable def f_M_rulesGap  (I : Mem) : Option ((Int) × Mem) :=
ltI (sI I 26 0 7 0) fun J1 =>
bnd (f_M_rules J1) fun x9 J8 =>
some (((((((J1 27 0 4) + (J1 27 0 7)) - (J1 27 0 8)) - (J1 27 0 9)) - (J1 27 0 10)) - x9), J8)
set_option maxRecDepth 20000 in
theorem R_M_rulesGap (Z : ZT)  (I : Mem) (r : Int) (J : Mem) (hf : f_M_rulesGap I = some (r, J)) : Runs Z yX13_rulesGap cX13_rulesGap 1 (some .int) 4 [vr Z 26 0] I (some (vi r), J) := by
  refine Runs.of (rv := fun x => some (vi x)) (by decide +kernel) (Nat.le_of_ble_eq_true rfl) hf (fun gr => ?_)
  unfold f_M_rulesGap
  refine WQ.loc [0] (lv' := [(0, vr Z 26 0)]) rfl ?_
  refine wq_aload_n dX13_rulesGap_0 0 rfl rfl ?_
  refine wq_iconst dX13_rulesGap_1 ?_
  refine p_26_7 ln_RX13_100 dX13_rulesGap_2 (fun J1 => ?_)
  refine wq_aload_n dX13_rulesGap_5 0 rfl rfl ?_
  refine g_26_0 ln_RX13_9 dX13_rulesGap_6 ?_
  refine wq_iconst dX13_rulesGap_9 ?_
  refine wq_iald (k := 27) (i := 0) rfl (by decide) rfl rfl (m := 16860) (by decide) (Nat.le_of_ble_eq_true rfl) dX13_rulesGap_10 ?_
  refine wq_aload_n dX13_rulesGap_11 0 rfl rfl ?_
  refine g_26_0 ln_RX13_9 dX13_rulesGap_12 ?_
  refine wq_bipush dX13_rulesGap_15 (by decide) ?_
  refine wq_iald (k := 27) (i := 0) rfl (by decide) rfl rfl (m := 16860) (by decide) (Nat.le_of_ble_eq_true rfl) dX13_rulesGap_17 ?_
  refine wq_iadd dX13_rulesGap_18 ?_
  refine wq_aload_n dX13_rulesGap_19 0 rfl rfl ?_
  refine g_26_0 ln_RX13_9 dX13_rulesGap_20 ?_
  refine wq_bipush dX13_rulesGap_23 (by decide) ?_
  refine wq_iald (k := 27) (i := 0) rfl (by decide) rfl rfl (m := 16860) (by decide) (Nat.le_of_ble_eq_true rfl) dX13_rulesGap_25 ?_
  refine wq_isub dX13_rulesGap_26 ?_
  refine wq_aload_n dX13_rulesGap_27 0 rfl rfl ?_
  refine g_26_0 ln_RX13_9 dX13_rulesGap_28 ?_
  refine wq_bipush dX13_rulesGap_31 (by decide) ?_
  refine wq_iald (k := 27) (i := 0) rfl (by decide) rfl rfl (m := 16860) (by decide) (Nat.le_of_ble_eq_true rfl) dX13_rulesGap_33 ?_
  refine wq_isub dX13_rulesGap_34 ?_
  refine wq_aload_n dX13_rulesGap_35 0 rfl rfl ?_
  refine g_26_0 ln_RX13_9 dX13_rulesGap_36 ?_
  refine wq_bipush dX13_rulesGap_39 (by decide) ?_
  refine wq_iald (k := 27) (i := 0) rfl (by decide) rfl rfl (m := 16860) (by decide) (Nat.le_of_ble_eq_true rfl) dX13_rulesGap_41 ?_
  refine wq_isub dX13_rulesGap_42 ?_
  refine wq_aload_n dX13_rulesGap_43 0 rfl rfl ?_
  refine wq_cVi M_M_rules (R_M_rules Z _) ob_26 rfl rfl (by decide) (by decide) (Nat.le_of_ble_eq_true rfl) ln_RX13_144 dX13_rulesGap_44 (fun gr7 x9 J8 => ?_)
  refine wq_isub dX13_rulesGap_47 ?_
  exact wq_iret rfl rfl dX13_rulesGap_48

noncomputable def f_M_noPair_j21    (I : Mem) : Option ((Int) × Mem) :=
bnd (f_M_fails 1 1 I) fun x16 J15 =>
if x16 = 0 ∨ x16 = 1 then
some (x16, J15)
else none

noncomputable def f_M_noPair (a1 : Int) (a2 : Int) (I : Mem) : Option ((Int) × Mem) :=
bnd (f_M_in a1 0 65 I) fun x3 J2 =>
if (w32 x3) = 0 then
f_M_noPair_j21 J2
else
bnd (f_M_in a2 0 65 J2) fun x7 J6 =>
if (w32 x7) = 0 then
f_M_noPair_j21 J6
else
bnd (f_M_fails 0 1 J6) fun x10 J9 =>
if x10 = 0 ∨ x10 = 1 then
some (x10, J9)
else none
set_option maxRecDepth 20000 in
theorem R_M_noPair (Z : ZT) (a1 : Int) (a2 : Int) (I : Mem) (r : Int) (J : Mem) (hf : f_M_noPair a1 a2 I = some (r, J)) : Runs Z yX13_noPair cX13_noPair 3 (some .boolean) 2 [vr Z 26 0, vi a1, vi a2] I (some (vi r), J) := by
  refine Runs.of (rv := fun x => some (vi x)) (by decide +kernel) (Nat.le_of_ble_eq_true rfl) hf (fun gr => ?_)
  unfold f_M_noPair
  refine WQ.loc [0, 1, 2] (lv' := [(0, vr Z 26 0), (1, vi a1), (2, vi a2)]) rfl ?_
  refine wq_aload_n dX13_noPair_0 0 rfl rfl ?_
  refine wq_iload_n dX13_noPair_1 1 rfl rfl ?_
  refine wq_iconst dX13_noPair_2 ?_
  refine wq_bipush dX13_noPair_3 (by decide) ?_
  refine wq_cSi M_M_in (R_M_in Z a1 0 65 _) rfl rfl rfl (by decide) (by decide) (Nat.le_of_ble_eq_true rfl) ln_RX13_224 dX13_noPair_5 (fun gr1 x3 J2 => ?_)
  have hj4 : ∀ (gr19 : Nat → Nat)   (J18 : Mem), WQ Z (yX13_noPair, cX13_noPair, 3, some .boolean, 2) I gr19 21 [] [vr Z 26 0] J18 (f_M_noPair_j21 J18) (fun b K => some (.inl ((fun x => some (vi x)) b), K)) := by
    intro gr19 J18
    unfold f_M_noPair_j21
    refine wq_iconst dX13_noPair_21 ?_
    refine wq_goto 26 dX13_noPair_22 (by decide) ?_
    refine wq_iconst dX13_noPair_26 ?_
    refine wq_cVi M_M_fails (R_M_fails Z 1 1 _) ob_26 rfl rfl (by decide) (by decide) (Nat.le_of_ble_eq_true rfl) ln_RX13_428 dX13_noPair_27 (fun gr20 x22 J21 => ?_)
    refine wq_grd (fun g23 => ?_)
    exact wq_zret rfl g23 rfl dX13_noPair_30
  refine wq_if_eq 21 dX13_noPair_8 (by decide) rfl (fun c13 => ?_) (fun c13 => ?_)
  · exact WQ.loc [] rfl (hj4 _   _)
  · refine wq_iload_n dX13_noPair_11 2 rfl rfl ?_
    refine wq_iconst dX13_noPair_12 ?_
    refine wq_bipush dX13_noPair_13 (by decide) ?_
    refine wq_cSi M_M_in (R_M_in Z a2 0 65 _) rfl rfl rfl (by decide) (by decide) (Nat.le_of_ble_eq_true rfl) ln_RX13_224 dX13_noPair_15 (fun gr5 x7 J6 => ?_)
    refine wq_if_ne 25 dX13_noPair_18 (by decide) rfl (fun c12 => ?_) (fun c12 => ?_)
    · exact WQ.loc [] rfl (hj4 _   _)
    · refine wq_iconst dX13_noPair_25 ?_
      refine wq_iconst dX13_noPair_26 ?_
      refine wq_cVi M_M_fails (R_M_fails Z 0 1 _) ob_26 rfl rfl (by decide) (by decide) (Nat.le_of_ble_eq_true rfl) ln_RX13_428 dX13_noPair_27 (fun gr8 x10 J9 => ?_)
      refine wq_grd (fun g11 => ?_)
      exact wq_zret rfl g11 rfl dX13_noPair_30

theorem M_M_noPair : MwV yX13_noPair cX13_noPair 3 (some .boolean) 2 := ⟨li_9 125 (by decide +kernel) (by decide +kernel), li_9 124 (by decide +kernel) (by decide +kernel), lw_in 128 (by decide +kernel) (by decide +kernel), li_1 16 (by decide +kernel) (by decide +kernel), by decide +kernel⟩
theorem ln_RX13_475 : Cond.methodLink RX13 475 yX13_noPair ∈ lw_good := li_9 122 (by decide +kernel) (by decide +kernel)
noncomputable def f_M_count (a1 : Int) (a2 : Int) (I : Mem) : Option ((Int) × Mem) :=
ltI (sI I 26 0 7 0) fun J1 =>
bnd (f_M_noPair a1 a2 J1) fun x4 J3 =>
if (w32 x4) = 0 then
bnd (f_M_laysPairs J3) fun _ J6 =>
bnd (f_M_pair a1 a2 J6) fun x10 J9 =>
if 0 ≤ (w32 x10) ∧ (w32 x10) < 4356 then
some ((J9 27 11 (w32 x10).toNat), J9)
else none
else
some (0, J3)
set_option maxRecDepth 20000 in
theorem R_M_count (Z : ZT) (a1 : Int) (a2 : Int) (I : Mem) (r : Int) (J : Mem) (hf : f_M_count a1 a2 I = some (r, J)) : Runs Z yX13_count cX13_count 3 (some .int) 4 [vr Z 26 0, vi a1, vi a2] I (some (vi r), J) := by
  refine Runs.of (rv := fun x => some (vi x)) (by decide +kernel) (Nat.le_of_ble_eq_true rfl) hf (fun gr => ?_)
  unfold f_M_count
  refine WQ.loc [0, 1, 2] (lv' := [(0, vr Z 26 0), (1, vi a1), (2, vi a2)]) rfl ?_
  refine wq_aload_n dX13_count_0 0 rfl rfl ?_
  refine wq_iconst dX13_count_1 ?_
  refine p_26_7 ln_RX13_100 dX13_count_2 (fun J1 => ?_)
  refine wq_aload_n dX13_count_5 0 rfl rfl ?_
  refine wq_iload_n dX13_count_6 1 rfl rfl ?_
  refine wq_iload_n dX13_count_7 2 rfl rfl ?_
  refine wq_cVi M_M_noPair (R_M_noPair Z a1 a2 _) ob_26 rfl rfl (by decide) (by decide) (Nat.le_of_ble_eq_true rfl) ln_RX13_475 dX13_count_8 (fun gr2 x4 J3 => ?_)
  refine wq_if_eq 16 dX13_count_11 (by decide) rfl (fun c12 => ?_) (fun c12 => ?_)
  · refine wq_aload_n dX13_count_16 0 rfl rfl ?_
    refine wq_cVv M_M_laysPairs (R_M_laysPairs Z _) ob_26 rfl rfl (by decide) (by decide) (Nat.le_of_ble_eq_true rfl) ln_RX13_160 dX13_count_17 (fun gr5 _ J6 => ?_)
    refine wq_aload_n dX13_count_20 0 rfl rfl ?_
    refine g_26_15 ln_RX13_49 dX13_count_21 ?_
    refine wq_iload_n dX13_count_24 1 rfl rfl ?_
    refine wq_iload_n dX13_count_25 2 rfl rfl ?_
    refine wq_cSi M_M_pair (R_M_pair Z a1 a2 _) rfl rfl rfl (by decide) (by decide) (Nat.le_of_ble_eq_true rfl) ln_RX13_147 dX13_count_26 (fun gr8 x10 J9 => ?_)
    refine wq_grd (fun g11 => ?_)
    refine wq_iald (k := 27) (i := 11) rfl (by decide) rfl rfl (m := 4356) g11 (Nat.le_of_ble_eq_true rfl) dX13_count_29 ?_
    exact wq_iret rfl rfl dX13_count_30
  · refine wq_iconst dX13_count_14 ?_
    exact wq_iret rfl rfl dX13_count_15

noncomputable def f_M_best (a1 : Int) (I : Mem) : Option ((Int) × Mem) :=
ltI (sI I 26 0 7 0) fun J1 =>
bnd (f_M_in a1 0 4 J1) fun x4 J3 =>
bnd (f_M_fails (if (w32 x4) = 0 then 1 else 0) 1 J3) fun x7 J6 =>
if (w32 x7) = 0 then
bnd (f_M_bestPair J6) fun x10 J9 =>
if (w32 x10) = (-1) then
if (w32 a1) = 4 then
some (0, J9)
else
some ((-1), J9)
else
if (w32 a1) = 0 then
some ((idv x10 66), J9)
else if (w32 a1) = 1 then
some ((irm x10 66), J9)
else if (w32 a1) = 2 then
if 0 ≤ (w32 x10) ∧ (w32 x10) < 4356 then
some ((J9 27 11 (w32 x10).toNat), J9)
else none
else if (w32 a1) = 3 then
if 0 ≤ (w32 x10) ∧ (w32 x10) < 4356 then
some ((J9 27 13 (w32 x10).toNat), J9)
else none
else if 0 ≤ (w32 x10) ∧ (w32 x10) < 4356 then
bnd (f_M_worthy (J9 27 11 (w32 x10).toNat) J9) fun x20 J19 =>
some (x20, J19)
else none
else
some (0, J6)
set_option maxRecDepth 20000 in
theorem R_M_best (Z : ZT) (a1 : Int) (I : Mem) (r : Int) (J : Mem) (hf : f_M_best a1 I = some (r, J)) : Runs Z yX13_best cX13_best 3 (some .int) 5 [vr Z 26 0, vi a1] I (some (vi r), J) := by
  refine Runs.of (rv := fun x => some (vi x)) (by decide +kernel) (Nat.le_of_ble_eq_true rfl) hf (fun gr => ?_)
  unfold f_M_best
  refine WQ.loc [0, 1] (lv' := [(0, vr Z 26 0), (1, vi a1)]) rfl ?_
  refine wq_aload_n dX13_best_0 0 rfl rfl ?_
  refine wq_iconst dX13_best_1 ?_
  refine p_26_7 ln_RX13_100 dX13_best_2 (fun J1 => ?_)
  refine wq_aload_n dX13_best_5 0 rfl rfl ?_
  refine wq_iload_n dX13_best_6 1 rfl rfl ?_
  refine wq_iconst dX13_best_7 ?_
  refine wq_iconst dX13_best_8 ?_
  refine wq_cSi M_M_in (R_M_in Z a1 0 4 _) rfl rfl rfl (by decide) (by decide) (Nat.le_of_ble_eq_true rfl) ln_RX13_224 dX13_best_9 (fun gr2 x4 J3 => ?_)
  refine WQ.via 20 [vi (if (w32 x4) = 0 then 1 else 0), vr Z 26 0] (by
      refine wq_iconst dX13_best_20 ?_
      refine wq_cVi M_M_fails (R_M_fails Z (if (w32 x4) = 0 then 1 else 0) 1 _) ob_26 rfl rfl (by decide) (by decide) (Nat.le_of_ble_eq_true rfl) ln_RX13_428 dX13_best_21 (fun gr5 x7 J6 => ?_)
      refine wq_if_eq 29 dX13_best_24 (by decide) rfl (fun c23 => ?_) (fun c23 => ?_)
      · refine wq_aload_n dX13_best_29 0 rfl rfl ?_
        refine wq_cVi M_M_bestPair (R_M_bestPair Z _) ob_26 rfl rfl (by decide) (by decide) (Nat.le_of_ble_eq_true rfl) ln_RX13_195 dX13_best_30 (fun gr8 x10 J9 => ?_)
        refine wq_istore_n (lv' := [(2, vi x10), (0, vr Z 26 0), (1, vi a1)]) dX13_best_33 rfl (by decide) rfl ?_
        refine wq_iload_n dX13_best_34 0 rfl rfl ?_
        refine wq_iconst dX13_best_35 ?_
        refine wq_icmp_ne 50 dX13_best_36 (by decide) rfl rfl (fun c22 => ?_) (fun c22 => ?_)
        · refine wq_iload_n dX13_best_39 2 rfl rfl ?_
          refine wq_iconst dX13_best_40 ?_
          refine wq_icmp_ne 48 dX13_best_41 (by decide) rfl rfl (fun c21 => ?_) (fun c21 => ?_)
          · refine wq_iconst dX13_best_44 ?_
            refine wq_goto 49 dX13_best_45 (by decide) ?_
            exact wq_iret rfl rfl dX13_best_49
          · refine wq_iconst dX13_best_48 ?_
            exact wq_iret rfl rfl dX13_best_49
        · refine wq_iload_n dX13_best_50 2 rfl rfl ?_
          refine WQ.split (fun c11 => ?_) (fun c11 => ?_)
          · refine wq_tin (n := 0) 80 dX13_best_51 rfl c11 (by decide) (by decide) rfl (by decide) ?_
            refine wq_iload_n dX13_best_80 0 rfl rfl ?_
            refine wq_bipush dX13_best_81 (by decide) ?_
            refine wq_idiv dX13_best_83 (by decide) ?_
            exact wq_iret rfl rfl dX13_best_84
          · skip
            refine WQ.split (fun c12 => ?_) (fun c12 => ?_)
            · refine wq_tin (n := 1) 85 dX13_best_51 rfl c12 (by decide) (by decide) rfl (by decide) ?_
              refine wq_iload_n dX13_best_85 0 rfl rfl ?_
              refine wq_bipush dX13_best_86 (by decide) ?_
              refine wq_irem dX13_best_88 (by decide) ?_
              exact wq_iret rfl rfl dX13_best_89
            · skip
              refine WQ.split (fun c14 => ?_) (fun c14 => ?_)
              · refine wq_tin (n := 2) 90 dX13_best_51 rfl c14 (by decide) (by decide) rfl (by decide) ?_
                refine wq_aload_n dX13_best_90 1 rfl rfl ?_
                refine g_26_15 ln_RX13_49 dX13_best_91 ?_
                refine wq_iload_n dX13_best_94 0 rfl rfl ?_
                refine wq_grd (fun g13 => ?_)
                refine wq_iald (k := 27) (i := 11) rfl (by decide) rfl rfl (m := 4356) g13 (Nat.le_of_ble_eq_true rfl) dX13_best_95 ?_
                exact wq_iret rfl rfl dX13_best_96
              · skip
                refine WQ.split (fun c16 => ?_) (fun c16 => ?_)
                · refine wq_tin (n := 3) 97 dX13_best_51 rfl c16 (by decide) (by decide) rfl (by decide) ?_
                  refine wq_aload_n dX13_best_97 1 rfl rfl ?_
                  refine g_26_17 ln_RX13_55 dX13_best_98 ?_
                  refine wq_iload_n dX13_best_101 0 rfl rfl ?_
                  refine wq_grd (fun g15 => ?_)
                  refine wq_iald (k := 27) (i := 13) rfl (by decide) rfl rfl (m := 4356) g15 (Nat.le_of_ble_eq_true rfl) dX13_best_102 ?_
                  exact wq_iret rfl rfl dX13_best_103
                · skip
                  refine wq_tout 104 dX13_best_51 rfl (by omega) (by decide) ?_
                  refine wq_aload_n dX13_best_104 1 rfl rfl ?_
                  refine wq_aload_n dX13_best_105 1 rfl rfl ?_
                  refine g_26_15 ln_RX13_49 dX13_best_106 ?_
                  refine wq_iload_n dX13_best_109 0 rfl rfl ?_
                  refine wq_grd (fun g17 => ?_)
                  refine wq_iald (k := 27) (i := 11) rfl (by decide) rfl rfl (m := 4356) g17 (Nat.le_of_ble_eq_true rfl) dX13_best_110 ?_
                  refine wq_cVi M_M_worthy (R_M_worthy Z (J9 27 11 (w32 x10).toNat) _) ob_26 rfl rfl (by decide) (by decide) (Nat.le_of_ble_eq_true rfl) ln_RX13_425 dX13_best_111 (fun gr18 x20 J19 => ?_)
                  exact wq_iret rfl rfl dX13_best_114
      · refine wq_iconst dX13_best_27 ?_
        exact wq_iret rfl rfl dX13_best_28) (fun hj24 => ?_)
  refine WQ.both ((w32 x4) = 0) ?_
  refine wq_if_ne 19 dX13_best_12 (by decide) rfl (fun c25 => ?_) (fun c25 => ?_)
  · refine wq_iconst dX13_best_15 ?_
    refine wq_goto 20 dX13_best_16 (by decide) ?_
    exact WQ.top (if_pos c25) hj24
  · refine wq_iconst dX13_best_19 ?_
    exact WQ.top (if_neg c25) hj24

noncomputable def f_M_why_j90 (v3 : Int) (v4 : Int)   (I : Mem) : Option ((Int) × Mem) :=
if (w32 v3) = (w32 v4) then
some (0, I)
else
if 0 ≤ (w32 v3) ∧ (w32 v3) < 4356 then
if 0 ≤ (w32 v4) ∧ (w32 v4) < 4356 then
if (w32 (I 27 11 (w32 v4).toNat)) < (w32 (I 27 11 (w32 v3).toNat)) then
some (4, I)
else
some (5, I)
else none
else none

noncomputable def f_M_why_j69 (v3 : Int) (v4 : Int)   (I : Mem) : Option ((Int) × Mem) :=
if 0 ≤ (w32 v4) ∧ (w32 v4) < 4356 then
if (w32 (I 27 13 (w32 v4).toNat)) = (-1) then
bnd (f_M_freeRule I) fun x20 J19 =>
if (w32 x20) = (-1) then
some (3, J19)
else
f_M_why_j90 v3 v4 J19
else
f_M_why_j90 v3 v4 I
else none

noncomputable def f_M_why (a1 : Int) (a2 : Int) (I : Mem) : Option ((Int) × Mem) :=
ltI (sI I 26 0 7 0) fun J1 =>
bnd (f_M_noPair a1 a2 J1) fun x4 J3 =>
if (w32 x4) = 0 then
bnd (f_M_bestPair J3) fun x7 J6 =>
bnd (f_M_pair a1 a2 J6) fun x10 J9 =>
if 0 ≤ (w32 x10) ∧ (w32 x10) < 4356 then
if (w32 (J9 27 11 (w32 x10).toNat)) = 0 then
some (1, J9)
else
if (w32 (J9 27 13 (w32 x10).toNat)) = (-1) then
if (w32 (J9 27 11 (w32 x10).toNat)) < (w32 (J9 27 0 0)) then
some (2, J9)
else
f_M_why_j69 x7 x10 J9
else
f_M_why_j69 x7 x10 J9
else none
else
some (0, J3)
set_option maxRecDepth 20000 in
theorem R_M_why (Z : ZT) (a1 : Int) (a2 : Int) (I : Mem) (r : Int) (J : Mem) (hf : f_M_why a1 a2 I = some (r, J)) : Runs Z yX13_why cX13_why 5 (some .int) 5 [vr Z 26 0, vi a1, vi a2] I (some (vi r), J) := by
  refine Runs.of (rv := fun x => some (vi x)) (by decide +kernel) (Nat.le_of_ble_eq_true rfl) hf (fun gr => ?_)
  unfold f_M_why
  refine WQ.loc [0, 1, 2] (lv' := [(0, vr Z 26 0), (1, vi a1), (2, vi a2)]) rfl ?_
  refine wq_aload_n dX13_why_0 0 rfl rfl ?_
  refine wq_iconst dX13_why_1 ?_
  refine p_26_7 ln_RX13_100 dX13_why_2 (fun J1 => ?_)
  refine wq_aload_n dX13_why_5 0 rfl rfl ?_
  refine wq_iload_n dX13_why_6 1 rfl rfl ?_
  refine wq_iload_n dX13_why_7 2 rfl rfl ?_
  refine wq_cVi M_M_noPair (R_M_noPair Z a1 a2 _) ob_26 rfl rfl (by decide) (by decide) (Nat.le_of_ble_eq_true rfl) ln_RX13_475 dX13_why_8 (fun gr2 x4 J3 => ?_)
  refine wq_if_eq 16 dX13_why_11 (by decide) rfl (fun c49 => ?_) (fun c49 => ?_)
  · refine wq_aload_n dX13_why_16 0 rfl rfl ?_
    refine wq_cVi M_M_bestPair (R_M_bestPair Z _) ob_26 rfl rfl (by decide) (by decide) (Nat.le_of_ble_eq_true rfl) ln_RX13_195 dX13_why_17 (fun gr5 x7 J6 => ?_)
    refine wq_istore_n (lv' := [(3, vi x7), (0, vr Z 26 0), (1, vi a1), (2, vi a2)]) dX13_why_20 rfl (by decide) rfl ?_
    refine wq_iload_n dX13_why_21 2 rfl rfl ?_
    refine wq_iload_n dX13_why_22 3 rfl rfl ?_
    refine wq_cSi M_M_pair (R_M_pair Z a1 a2 _) rfl rfl rfl (by decide) (by decide) (Nat.le_of_ble_eq_true rfl) ln_RX13_147 dX13_why_23 (fun gr8 x10 J9 => ?_)
    refine wq_istore (lv' := [(4, vi x10), (3, vi x7), (0, vr Z 26 0), (1, vi a1), (2, vi a2)]) dX13_why_26 (by decide) rfl ?_
    refine wq_aload_n dX13_why_28 2 rfl rfl ?_
    refine g_26_15 ln_RX13_49 dX13_why_29 ?_
    refine wq_iload dX13_why_32 0 rfl ?_
    refine wq_grd (fun g11 => ?_)
    refine wq_iald (k := 27) (i := 11) rfl (by decide) rfl rfl (m := 4356) g11 (Nat.le_of_ble_eq_true rfl) dX13_why_34 ?_
    refine wq_if_ne 40 dX13_why_35 (by decide) rfl (fun c48 => ?_) (fun c48 => ?_)
    · refine wq_iconst dX13_why_38 ?_
      exact wq_iret rfl rfl dX13_why_39
    · refine wq_aload_n dX13_why_40 2 rfl rfl ?_
      refine g_26_17 ln_RX13_55 dX13_why_41 ?_
      refine wq_iload dX13_why_44 0 rfl ?_
      refine wq_iald (k := 27) (i := 13) rfl (by decide) rfl rfl (m := 4356) g11 (Nat.le_of_ble_eq_true rfl) dX13_why_46 ?_
      refine wq_iconst dX13_why_47 ?_
      have hj12 : ∀ (gr34 : Nat → Nat)   (J33 : Mem), WQ Z (yX13_why, cX13_why, 5, some .int, 5) I gr34 69 [(0, vr Z 26 0), (3, vi x7), (4, vi x10)] [] J33 (f_M_why_j69 x7 x10 J33) (fun b K => some (.inl ((fun x => some (vi x)) b), K)) := by
        intro gr34 J33
        unfold f_M_why_j69
        refine wq_aload_n dX13_why_69 0 rfl rfl ?_
        refine g_26_17 ln_RX13_55 dX13_why_70 ?_
        refine wq_iload dX13_why_73 2 rfl ?_
        refine wq_grd (fun g35 => ?_)
        refine wq_iald (k := 27) (i := 13) rfl (by decide) rfl rfl (m := 4356) g35 (Nat.le_of_ble_eq_true rfl) dX13_why_75 ?_
        refine wq_iconst dX13_why_76 ?_
        have hj36 : ∀ (gr43 : Nat → Nat)   (J42 : Mem), WQ Z (yX13_why, cX13_why, 5, some .int, 5) I gr43 90 [(0, vr Z 26 0), (3, vi x7), (4, vi x10)] [] J42 (f_M_why_j90 x7 x10 J42) (fun b K => some (.inl ((fun x => some (vi x)) b), K)) := by
          intro gr43 J42
          unfold f_M_why_j90
          refine wq_iload_n dX13_why_90 1 rfl rfl ?_
          refine wq_iload dX13_why_91 2 rfl ?_
          refine wq_icmp_ne 100 dX13_why_93 (by decide) rfl rfl (fun c47 => ?_) (fun c47 => ?_)
          · refine wq_iconst dX13_why_96 ?_
            refine wq_goto 121 dX13_why_97 (by decide) ?_
            exact wq_iret rfl rfl dX13_why_121
          · refine wq_aload_n dX13_why_100 0 rfl rfl ?_
            refine g_26_15 ln_RX13_49 dX13_why_101 ?_
            refine wq_iload_n dX13_why_104 1 rfl rfl ?_
            refine wq_grd (fun g44 => ?_)
            refine wq_iald (k := 27) (i := 11) rfl (by decide) rfl rfl (m := 4356) g44 (Nat.le_of_ble_eq_true rfl) dX13_why_105 ?_
            refine wq_aload_n dX13_why_106 0 rfl rfl ?_
            refine g_26_15 ln_RX13_49 dX13_why_107 ?_
            refine wq_iload dX13_why_110 2 rfl ?_
            refine wq_grd (fun g45 => ?_)
            refine wq_iald (k := 27) (i := 11) rfl (by decide) rfl rfl (m := 4356) g45 (Nat.le_of_ble_eq_true rfl) dX13_why_112 ?_
            refine wq_icmp_le 120 dX13_why_113 (by decide) rfl rfl (fun c46 => ?_) (fun c46 => ?_)
            · refine wq_iconst dX13_why_116 ?_
              refine wq_goto 121 dX13_why_117 (by decide) ?_
              exact wq_iret rfl rfl dX13_why_121
            · refine wq_iconst dX13_why_120 ?_
              exact wq_iret rfl rfl dX13_why_121
        refine wq_icmp_ne 90 dX13_why_77 (by decide) rfl rfl (fun c41 => ?_) (fun c41 => ?_)
        · refine wq_aload_n dX13_why_80 0 rfl rfl ?_
          refine wq_cVi M_M_freeRule (R_M_freeRule Z _) ob_26 rfl rfl (by decide) (by decide) (Nat.le_of_ble_eq_true rfl) ln_RX13_163 dX13_why_81 (fun gr37 x39 J38 => ?_)
          refine wq_iconst dX13_why_84 ?_
          refine wq_icmp_ne 90 dX13_why_85 (by decide) rfl rfl (fun c40 => ?_) (fun c40 => ?_)
          · refine wq_iconst dX13_why_88 ?_
            exact wq_iret rfl rfl dX13_why_89
          · exact WQ.loc [0, 1, 2] rfl (hj36 _   _)
        · exact WQ.loc [0, 1, 2] rfl (hj36 _   _)
      refine wq_icmp_ne 69 dX13_why_48 (by decide) rfl rfl (fun c15 => ?_) (fun c15 => ?_)
      · refine wq_aload_n dX13_why_51 2 rfl rfl ?_
        refine g_26_15 ln_RX13_49 dX13_why_52 ?_
        refine wq_iload dX13_why_55 0 rfl ?_
        refine wq_iald (k := 27) (i := 11) rfl (by decide) rfl rfl (m := 4356) g11 (Nat.le_of_ble_eq_true rfl) dX13_why_57 ?_
        refine wq_aload_n dX13_why_58 2 rfl rfl ?_
        refine g_26_0 ln_RX13_9 dX13_why_59 ?_
        refine wq_iconst dX13_why_62 ?_
        refine wq_iald (k := 27) (i := 0) rfl (by decide) rfl rfl (m := 16860) (by decide) (Nat.le_of_ble_eq_true rfl) dX13_why_63 ?_
        refine wq_icmp_ge 69 dX13_why_64 (by decide) rfl rfl (fun c14 => ?_) (fun c14 => ?_)
        · refine wq_iconst dX13_why_67 ?_
          exact wq_iret rfl rfl dX13_why_68
        · exact WQ.loc [2, 1, 0] rfl (hj12 _   _)
      · exact WQ.loc [2, 1, 0] rfl (hj12 _   _)
  · refine wq_iconst dX13_why_14 ?_
    exact wq_iret rfl rfl dX13_why_15

noncomputable def f_M_gain (a1 : Int) (a2 : Int) (I : Mem) : Option ((Int) × Mem) :=
ltI (sI I 26 0 7 0) fun J1 =>
bnd (f_M_noPair a1 a2 J1) fun x4 J3 =>
if (w32 x4) = 0 then
bnd (f_M_laysPairs J3) fun _ J6 =>
bnd (f_M_pair a1 a2 J6) fun x10 J9 =>
if 0 ≤ (w32 x10) ∧ (w32 x10) < 4356 then
if (w32 (J9 27 11 (w32 x10).toNat)) = 0 then
some (0, J9)
else
some (((J9 27 11 (w32 x10).toNat) - (if (w32 (J9 27 13 (w32 x10).toNat)) = (-1) then 2 else 0)), J9)
else none
else
some (0, J3)
set_option maxRecDepth 20000 in
theorem R_M_gain (Z : ZT) (a1 : Int) (a2 : Int) (I : Mem) (r : Int) (J : Mem) (hf : f_M_gain a1 a2 I = some (r, J)) : Runs Z yX13_gain cX13_gain 4 (some .int) 4 [vr Z 26 0, vi a1, vi a2] I (some (vi r), J) := by
  refine Runs.of (rv := fun x => some (vi x)) (by decide +kernel) (Nat.le_of_ble_eq_true rfl) hf (fun gr => ?_)
  unfold f_M_gain
  refine WQ.loc [0, 1, 2] (lv' := [(0, vr Z 26 0), (1, vi a1), (2, vi a2)]) rfl ?_
  refine wq_aload_n dX13_gain_0 0 rfl rfl ?_
  refine wq_iconst dX13_gain_1 ?_
  refine p_26_7 ln_RX13_100 dX13_gain_2 (fun J1 => ?_)
  refine wq_aload_n dX13_gain_5 0 rfl rfl ?_
  refine wq_iload_n dX13_gain_6 1 rfl rfl ?_
  refine wq_iload_n dX13_gain_7 2 rfl rfl ?_
  refine wq_cVi M_M_noPair (R_M_noPair Z a1 a2 _) ob_26 rfl rfl (by decide) (by decide) (Nat.le_of_ble_eq_true rfl) ln_RX13_475 dX13_gain_8 (fun gr2 x4 J3 => ?_)
  refine wq_if_eq 16 dX13_gain_11 (by decide) rfl (fun c15 => ?_) (fun c15 => ?_)
  · refine wq_aload_n dX13_gain_16 0 rfl rfl ?_
    refine wq_cVv M_M_laysPairs (R_M_laysPairs Z _) ob_26 rfl rfl (by decide) (by decide) (Nat.le_of_ble_eq_true rfl) ln_RX13_160 dX13_gain_17 (fun gr5 _ J6 => ?_)
    refine wq_iload_n dX13_gain_20 1 rfl rfl ?_
    refine wq_iload_n dX13_gain_21 2 rfl rfl ?_
    refine wq_cSi M_M_pair (R_M_pair Z a1 a2 _) rfl rfl rfl (by decide) (by decide) (Nat.le_of_ble_eq_true rfl) ln_RX13_147 dX13_gain_22 (fun gr8 x10 J9 => ?_)
    refine wq_istore_n (lv' := [(3, vi x10), (0, vr Z 26 0), (1, vi a1), (2, vi a2)]) dX13_gain_25 rfl (by decide) rfl ?_
    refine wq_aload_n dX13_gain_26 1 rfl rfl ?_
    refine g_26_15 ln_RX13_49 dX13_gain_27 ?_
    refine wq_iload_n dX13_gain_30 0 rfl rfl ?_
    refine wq_grd (fun g11 => ?_)
    refine wq_iald (k := 27) (i := 11) rfl (by decide) rfl rfl (m := 4356) g11 (Nat.le_of_ble_eq_true rfl) dX13_gain_31 ?_
    refine wq_if_ne 39 dX13_gain_32 (by decide) rfl (fun c14 => ?_) (fun c14 => ?_)
    · refine wq_iconst dX13_gain_35 ?_
      refine wq_goto 61 dX13_gain_36 (by decide) ?_
      exact wq_iret rfl rfl dX13_gain_61
    · refine wq_aload_n dX13_gain_39 1 rfl rfl ?_
      refine g_26_15 ln_RX13_49 dX13_gain_40 ?_
      refine wq_iload_n dX13_gain_43 0 rfl rfl ?_
      refine wq_iald (k := 27) (i := 11) rfl (by decide) rfl rfl (m := 4356) g11 (Nat.le_of_ble_eq_true rfl) dX13_gain_44 ?_
      refine wq_aload_n dX13_gain_45 1 rfl rfl ?_
      refine g_26_17 ln_RX13_55 dX13_gain_46 ?_
      refine wq_iload_n dX13_gain_49 0 rfl rfl ?_
      refine wq_iald (k := 27) (i := 13) rfl (by decide) rfl rfl (m := 4356) g11 (Nat.le_of_ble_eq_true rfl) dX13_gain_50 ?_
      refine wq_iconst dX13_gain_51 ?_
      refine WQ.via 60 [vi (if (w32 (J9 27 13 (w32 x10).toNat)) = (-1) then 2 else 0), vi (J9 27 11 (w32 x10).toNat)] (by
          refine wq_isub dX13_gain_60 ?_
          exact wq_iret rfl rfl dX13_gain_61) (fun hj12 => ?_)
      refine WQ.both ((w32 (J9 27 13 (w32 x10).toNat)) = (-1)) ?_
      refine wq_icmp_ne 59 dX13_gain_52 (by decide) rfl rfl (fun c13 => ?_) (fun c13 => ?_)
      · refine wq_iconst dX13_gain_55 ?_
        refine wq_goto 60 dX13_gain_56 (by decide) ?_
        exact WQ.top (if_pos c13) hj12
      · refine wq_iconst dX13_gain_59 ?_
        exact WQ.top (if_neg c13) hj12
  · refine wq_iconst dX13_gain_14 ?_
    exact wq_iret rfl rfl dX13_gain_15

noncomputable def f_M_stepsLeft_w11  (s : Int) (I : Mem) : Option (((Int) ⊕ (Int)) × Mem) :=
bnd (f_M_steps I) fun x7 J6 =>
if (w32 x7) = 0 then
some (.inr s, J6)
else
some (.inl (s + 1), J6)

noncomputable def f_M_stepsLeft  (I : Mem) : Option ((Int) × Mem) :=
ltI (sI I 26 0 7 0) fun J1 =>
bnd (f_M_aside J1) fun _ J3 =>
bnd (whl (f_M_stepsLeft_w11) 0 J3) fun r20 J21 =>
bnd (f_M_back r20 J21) fun x25 J24 =>
some (x25, J24)
set_option maxRecDepth 20000 in
theorem R_M_stepsLeft (Z : ZT)  (I : Mem) (r : Int) (J : Mem) (hf : f_M_stepsLeft I = some (r, J)) : Runs Z yX13_stepsLeft cX13_stepsLeft 2 (some .int) 7 [vr Z 26 0] I (some (vi r), J) := by
  refine Runs.of (rv := fun x => some (vi x)) (by decide +kernel) (Nat.le_of_ble_eq_true rfl) hf (fun gr => ?_)
  unfold f_M_stepsLeft
  refine WQ.loc [0] (lv' := [(0, vr Z 26 0)]) rfl ?_
  refine wq_aload_n dX13_stepsLeft_0 0 rfl rfl ?_
  refine wq_iconst dX13_stepsLeft_1 ?_
  refine p_26_7 ln_RX13_100 dX13_stepsLeft_2 (fun J1 => ?_)
  refine wq_aload_n dX13_stepsLeft_5 0 rfl rfl ?_
  refine wq_cVv M_M_aside (R_M_aside Z _) ob_26 rfl rfl (by decide) (by decide) (Nat.le_of_ble_eq_true rfl) ln_RX13_330 dX13_stepsLeft_6 (fun gr2 _ J3 => ?_)
  refine wq_iconst dX13_stepsLeft_9 ?_
  refine wq_istore_n (lv' := [(1, vi 0), (0, vr Z 26 0)]) dX13_stepsLeft_10 rfl (by decide) rfl ?_
  refine WQ.loc [1, 0] (lv' := [(0, vr Z 26 0), (1, vi 0)]) rfl ?_
  refine wq_loopS (fun s15 => [(0, vr Z 26 0), (1, vi s15)]) 24 (fun r20 => [(0, vr Z 26 0), (1, vi r20)]) (fun κ9 bk10 ex11 gr14 s15 J13 => ?_) (fun gr22 r20 J21 => ?_) gr2 _ rfl
  · unfold f_M_stepsLeft_w11
    refine wq_aload_n dX13_stepsLeft_11 0 rfl rfl ?_
    refine wq_cVi M_M_steps (R_M_steps Z _) ob_26 rfl rfl (by decide) (by decide) (Nat.le_of_ble_eq_true rfl) ln_RX13_204 dX13_stepsLeft_12 (fun gr16 x18 J17 => ?_)
    refine wq_if_eq 24 dX13_stepsLeft_15 (by decide) rfl (fun c19 => ?_) (fun c19 => ?_)
    · exact WQ.loc [0, 1] rfl (ex11 _ _ _)
    · refine wq_iinc (lv' := [(1, vi (s15 + 1)), (0, vr Z 26 0)]) dX13_stepsLeft_18 1 rfl (by decide) rfl ?_
      refine wq_goto 11 dX13_stepsLeft_21 (by decide) ?_
      exact WQ.loc [1, 0] rfl (bk10 _ _ _)
  · refine wq_aload_n dX13_stepsLeft_24 0 rfl rfl ?_
    refine wq_iload_n dX13_stepsLeft_25 1 rfl rfl ?_
    refine wq_cVi M_M_back (R_M_back Z r20 _) ob_26 rfl rfl (by decide) (by decide) (Nat.le_of_ble_eq_true rfl) ln_RX13_339 dX13_stepsLeft_26 (fun gr23 x25 J24 => ?_)
    exact wq_iret rfl rfl dX13_stepsLeft_29

theorem M_M_stepsMany : MwV yX13_stepsMany cX13_stepsMany 3 (some .int) 1 := ⟨li_8 128 (by decide +kernel) (by decide +kernel), li_8 127 (by decide +kernel) (by decide +kernel), lw_in 88 (by decide +kernel) (by decide +kernel), li_1 16 (by decide +kernel) (by decide +kernel), by decide +kernel⟩
theorem ln_RX13_391 : Cond.methodLink RX13 391 yX13_stepsMany ∈ lw_good := li_8 125 (by decide +kernel) (by decide +kernel)
noncomputable def f_M_sizeIn (a1 : Int) (I : Mem) : Option ((Int) × Mem) :=
ltI (sI I 26 0 7 0) fun J1 =>
bnd (f_M_in a1 0 100 J1) fun x4 J3 =>
bnd (f_M_fails (if (w32 x4) = 0 then 1 else 0) 1 J3) fun x7 J6 =>
if (w32 x7) = 0 then
bnd (f_M_aside J6) fun _ J9 =>
bnd (f_M_stepsMany a1 J9) fun x13 J12 =>
bnd (f_M_sizeNow J12) fun x16 J15 =>
bnd (f_M_back x16 J15) fun x19 J18 =>
some (x19, J18)
else
some (0, J6)
set_option maxRecDepth 20000 in
theorem R_M_sizeIn (Z : ZT) (a1 : Int) (I : Mem) (r : Int) (J : Mem) (hf : f_M_sizeIn a1 I = some (r, J)) : Runs Z yX13_sizeIn cX13_sizeIn 3 (some .int) 8 [vr Z 26 0, vi a1] I (some (vi r), J) := by
  refine Runs.of (rv := fun x => some (vi x)) (by decide +kernel) (Nat.le_of_ble_eq_true rfl) hf (fun gr => ?_)
  unfold f_M_sizeIn
  refine WQ.loc [0, 1] (lv' := [(0, vr Z 26 0), (1, vi a1)]) rfl ?_
  refine wq_aload_n dX13_sizeIn_0 0 rfl rfl ?_
  refine wq_iconst dX13_sizeIn_1 ?_
  refine p_26_7 ln_RX13_100 dX13_sizeIn_2 (fun J1 => ?_)
  refine wq_aload_n dX13_sizeIn_5 0 rfl rfl ?_
  refine wq_iload_n dX13_sizeIn_6 1 rfl rfl ?_
  refine wq_iconst dX13_sizeIn_7 ?_
  refine wq_bipush dX13_sizeIn_8 (by decide) ?_
  refine wq_cSi M_M_in (R_M_in Z a1 0 100 _) rfl rfl rfl (by decide) (by decide) (Nat.le_of_ble_eq_true rfl) ln_RX13_224 dX13_sizeIn_10 (fun gr2 x4 J3 => ?_)
  refine WQ.via 21 [vi (if (w32 x4) = 0 then 1 else 0), vr Z 26 0] (by
      refine wq_iconst dX13_sizeIn_21 ?_
      refine wq_cVi M_M_fails (R_M_fails Z (if (w32 x4) = 0 then 1 else 0) 1 _) ob_26 rfl rfl (by decide) (by decide) (Nat.le_of_ble_eq_true rfl) ln_RX13_428 dX13_sizeIn_22 (fun gr5 x7 J6 => ?_)
      refine wq_if_eq 30 dX13_sizeIn_25 (by decide) rfl (fun c20 => ?_) (fun c20 => ?_)
      · refine wq_aload_n dX13_sizeIn_30 0 rfl rfl ?_
        refine wq_cVv M_M_aside (R_M_aside Z _) ob_26 rfl rfl (by decide) (by decide) (Nat.le_of_ble_eq_true rfl) ln_RX13_330 dX13_sizeIn_31 (fun gr8 _ J9 => ?_)
        refine wq_aload_n dX13_sizeIn_34 0 rfl rfl ?_
        refine wq_iload_n dX13_sizeIn_35 1 rfl rfl ?_
        refine wq_cVi M_M_stepsMany (R_M_stepsMany Z a1 _) ob_26 rfl rfl (by decide) (by decide) (Nat.le_of_ble_eq_true rfl) ln_RX13_391 dX13_sizeIn_36 (fun gr11 x13 J12 => ?_)
        refine wq_istore_n (lv' := [(2, vi x13), (0, vr Z 26 0), (1, vi a1)]) dX13_sizeIn_39 rfl (by decide) rfl ?_
        refine wq_aload_n dX13_sizeIn_40 1 rfl rfl ?_
        refine wq_aload_n dX13_sizeIn_41 1 rfl rfl ?_
        refine wq_cVi M_M_sizeNow (R_M_sizeNow Z _) ob_26 rfl rfl (by decide) (by decide) (Nat.le_of_ble_eq_true rfl) ln_RX13_431 dX13_sizeIn_42 (fun gr14 x16 J15 => ?_)
        refine wq_cVi M_M_back (R_M_back Z x16 _) ob_26 rfl rfl (by decide) (by decide) (Nat.le_of_ble_eq_true rfl) ln_RX13_339 dX13_sizeIn_45 (fun gr17 x19 J18 => ?_)
        exact wq_iret rfl rfl dX13_sizeIn_48
      · refine wq_iconst dX13_sizeIn_28 ?_
        exact wq_iret rfl rfl dX13_sizeIn_29) (fun hj21 => ?_)
  refine WQ.both ((w32 x4) = 0) ?_
  refine wq_if_ne 20 dX13_sizeIn_13 (by decide) rfl (fun c22 => ?_) (fun c22 => ?_)
  · refine wq_iconst dX13_sizeIn_16 ?_
    refine wq_goto 21 dX13_sizeIn_17 (by decide) ?_
    exact WQ.top (if_pos c22) hj21
  · refine wq_iconst dX13_sizeIn_20 ?_
    exact WQ.top (if_neg c22) hj21

noncomputable def f_M_sizeWith_w13  (s : Int) (I : Mem) : Option (((Int) ⊕ (Unit)) × Mem) :=
if (w32 s) = 0 then
some (.inr (), I)
else
bnd (f_M_steps I) fun x8 J7 =>
some (.inl x8, J7)

noncomputable def f_M_sizeWith (a1 : Int) (a2 : Int) (I : Mem) : Option ((Int) × Mem) :=
bnd (f_M_aside I) fun _ J2 =>
if 0 ≤ (w32 a1) ∧ (w32 a1) < 16860 then
ltI (sI J2 27 0 (w32 a1).toNat a2) fun J5 =>
bnd (whl (f_M_sizeWith_w13) 1 J5) fun r21 J22 =>
bnd (f_M_sizeNow J22) fun x26 J25 =>
bnd (f_M_back x26 J25) fun x29 J28 =>
some (x29, J28)
else none
set_option maxRecDepth 20000 in
theorem R_M_sizeWith (Z : ZT) (a1 : Int) (a2 : Int) (I : Mem) (r : Int) (J : Mem) (hf : f_M_sizeWith a1 a2 I = some (r, J)) : Runs Z yX13_sizeWith cX13_sizeWith 4 (some .int) 7 [vr Z 26 0, vi a1, vi a2] I (some (vi r), J) := by
  refine Runs.of (rv := fun x => some (vi x)) (by decide +kernel) (Nat.le_of_ble_eq_true rfl) hf (fun gr => ?_)
  unfold f_M_sizeWith
  refine WQ.loc [0, 1, 2] (lv' := [(0, vr Z 26 0), (1, vi a1), (2, vi a2)]) rfl ?_
  refine wq_aload_n dX13_sizeWith_0 0 rfl rfl ?_
  refine wq_cVv M_M_aside (R_M_aside Z _) ob_26 rfl rfl (by decide) (by decide) (Nat.le_of_ble_eq_true rfl) ln_RX13_330 dX13_sizeWith_1 (fun gr1 _ J2 => ?_)
  refine wq_aload_n dX13_sizeWith_4 0 rfl rfl ?_
  refine g_26_0 ln_RX13_9 dX13_sizeWith_5 ?_
  refine wq_iload_n dX13_sizeWith_8 1 rfl rfl ?_
  refine wq_iload_n dX13_sizeWith_9 2 rfl rfl ?_
  refine wq_grd (fun g4 => ?_)
  refine wq_iast (k := 27) (i := 0) (fun _ _ => rfl) (by decide) rfl rfl (m := 16860) g4 (Nat.le_of_ble_eq_true rfl) (by decide) (by decide) (by decide) dX13_sizeWith_10 (fun J5 => ?_)
  refine wq_iconst dX13_sizeWith_11 ?_
  refine wq_istore_n (lv' := [(3, vi 1), (0, vr Z 26 0), (1, vi a1), (2, vi a2)]) dX13_sizeWith_12 rfl (by decide) rfl ?_
  refine WQ.loc [1, 0] (lv' := [(0, vr Z 26 0), (3, vi 1)]) rfl ?_
  refine wq_loopS (fun s16 => [(0, vr Z 26 0), (3, vi s16)]) 25 (fun _ => [(0, vr Z 26 0)]) (fun κ10 bk11 ex12 gr15 s16 J14 => ?_) (fun gr23 r21 J22 => ?_) gr1 _ rfl
  · unfold f_M_sizeWith_w13
    refine wq_iload_n dX13_sizeWith_13 1 rfl rfl ?_
    refine wq_if_eq 25 dX13_sizeWith_14 (by decide) rfl (fun c20 => ?_) (fun c20 => ?_)
    · exact WQ.loc [0] rfl (ex12 _ _ _)
    · refine wq_aload_n dX13_sizeWith_17 0 rfl rfl ?_
      refine wq_cVi M_M_steps (R_M_steps Z _) ob_26 rfl rfl (by decide) (by decide) (Nat.le_of_ble_eq_true rfl) ln_RX13_204 dX13_sizeWith_18 (fun gr17 x19 J18 => ?_)
      refine wq_istore_n (lv' := [(3, vi x19), (0, vr Z 26 0)]) dX13_sizeWith_21 rfl (by decide) rfl ?_
      refine wq_goto 13 dX13_sizeWith_22 (by decide) ?_
      exact WQ.loc [1, 0] rfl (bk11 _ _ _)
  · refine wq_aload_n dX13_sizeWith_25 0 rfl rfl ?_
    refine wq_aload_n dX13_sizeWith_26 0 rfl rfl ?_
    refine wq_cVi M_M_sizeNow (R_M_sizeNow Z _) ob_26 rfl rfl (by decide) (by decide) (Nat.le_of_ble_eq_true rfl) ln_RX13_431 dX13_sizeWith_27 (fun gr24 x26 J25 => ?_)
    refine wq_cVi M_M_back (R_M_back Z x26 _) ob_26 rfl rfl (by decide) (by decide) (Nat.le_of_ble_eq_true rfl) ln_RX13_339 dX13_sizeWith_30 (fun gr27 x29 J28 => ?_)
    exact wq_iret rfl rfl dX13_sizeWith_33

theorem M_M_sizeWith : MwV yX13_sizeWith cX13_sizeWith 4 (some .int) 2 := ⟨li_9 157 (by decide +kernel) (by decide +kernel), li_9 156 (by decide +kernel) (by decide +kernel), lw_in 130 (by decide +kernel) (by decide +kernel), li_1 16 (by decide +kernel) (by decide +kernel), by decide +kernel⟩
theorem ln_RX13_478 : Cond.methodLink RX13 478 yX13_sizeWith ∈ lw_good := li_9 154 (by decide +kernel) (by decide +kernel)
noncomputable def f_M_bestOf_w17 (v1 : Int) (s : Int × Int × Int) (I : Mem) : Option (((Int × Int × Int) ⊕ (Int)) × Mem) :=
bnd (f_M_mostOf v1 I) fun x9 J8 =>
if (w32 x9) < (w32 s.2.2) then
some (.inr s.1, J8)
else
bnd (f_M_sizeWith v1 s.2.2 J8) fun x12 J11 =>
if (w32 x12) < (w32 s.2.1) then
some (.inl (s.2.2, x12, (s.2.2 + 1)), J11)
else
some (.inl (s.1, s.2.1, (s.2.2 + 1)), J11)

noncomputable def f_M_bestOf (a1 : Int) (I : Mem) : Option ((Int) × Mem) :=
bnd (f_M_leastOf a1 I) fun x3 J2 =>
bnd (f_M_sizeWith a1 x3 J2) fun x6 J5 =>
bnd (whl (f_M_bestOf_w17 a1) (x3, x6, (x3 + 1)) J5) fun r30 J31 =>
some (r30, J31)
set_option maxRecDepth 20000 in
theorem R_M_bestOf (Z : ZT) (a1 : Int) (I : Mem) (r : Int) (J : Mem) (hf : f_M_bestOf a1 I = some (r, J)) : Runs Z yX13_bestOf cX13_bestOf 6 (some .int) 8 [vr Z 26 0, vi a1] I (some (vi r), J) := by
  refine Runs.of (rv := fun x => some (vi x)) (by decide +kernel) (Nat.le_of_ble_eq_true rfl) hf (fun gr => ?_)
  unfold f_M_bestOf
  refine WQ.loc [0, 1] (lv' := [(0, vr Z 26 0), (1, vi a1)]) rfl ?_
  refine wq_iload_n dX13_bestOf_0 1 rfl rfl ?_
  refine wq_cSi M_M_leastOf (R_M_leastOf Z a1 _) rfl rfl rfl (by decide) (by decide) (Nat.le_of_ble_eq_true rfl) ln_RX13_301 dX13_bestOf_1 (fun gr1 x3 J2 => ?_)
  refine wq_istore_n (lv' := [(2, vi x3), (0, vr Z 26 0), (1, vi a1)]) dX13_bestOf_4 rfl (by decide) rfl ?_
  refine wq_aload_n dX13_bestOf_5 1 rfl rfl ?_
  refine wq_iload_n dX13_bestOf_6 2 rfl rfl ?_
  refine wq_iload_n dX13_bestOf_7 0 rfl rfl ?_
  refine wq_cVi M_M_sizeWith (R_M_sizeWith Z a1 x3 _) ob_26 rfl rfl (by decide) (by decide) (Nat.le_of_ble_eq_true rfl) ln_RX13_478 dX13_bestOf_8 (fun gr4 x6 J5 => ?_)
  refine wq_istore_n (lv' := [(3, vi x6), (2, vi x3), (0, vr Z 26 0), (1, vi a1)]) dX13_bestOf_11 rfl (by decide) rfl ?_
  refine wq_iload_n dX13_bestOf_12 1 rfl rfl ?_
  refine wq_iconst dX13_bestOf_13 ?_
  refine wq_iadd dX13_bestOf_14 ?_
  refine wq_istore (lv' := [(4, vi (x3 + 1)), (3, vi x6), (2, vi x3), (0, vr Z 26 0), (1, vi a1)]) dX13_bestOf_15 (by decide) rfl ?_
  refine WQ.loc [3, 4, 2, 1, 0] (lv' := [(0, vr Z 26 0), (1, vi a1), (2, vi x3), (3, vi x6), (4, vi (x3 + 1))]) rfl ?_
  refine wq_loopS (fun s21 => [(0, vr Z 26 0), (1, vi a1), (2, vi s21.1), (3, vi s21.2.1), (4, vi s21.2.2)]) 56 (fun r30 => [(2, vi r30)]) (fun κ15 bk16 ex17 gr20 s21 J19 => ?_) (fun gr32 r30 J31 => ?_) gr4 _ rfl
  · unfold f_M_bestOf_w17
    refine wq_iload dX13_bestOf_17 4 rfl ?_
    refine wq_iload_n dX13_bestOf_19 1 rfl rfl ?_
    refine wq_cSi M_M_mostOf (R_M_mostOf Z a1 _) rfl rfl rfl (by decide) (by decide) (Nat.le_of_ble_eq_true rfl) ln_RX13_304 dX13_bestOf_20 (fun gr22 x24 J23 => ?_)
    refine wq_icmp_gt 56 dX13_bestOf_23 (by decide) rfl rfl (fun c29 => ?_) (fun c29 => ?_)
    · exact WQ.loc [2] rfl (ex17 _ _ _)
    · refine wq_aload_n dX13_bestOf_26 0 rfl rfl ?_
      refine wq_iload_n dX13_bestOf_27 1 rfl rfl ?_
      refine wq_iload dX13_bestOf_28 4 rfl ?_
      refine wq_cVi M_M_sizeWith (R_M_sizeWith Z a1 s21.2.2 _) ob_26 rfl rfl (by decide) (by decide) (Nat.le_of_ble_eq_true rfl) ln_RX13_478 dX13_bestOf_30 (fun gr25 x27 J26 => ?_)
      refine wq_istore (lv' := [(5, vi x27), (0, vr Z 26 0), (1, vi a1), (2, vi s21.1), (3, vi s21.2.1), (4, vi s21.2.2)]) dX13_bestOf_33 (by decide) rfl ?_
      refine wq_iload dX13_bestOf_35 0 rfl ?_
      refine wq_iload_n dX13_bestOf_37 4 rfl rfl ?_
      refine wq_icmp_lt 44 dX13_bestOf_38 (by decide) rfl rfl (fun c28 => ?_) (fun c28 => ?_)
      · refine wq_iload dX13_bestOf_44 5 rfl ?_
        refine wq_istore_n (lv' := [(2, vi s21.2.2), (5, vi x27), (0, vr Z 26 0), (1, vi a1), (3, vi s21.2.1), (4, vi s21.2.2)]) dX13_bestOf_46 rfl (by decide) rfl ?_
        refine wq_iload dX13_bestOf_47 1 rfl ?_
        refine wq_istore_n (lv' := [(3, vi x27), (2, vi s21.2.2), (5, vi x27), (0, vr Z 26 0), (1, vi a1), (4, vi s21.2.2)]) dX13_bestOf_49 rfl (by decide) rfl ?_
        refine wq_iinc (lv' := [(4, vi (s21.2.2 + 1)), (3, vi x27), (2, vi s21.2.2), (5, vi x27), (0, vr Z 26 0), (1, vi a1)]) dX13_bestOf_50 5 rfl (by decide) rfl ?_
        refine wq_goto 17 dX13_bestOf_53 (by decide) ?_
        exact WQ.loc [4, 5, 2, 1, 0] rfl (bk16 _ _ _)
      · refine wq_goto 50 dX13_bestOf_41 (by decide) ?_
        refine wq_iinc (lv' := [(4, vi (s21.2.2 + 1)), (5, vi x27), (0, vr Z 26 0), (1, vi a1), (2, vi s21.1), (3, vi s21.2.1)]) dX13_bestOf_50 5 rfl (by decide) rfl ?_
        refine wq_goto 17 dX13_bestOf_53 (by decide) ?_
        exact WQ.loc [2, 3, 4, 5, 0] rfl (bk16 _ _ _)
  · refine wq_iload_n dX13_bestOf_56 0 rfl rfl ?_
    exact wq_iret rfl rfl dX13_bestOf_57

theorem M_M_bestOf : MwV yX13_bestOf cX13_bestOf 6 (some .int) 1 := ⟨li_9 153 (by decide +kernel) (by decide +kernel), li_9 152 (by decide +kernel) (by decide +kernel), lw_in 129 (by decide +kernel) (by decide +kernel), li_1 16 (by decide +kernel) (by decide +kernel), by decide +kernel⟩
theorem ln_RX13_481 : Cond.methodLink RX13 481 yX13_bestOf ∈ lw_good := li_9 150 (by decide +kernel) (by decide +kernel)
noncomputable def f_M_bestTie  (I : Mem) : Option ((Int) × Mem) :=
ltI (sI I 26 0 7 0) fun J1 =>
bnd (f_M_bestOf 1 J1) fun x4 J3 =>
some (x4, J3)
set_option maxRecDepth 20000 in
theorem R_M_bestTie (Z : ZT)  (I : Mem) (r : Int) (J : Mem) (hf : f_M_bestTie I = some (r, J)) : Runs Z yX13_bestTie cX13_bestTie 1 (some .int) 9 [vr Z 26 0] I (some (vi r), J) := by
  refine Runs.of (rv := fun x => some (vi x)) (by decide +kernel) (Nat.le_of_ble_eq_true rfl) hf (fun gr => ?_)
  unfold f_M_bestTie
  refine WQ.loc [0] (lv' := [(0, vr Z 26 0)]) rfl ?_
  refine wq_aload_n dX13_bestTie_0 0 rfl rfl ?_
  refine wq_iconst dX13_bestTie_1 ?_
  refine p_26_7 ln_RX13_100 dX13_bestTie_2 (fun J1 => ?_)
  refine wq_aload_n dX13_bestTie_5 0 rfl rfl ?_
  refine wq_iconst dX13_bestTie_6 ?_
  refine wq_cVi M_M_bestOf (R_M_bestOf Z 1 _) ob_26 rfl rfl (by decide) (by decide) (Nat.le_of_ble_eq_true rfl) ln_RX13_481 dX13_bestTie_7 (fun gr2 x4 J3 => ?_)
  exact wq_iret rfl rfl dX13_bestTie_10

noncomputable def f_M_bestLeast  (I : Mem) : Option ((Int) × Mem) :=
ltI (sI I 26 0 7 0) fun J1 =>
bnd (f_M_bestOf 0 J1) fun x4 J3 =>
some (x4, J3)
set_option maxRecDepth 20000 in
theorem R_M_bestLeast (Z : ZT)  (I : Mem) (r : Int) (J : Mem) (hf : f_M_bestLeast I = some (r, J)) : Runs Z yX13_bestLeast cX13_bestLeast 1 (some .int) 9 [vr Z 26 0] I (some (vi r), J) := by
  refine Runs.of (rv := fun x => some (vi x)) (by decide +kernel) (Nat.le_of_ble_eq_true rfl) hf (fun gr => ?_)
  unfold f_M_bestLeast
  refine WQ.loc [0] (lv' := [(0, vr Z 26 0)]) rfl ?_
  refine wq_aload_n dX13_bestLeast_0 0 rfl rfl ?_
  refine wq_iconst dX13_bestLeast_1 ?_
  refine p_26_7 ln_RX13_100 dX13_bestLeast_2 (fun J1 => ?_)
  refine wq_aload_n dX13_bestLeast_5 0 rfl rfl ?_
  refine wq_iconst dX13_bestLeast_6 ?_
  refine wq_cVi M_M_bestOf (R_M_bestOf Z 0 _) ob_26 rfl rfl (by decide) (by decide) (Nat.le_of_ble_eq_true rfl) ln_RX13_481 dX13_bestLeast_7 (fun gr2 x4 J3 => ?_)
  exact wq_iret rfl rfl dX13_bestLeast_10

noncomputable def f_M_inlinable  (I : Mem) : Option ((Int) × Mem) :=
ltI (sI I 26 0 7 0) fun J1 =>
bnd (f_M_aside J1) fun _ J3 =>
bnd (f_M_inlines J3) fun x7 J6 =>
bnd (f_M_back x7 J6) fun x10 J9 =>
some (x10, J9)
set_option maxRecDepth 20000 in
theorem R_M_inlinable (Z : ZT)  (I : Mem) (r : Int) (J : Mem) (hf : f_M_inlinable I = some (r, J)) : Runs Z yX13_inlinable cX13_inlinable 1 (some .int) 6 [vr Z 26 0] I (some (vi r), J) := by
  refine Runs.of (rv := fun x => some (vi x)) (by decide +kernel) (Nat.le_of_ble_eq_true rfl) hf (fun gr => ?_)
  unfold f_M_inlinable
  refine WQ.loc [0] (lv' := [(0, vr Z 26 0)]) rfl ?_
  refine wq_aload_n dX13_inlinable_0 0 rfl rfl ?_
  refine wq_iconst dX13_inlinable_1 ?_
  refine p_26_7 ln_RX13_100 dX13_inlinable_2 (fun J1 => ?_)
  refine wq_aload_n dX13_inlinable_5 0 rfl rfl ?_
  refine wq_cVv M_M_aside (R_M_aside Z _) ob_26 rfl rfl (by decide) (by decide) (Nat.le_of_ble_eq_true rfl) ln_RX13_330 dX13_inlinable_6 (fun gr2 _ J3 => ?_)
  refine wq_aload_n dX13_inlinable_9 0 rfl rfl ?_
  refine wq_aload_n dX13_inlinable_10 0 rfl rfl ?_
  refine wq_cVi M_M_inlines (R_M_inlines Z _) ob_26 rfl rfl (by decide) (by decide) (Nat.le_of_ble_eq_true rfl) ln_RX13_201 dX13_inlinable_11 (fun gr5 x7 J6 => ?_)
  refine wq_cVi M_M_back (R_M_back Z x7 _) ob_26 rfl rfl (by decide) (by decide) (Nat.le_of_ble_eq_true rfl) ln_RX13_339 dX13_inlinable_14 (fun gr8 x10 J9 => ?_)
  exact wq_iret rfl rfl dX13_inlinable_17

theorem M_M_isSymbol : MwV yX13_isSymbol cX13_isSymbol 2 (some .boolean) 1 := ⟨li_8 211 (by decide +kernel) (by decide +kernel), li_8 210 (by decide +kernel) (by decide +kernel), lw_in 108 (by decide +kernel) (by decide +kernel), li_1 16 (by decide +kernel) (by decide +kernel), by decide +kernel⟩
theorem ln_RX13_484 : Cond.methodLink RX13 484 yX13_isSymbol ∈ lw_good := li_8 208 (by decide +kernel) (by decide +kernel)
noncomputable def f_M_makeNow (a1 : Int) (a2 : Int) (I : Mem) : Option ((Int) × Mem) :=
bnd (f_M_isSymbol a1 I) fun x3 J2 =>
if (w32 x3) = 0 then
some ((-7), J2)
else
bnd (f_M_isSymbol a2 J2) fun x6 J5 =>
if (w32 x6) = 0 then
some ((-7), J5)
else
bnd (f_M_laysPairs J5) fun _ J8 =>
bnd (f_M_pair a1 a2 J8) fun x12 J11 =>
if 0 ≤ (w32 x12) ∧ (w32 x12) < 4356 then
if (w32 (J11 27 11 (w32 x12).toNat)) = 0 then
some ((-2), J11)
else
if (w32 (J11 27 13 (w32 x12).toNat)) = (-1) then
bnd (f_M_freeRule J11) fun x19 J18 =>
if (w32 x19) = (-1) then
some ((-3), J18)
else
bnd (f_M_makes x12 J18) fun x22 J21 =>
some (x22, J21)
else
bnd (f_M_makes x12 J11) fun x16 J15 =>
some (x16, J15)
else none
set_option maxRecDepth 20000 in
theorem R_M_makeNow (Z : ZT) (a1 : Int) (a2 : Int) (I : Mem) (r : Int) (J : Mem) (hf : f_M_makeNow a1 a2 I = some (r, J)) : Runs Z yX13_makeNow cX13_makeNow 4 (some .int) 5 [vr Z 26 0, vi a1, vi a2] I (some (vi r), J) := by
  refine Runs.of (rv := fun x => some (vi x)) (by decide +kernel) (Nat.le_of_ble_eq_true rfl) hf (fun gr => ?_)
  unfold f_M_makeNow
  refine WQ.loc [0, 1, 2] (lv' := [(0, vr Z 26 0), (1, vi a1), (2, vi a2)]) rfl ?_
  refine wq_aload_n dX13_makeNow_0 0 rfl rfl ?_
  refine wq_iload_n dX13_makeNow_1 1 rfl rfl ?_
  refine wq_cVi M_M_isSymbol (R_M_isSymbol Z a1 _) ob_26 rfl rfl (by decide) (by decide) (Nat.le_of_ble_eq_true rfl) ln_RX13_484 dX13_makeNow_2 (fun gr1 x3 J2 => ?_)
  refine wq_if_eq 16 dX13_makeNow_5 (by decide) rfl (fun c27 => ?_) (fun c27 => ?_)
  · refine wq_bipush dX13_makeNow_16 (by decide) ?_
    exact wq_iret rfl rfl dX13_makeNow_18
  · refine wq_aload_n dX13_makeNow_8 0 rfl rfl ?_
    refine wq_iload_n dX13_makeNow_9 2 rfl rfl ?_
    refine wq_cVi M_M_isSymbol (R_M_isSymbol Z a2 _) ob_26 rfl rfl (by decide) (by decide) (Nat.le_of_ble_eq_true rfl) ln_RX13_484 dX13_makeNow_10 (fun gr4 x6 J5 => ?_)
    refine wq_if_ne 19 dX13_makeNow_13 (by decide) rfl (fun c26 => ?_) (fun c26 => ?_)
    · refine wq_bipush dX13_makeNow_16 (by decide) ?_
      exact wq_iret rfl rfl dX13_makeNow_18
    · refine wq_aload_n dX13_makeNow_19 0 rfl rfl ?_
      refine wq_cVv M_M_laysPairs (R_M_laysPairs Z _) ob_26 rfl rfl (by decide) (by decide) (Nat.le_of_ble_eq_true rfl) ln_RX13_160 dX13_makeNow_20 (fun gr7 _ J8 => ?_)
      refine wq_iload_n dX13_makeNow_23 1 rfl rfl ?_
      refine wq_iload_n dX13_makeNow_24 2 rfl rfl ?_
      refine wq_cSi M_M_pair (R_M_pair Z a1 a2 _) rfl rfl rfl (by decide) (by decide) (Nat.le_of_ble_eq_true rfl) ln_RX13_147 dX13_makeNow_25 (fun gr10 x12 J11 => ?_)
      refine wq_istore_n (lv' := [(3, vi x12), (0, vr Z 26 0), (1, vi a1), (2, vi a2)]) dX13_makeNow_28 rfl (by decide) rfl ?_
      refine wq_aload_n dX13_makeNow_29 1 rfl rfl ?_
      refine g_26_15 ln_RX13_49 dX13_makeNow_30 ?_
      refine wq_iload_n dX13_makeNow_33 0 rfl rfl ?_
      refine wq_grd (fun g13 => ?_)
      refine wq_iald (k := 27) (i := 11) rfl (by decide) rfl rfl (m := 4356) g13 (Nat.le_of_ble_eq_true rfl) dX13_makeNow_34 ?_
      refine wq_if_ne 41 dX13_makeNow_35 (by decide) rfl (fun c25 => ?_) (fun c25 => ?_)
      · refine wq_bipush dX13_makeNow_38 (by decide) ?_
        exact wq_iret rfl rfl dX13_makeNow_40
      · refine wq_aload_n dX13_makeNow_41 1 rfl rfl ?_
        refine g_26_17 ln_RX13_55 dX13_makeNow_42 ?_
        refine wq_iload_n dX13_makeNow_45 0 rfl rfl ?_
        refine wq_iald (k := 27) (i := 13) rfl (by decide) rfl rfl (m := 4356) g13 (Nat.le_of_ble_eq_true rfl) dX13_makeNow_46 ?_
        refine wq_iconst dX13_makeNow_47 ?_
        refine wq_icmp_ne 64 dX13_makeNow_48 (by decide) rfl rfl (fun c24 => ?_) (fun c24 => ?_)
        · refine wq_aload_n dX13_makeNow_51 1 rfl rfl ?_
          refine wq_cVi M_M_freeRule (R_M_freeRule Z _) ob_26 rfl rfl (by decide) (by decide) (Nat.le_of_ble_eq_true rfl) ln_RX13_163 dX13_makeNow_52 (fun gr17 x19 J18 => ?_)
          refine wq_iconst dX13_makeNow_55 ?_
          refine wq_icmp_ne 64 dX13_makeNow_56 (by decide) rfl rfl (fun c23 => ?_) (fun c23 => ?_)
          · refine wq_bipush dX13_makeNow_59 (by decide) ?_
            refine wq_goto 69 dX13_makeNow_61 (by decide) ?_
            exact wq_iret rfl rfl dX13_makeNow_69
          · refine wq_aload_n dX13_makeNow_64 1 rfl rfl ?_
            refine wq_iload_n dX13_makeNow_65 0 rfl rfl ?_
            refine wq_cVi M_M_makes (R_M_makes Z x12 _) ob_26 rfl rfl (by decide) (by decide) (Nat.le_of_ble_eq_true rfl) ln_RX13_198 dX13_makeNow_66 (fun gr20 x22 J21 => ?_)
            exact wq_iret rfl rfl dX13_makeNow_69
        · refine wq_aload_n dX13_makeNow_64 1 rfl rfl ?_
          refine wq_iload_n dX13_makeNow_65 0 rfl rfl ?_
          refine wq_cVi M_M_makes (R_M_makes Z x12 _) ob_26 rfl rfl (by decide) (by decide) (Nat.le_of_ble_eq_true rfl) ln_RX13_198 dX13_makeNow_66 (fun gr14 x16 J15 => ?_)
          exact wq_iret rfl rfl dX13_makeNow_69

noncomputable def f_M_expandNow (a1 : Int) (I : Mem) : Option ((Int) × Mem) :=
bnd (f_M_isHere a1 I) fun x3 J2 =>
if (w32 x3) = 0 then
some ((-4), J2)
else
bnd (f_M_counts 4 1 J2) fun _ J5 =>
bnd (f_M_unmakes a1 J5) fun x9 J8 =>
some (x9, J8)
set_option maxRecDepth 20000 in
theorem R_M_expandNow (Z : ZT) (a1 : Int) (I : Mem) (r : Int) (J : Mem) (hf : f_M_expandNow a1 I = some (r, J)) : Runs Z yX13_expandNow cX13_expandNow 2 (some .int) 4 [vr Z 26 0, vi a1] I (some (vi r), J) := by
  refine Runs.of (rv := fun x => some (vi x)) (by decide +kernel) (Nat.le_of_ble_eq_true rfl) hf (fun gr => ?_)
  unfold f_M_expandNow
  refine WQ.loc [0, 1] (lv' := [(0, vr Z 26 0), (1, vi a1)]) rfl ?_
  refine wq_aload_n dX13_expandNow_0 0 rfl rfl ?_
  refine wq_iload_n dX13_expandNow_1 1 rfl rfl ?_
  refine wq_cVi M_M_isHere (R_M_isHere Z a1 _) ob_26 rfl rfl (by decide) (by decide) (Nat.le_of_ble_eq_true rfl) ln_RX13_111 dX13_expandNow_2 (fun gr1 x3 J2 => ?_)
  refine wq_if_ne 11 dX13_expandNow_5 (by decide) rfl (fun c10 => ?_) (fun c10 => ?_)
  · refine wq_bipush dX13_expandNow_8 (by decide) ?_
    exact wq_iret rfl rfl dX13_expandNow_10
  · refine wq_aload_n dX13_expandNow_11 0 rfl rfl ?_
    refine wq_iconst dX13_expandNow_12 ?_
    refine wq_iconst dX13_expandNow_13 ?_
    refine wq_cVv M_M_counts (R_M_counts Z 4 1 _) ob_26 rfl rfl (by decide) (by decide) (Nat.le_of_ble_eq_true rfl) ln_RX13_177 dX13_expandNow_14 (fun gr4 _ J5 => ?_)
    refine wq_aload_n dX13_expandNow_17 0 rfl rfl ?_
    refine wq_iload_n dX13_expandNow_18 1 rfl rfl ?_
    refine wq_cVi M_M_unmakes (R_M_unmakes Z a1 _) ob_26 rfl rfl (by decide) (by decide) (Nat.le_of_ble_eq_true rfl) ln_RX13_192 dX13_expandNow_19 (fun gr7 x9 J8 => ?_)
    exact wq_iret rfl rfl dX13_expandNow_22

noncomputable def f_M_appendNow (a1 : Int) (I : Mem) : Option ((Int) × Mem) :=
if (w32 (I 27 0 3)) = 400 then
some ((-5), I)
else
bnd (f_M_adds 0 a1 I) fun _ J3 =>
if 0 ≤ (w32 (16460 + (J3 27 0 3))) ∧ (w32 (16460 + (J3 27 0 3))) < 16860 then
ltI (sI J3 27 0 (w32 (16460 + (J3 27 0 3))).toNat a1) fun J7 =>
ltI (sI J7 27 0 3 ((J7 27 0 3) + 1)) fun J10 =>
bnd (f_M_counts 6 1 J10) fun _ J12 =>
some ((J12 27 0 3), J12)
else none
set_option maxRecDepth 20000 in
theorem R_M_appendNow (Z : ZT) (a1 : Int) (I : Mem) (r : Int) (J : Mem) (hf : f_M_appendNow a1 I = some (r, J)) : Runs Z yX13_appendNow cX13_appendNow 2 (some .int) 3 [vr Z 26 0, vi a1] I (some (vi r), J) := by
  refine Runs.of (rv := fun x => some (vi x)) (by decide +kernel) (Nat.le_of_ble_eq_true rfl) hf (fun gr => ?_)
  unfold f_M_appendNow
  refine WQ.loc [0, 1] (lv' := [(0, vr Z 26 0), (1, vi a1)]) rfl ?_
  refine wq_aload_n dX13_appendNow_0 0 rfl rfl ?_
  refine g_26_0 ln_RX13_9 dX13_appendNow_1 ?_
  refine wq_iconst dX13_appendNow_4 ?_
  refine wq_iald (k := 27) (i := 0) rfl (by decide) rfl rfl (m := 16860) (by decide) (Nat.le_of_ble_eq_true rfl) dX13_appendNow_5 ?_
  refine wq_sipush dX13_appendNow_6 (by decide) ?_
  refine wq_icmp_ne 15 dX13_appendNow_9 (by decide) rfl rfl (fun c15 => ?_) (fun c15 => ?_)
  · refine wq_bipush dX13_appendNow_12 (by decide) ?_
    exact wq_iret rfl rfl dX13_appendNow_14
  · refine wq_aload_n dX13_appendNow_15 0 rfl rfl ?_
    refine wq_iconst dX13_appendNow_16 ?_
    refine wq_iload_n dX13_appendNow_17 1 rfl rfl ?_
    refine wq_cVv M_M_adds (R_M_adds Z 0 a1 _) ob_26 rfl rfl (by decide) (by decide) (Nat.le_of_ble_eq_true rfl) ln_RX13_93 dX13_appendNow_18 (fun gr2 _ J3 => ?_)
    refine wq_aload_n dX13_appendNow_21 0 rfl rfl ?_
    refine g_26_0 ln_RX13_9 dX13_appendNow_22 ?_
    refine wq_sipush dX13_appendNow_25 (by decide) ?_
    refine wq_aload_n dX13_appendNow_28 0 rfl rfl ?_
    refine g_26_0 ln_RX13_9 dX13_appendNow_29 ?_
    refine wq_iconst dX13_appendNow_32 ?_
    refine wq_iald (k := 27) (i := 0) rfl (by decide) rfl rfl (m := 16860) (by decide) (Nat.le_of_ble_eq_true rfl) dX13_appendNow_33 ?_
    refine wq_iadd dX13_appendNow_34 ?_
    refine wq_iload_n dX13_appendNow_35 1 rfl rfl ?_
    refine wq_grd (fun g6 => ?_)
    refine wq_iast (k := 27) (i := 0) (fun _ _ => rfl) (by decide) rfl rfl (m := 16860) g6 (Nat.le_of_ble_eq_true rfl) (by decide) (by decide) (by decide) dX13_appendNow_36 (fun J7 => ?_)
    refine wq_aload_n dX13_appendNow_37 0 rfl rfl ?_
    refine g_26_0 ln_RX13_9 dX13_appendNow_38 ?_
    refine wq_iconst dX13_appendNow_41 ?_
    refine wq_dup2 dX13_appendNow_42 rfl rfl ?_
    refine wq_iald (k := 27) (i := 0) rfl (by decide) rfl rfl (m := 16860) (by decide) (Nat.le_of_ble_eq_true rfl) dX13_appendNow_43 ?_
    refine wq_iconst dX13_appendNow_44 ?_
    refine wq_iadd dX13_appendNow_45 ?_
    refine wq_iast (k := 27) (i := 0) (fun _ _ => rfl) (by decide) rfl rfl (m := 16860) (by decide) (Nat.le_of_ble_eq_true rfl) (by decide) (by decide) (by decide) dX13_appendNow_46 (fun J10 => ?_)
    refine wq_aload_n dX13_appendNow_47 0 rfl rfl ?_
    refine wq_bipush dX13_appendNow_48 (by decide) ?_
    refine wq_iconst dX13_appendNow_50 ?_
    refine wq_cVv M_M_counts (R_M_counts Z 6 1 _) ob_26 rfl rfl (by decide) (by decide) (Nat.le_of_ble_eq_true rfl) ln_RX13_177 dX13_appendNow_51 (fun gr11 _ J12 => ?_)
    refine wq_aload_n dX13_appendNow_54 0 rfl rfl ?_
    refine g_26_0 ln_RX13_9 dX13_appendNow_55 ?_
    refine wq_iconst dX13_appendNow_58 ?_
    refine wq_iald (k := 27) (i := 0) rfl (by decide) rfl rfl (m := 16860) (by decide) (Nat.le_of_ble_eq_true rfl) dX13_appendNow_59 ?_
    exact wq_iret rfl rfl dX13_appendNow_60
