theorem ln_RX10_27 : Cond.fieldLink RX10 27 RX10 "openPlaces" "[I" ∈ lw_good := li_1 151 (by decide +kernel) (by decide +kernel)
theorem ln_RX10_85 : Cond.constant RX10 85 (Int32.ofInt 1000000) ∈ lw_good := li_3 130 (by decide +kernel) (by decide +kernel)
theorem ln_RX10_24 : Cond.fieldLink RX10 24 RX10 "openRules" "[I" ∈ lw_good := li_1 150 (by decide +kernel) (by decide +kernel)
theorem ln_RX10_38 : Cond.methodLink RX10 38 yX1_body ∈ lw_good := li_3 132 (by decide +kernel) (by decide +kernel)
theorem ln_RX10_48 : Cond.methodLink RX10 48 yX1_startRow ∈ lw_good := li_3 131 (by decide +kernel) (by decide +kernel)
theorem M_Sv_addLetter : MwV yX10_addLetter cX10_addLetter 2 (none) 1 := ⟨li_3 140 (by decide +kernel) (by decide +kernel), li_3 139 (by decide +kernel) (by decide +kernel), lw_in 13 (by decide +kernel) (by decide +kernel), li_1 6 (by decide +kernel) (by decide +kernel), by decide +kernel⟩
theorem ln_RX10_86 : Cond.methodLink RX10 86 yX10_addLetter ∈ lw_good := li_3 137 (by decide +kernel) (by decide +kernel)
noncomputable def f_Sv_unfold_j47 (v1 : Nat) (v2 : Int) (v3 : Int)  (e0 : Nat) (I : Mem) : Option (((Int × Int) ⊕ (Unit)) × Mem) :=
if e0 < 516 then
if 0 ≤ (w32 v2) ∧ (w32 v2) < 41 then
bnd (f_Row_at e0 (I 18 5 (w32 v2).toNat) I) fun x15 J14 =>
ltI (sI J14 18 5 (w32 v2).toNat ((J14 18 5 (w32 v2).toNat) + 1)) fun J16 =>
if (w32 x15) = (-1) then
some (.inl ((v2 + (-1)), (v3 + 1)), J16)
else
if (w32 x15) < 26 then
bnd (f_Sv_addLetter x15 J16) fun _ J22 =>
some (.inl (v2, (v3 + 1)), J22)
else
if (w32 v2) < 40 then
if 0 ≤ (w32 (v2 + 1)) ∧ (w32 (v2 + 1)) < 41 then
ltI (sI J16 18 4 (w32 (v2 + 1)).toNat (x15 - 26)) fun J18 =>
ltI (sI J18 18 5 (w32 (v2 + 1)).toNat 0) fun J19 =>
some (.inl ((v2 + 1), (v3 + 1)), J19)
else none
else
some (.inl (v2, (v3 + 1)), J16)
else none
else none

noncomputable def f_Sv_unfold_w16 (v1 : Nat) (s : Int × Int) (I : Mem) : Option (((Int × Int) ⊕ (Unit)) × Mem) :=
if (w32 s.2) < 1000000 then
if (w32 s.1) < 0 then
some (.inr (), I)
else
if (w32 s.1) = 0 then
f_Sv_unfold_j47 v1 s.1 s.2 (43 * v1) I
else
if 0 ≤ (w32 s.1) ∧ (w32 s.1) < 41 then
bnd (f_G_body v1 (I 18 4 (w32 s.1).toNat) I) fun x8 J7 =>
if x8 < 516 then
f_Sv_unfold_j47 v1 s.1 s.2 x8 J7
else none
else none
else
some (.inr (), I)

noncomputable def f_Sv_unfold (a1 : Nat) (I : Mem) : Option ((Unit) × Mem) :=
if a1 < 12 then
ltI (sI I 5 0 7 0) fun J1 =>
ltI (sI J1 18 5 0 0) fun J3 =>
bnd (whl (f_Sv_unfold_w16 a1) (0, 0) J3) fun r77 J78 =>
some ((), J78)
else none
set_option maxRecDepth 20000 in
theorem R_Sv_unfold (Z : ZT) (a1 : Nat) (I : Mem) (r : Unit) (J : Mem) (hf : f_Sv_unfold a1 I = some (r, J)) : Runs Z yX10_unfold cX10_unfold 6 (none) 2 [vr Z 5 0, vr Z 1 a1] I (none, J) := by
  refine Runs.of (rv := fun _ => none) (by decide +kernel) (Nat.le_of_ble_eq_true rfl) hf (fun gr => ?_)
  unfold f_Sv_unfold
  refine WQ.loc [0, 1] (lv' := [(0, vr Z 5 0), (1, vr Z 1 a1)]) rfl ?_
  refine wq_grd (fun h1 => ?_)
  refine wq_aload_n dX10_unfold_0 0 rfl rfl ?_
  refine wq_iconst dX10_unfold_1 ?_
  refine p_5_7 ln_RX10_82 dX10_unfold_2 (fun J1 => ?_)
  refine wq_iconst dX10_unfold_5 ?_
  refine wq_istore_n (lv' := [(2, vi 0), (0, vr Z 5 0), (1, vr Z 1 a1)]) dX10_unfold_6 rfl (by decide) rfl ?_
  refine wq_aload_n dX10_unfold_7 1 rfl rfl ?_
  refine g_5_5 ln_RX10_27 dX10_unfold_8 ?_
  refine wq_iconst dX10_unfold_11 ?_
  refine wq_iconst dX10_unfold_12 ?_
  refine wq_iast (k := 18) (i := 5) (fun _ _ => rfl) (by decide) rfl rfl (m := 41) (by decide) (by decide) (by decide) (by decide) (by decide) dX10_unfold_13 (fun J3 => ?_)
  refine wq_iconst dX10_unfold_14 ?_
  refine wq_istore_n (lv' := [(3, vi 0), (2, vi 0), (0, vr Z 5 0), (1, vr Z 1 a1)]) dX10_unfold_15 rfl (by decide) rfl ?_
  refine WQ.loc [2, 3, 1, 0] (lv' := [(0, vr Z 5 0), (1, vr Z 1 a1), (2, vi 0), (3, vi 0)]) rfl ?_
  refine wq_loopS (fun s50 => [(0, vr Z 5 0), (1, vr Z 1 a1), (2, vi s50.1), (3, vi s50.2)]) 133 (fun _ => []) (fun κ44 bk45 ex46 gr49 s50 J48 => ?_) (fun gr79 r77 J78 => ?_) gr _ rfl
  · unfold f_Sv_unfold_w16
    refine wq_iload_n dX10_unfold_16 3 rfl rfl ?_
    refine wq_ldc ln_RX10_85 dX10_unfold_17 ?_
    refine wq_icmp_ge 133 dX10_unfold_19 (by decide) rfl rfl (fun c76 => ?_) (fun c76 => ?_)
    · refine wq_iload_n dX10_unfold_22 2 rfl rfl ?_
      refine wq_if_lt 133 dX10_unfold_23 (by decide) rfl (fun c75 => ?_) (fun c75 => ?_)
      · exact WQ.loc [] rfl (ex46 _ _ _)
      · refine wq_iload_n dX10_unfold_26 2 rfl rfl ?_
        have hj51 : ∀ (gr60 : Nat → Nat)  (hj51e0 : Nat) (J59 : Mem), WQ Z (yX10_unfold, cX10_unfold, 6, none, 2) I gr60 47 [(0, vr Z 5 0), (1, vr Z 1 a1), (2, vi s50.1), (3, vi s50.2)] [vr Z 2 hj51e0] J59 (f_Sv_unfold_j47 a1 s50.1 s50.2 hj51e0 J59) κ44 := by
          intro gr60 hj51e0 J59
          unfold f_Sv_unfold_j47
          refine wq_grd (fun hj51he0 => ?_)
          refine wq_astore (lv' := [(4, vr Z 2 hj51e0), (0, vr Z 5 0), (1, vr Z 1 a1), (2, vi s50.1), (3, vi s50.2)]) dX10_unfold_47 (by decide) rfl ?_
          refine wq_aload dX10_unfold_49 0 rfl ?_
          refine wq_aload_n dX10_unfold_51 1 rfl rfl ?_
          refine g_5_5 ln_RX10_27 dX10_unfold_52 ?_
          refine wq_iload_n dX10_unfold_55 3 rfl rfl ?_
          refine wq_grd (fun g61 => ?_)
          refine wq_iald (k := 18) (i := 5) rfl (by decide) rfl rfl (m := 41) g61 (by decide) dX10_unfold_56 ?_
          refine wq_cVi M_Row_at (R_Row_at Z hj51e0 (J59 18 5 (w32 s50.1).toNat) _) (ob_2 hj51he0) rfl rfl (by decide) (by decide) (Nat.le_of_ble_eq_true rfl) ln_RX10_62 dX10_unfold_57 (fun gr62 x64 J63 => ?_)
          refine wq_istore (lv' := [(5, vi x64), (4, vr Z 2 hj51e0), (0, vr Z 5 0), (1, vr Z 1 a1), (2, vi s50.1), (3, vi s50.2)]) dX10_unfold_60 (by decide) rfl ?_
          refine wq_aload_n dX10_unfold_62 2 rfl rfl ?_
          refine g_5_5 ln_RX10_27 dX10_unfold_63 ?_
          refine wq_iload_n dX10_unfold_66 4 rfl rfl ?_
          refine wq_dup2 dX10_unfold_67 rfl rfl ?_
          refine wq_iald (k := 18) (i := 5) rfl (by decide) rfl rfl (m := 41) g61 (by decide) dX10_unfold_68 ?_
          refine wq_iconst dX10_unfold_69 ?_
          refine wq_iadd dX10_unfold_70 ?_
          refine wq_iast (k := 18) (i := 5) (fun _ _ => rfl) (by decide) rfl rfl (m := 41) g61 (by decide) (by decide) (by decide) (by decide) dX10_unfold_71 (fun J65 => ?_)
          refine wq_iload dX10_unfold_72 0 rfl ?_
          refine wq_iconst dX10_unfold_74 ?_
          refine wq_icmp_ne 84 dX10_unfold_75 (by decide) rfl rfl (fun c74 => ?_) (fun c74 => ?_)
          · refine wq_iinc (lv' := [(2, vi (s50.1 + (-1))), (5, vi x64), (4, vr Z 2 hj51e0), (0, vr Z 5 0), (1, vr Z 1 a1), (3, vi s50.2)]) dX10_unfold_78 4 rfl (by decide) rfl ?_
            refine wq_goto 127 dX10_unfold_81 (by decide) ?_
            refine wq_iinc (lv' := [(3, vi (s50.2 + 1)), (2, vi (s50.1 + (-1))), (5, vi x64), (4, vr Z 2 hj51e0), (0, vr Z 5 0), (1, vr Z 1 a1)]) dX10_unfold_127 5 rfl (by decide) rfl ?_
            refine wq_goto 16 dX10_unfold_130 (by decide) ?_
            exact WQ.loc [4, 5, 1, 0] rfl (bk45 _ _ _)
          · refine wq_iload dX10_unfold_84 0 rfl ?_
            refine wq_bipush dX10_unfold_86 (by decide) ?_
            refine wq_icmp_ge 100 dX10_unfold_88 (by decide) rfl rfl (fun c73 => ?_) (fun c73 => ?_)
            · refine wq_aload_n dX10_unfold_91 2 rfl rfl ?_
              refine wq_iload dX10_unfold_92 0 rfl ?_
              refine wq_cVv M_Sv_addLetter (R_Sv_addLetter Z x64 _) ob_5 rfl rfl (by decide) (by decide) (Nat.le_of_ble_eq_true rfl) ln_RX10_86 dX10_unfold_94 (fun gr70 _ J71 => ?_)
              refine wq_goto 127 dX10_unfold_97 (by decide) ?_
              refine wq_iinc (lv' := [(3, vi (s50.2 + 1)), (5, vi x64), (4, vr Z 2 hj51e0), (0, vr Z 5 0), (1, vr Z 1 a1), (2, vi s50.1)]) dX10_unfold_127 5 rfl (by decide) rfl ?_
              refine wq_goto 16 dX10_unfold_130 (by decide) ?_
              exact WQ.loc [3, 4, 5, 0] rfl (bk45 _ _ _)
            · refine wq_iload_n dX10_unfold_100 4 rfl rfl ?_
              refine wq_bipush dX10_unfold_101 (by decide) ?_
              refine wq_icmp_ge 127 dX10_unfold_103 (by decide) rfl rfl (fun c69 => ?_) (fun c69 => ?_)
              · refine wq_iinc (lv' := [(2, vi (s50.1 + 1)), (5, vi x64), (4, vr Z 2 hj51e0), (0, vr Z 5 0), (1, vr Z 1 a1), (3, vi s50.2)]) dX10_unfold_106 4 rfl (by decide) rfl ?_
                refine wq_aload_n dX10_unfold_109 3 rfl rfl ?_
                refine g_5_4 ln_RX10_24 dX10_unfold_110 ?_
                refine wq_iload_n dX10_unfold_113 0 rfl rfl ?_
                refine wq_iload dX10_unfold_114 1 rfl ?_
                refine wq_bipush dX10_unfold_116 (by decide) ?_
                refine wq_isub dX10_unfold_118 ?_
                refine wq_grd (fun g66 => ?_)
                refine wq_iast (k := 18) (i := 4) (fun _ _ => rfl) (by decide) rfl rfl (m := 41) g66 (by decide) (by decide) (by decide) (by decide) dX10_unfold_119 (fun J67 => ?_)
                refine wq_aload_n dX10_unfold_120 3 rfl rfl ?_
                refine g_5_5 ln_RX10_27 dX10_unfold_121 ?_
                refine wq_iload_n dX10_unfold_124 0 rfl rfl ?_
                refine wq_iconst dX10_unfold_125 ?_
                refine wq_iast (k := 18) (i := 5) (fun _ _ => rfl) (by decide) rfl rfl (m := 41) g66 (by decide) (by decide) (by decide) (by decide) dX10_unfold_126 (fun J68 => ?_)
                refine wq_iinc (lv' := [(3, vi (s50.2 + 1)), (2, vi (s50.1 + 1)), (5, vi x64), (4, vr Z 2 hj51e0), (0, vr Z 5 0), (1, vr Z 1 a1)]) dX10_unfold_127 5 rfl (by decide) rfl ?_
                refine wq_goto 16 dX10_unfold_130 (by decide) ?_
                exact WQ.loc [4, 5, 1, 0] rfl (bk45 _ _ _)
              · refine wq_iinc (lv' := [(3, vi (s50.2 + 1)), (5, vi x64), (4, vr Z 2 hj51e0), (0, vr Z 5 0), (1, vr Z 1 a1), (2, vi s50.1)]) dX10_unfold_127 5 rfl (by decide) rfl ?_
                refine wq_goto 16 dX10_unfold_130 (by decide) ?_
                exact WQ.loc [3, 4, 5, 0] rfl (bk45 _ _ _)
        refine wq_if_ne 37 dX10_unfold_27 (by decide) rfl (fun c58 => ?_) (fun c58 => ?_)
        · refine wq_aload_n dX10_unfold_30 1 rfl rfl ?_
          refine wq_pV (v := vr Z 2 (43 * a1)) M_G_startRow (R_G_startRow Z a1 _ _ _ (if_pos h1)) (ob_1 h1) rfl rfl (by decide) (by decide) (Nat.le_of_ble_eq_true rfl) ln_RX10_48 dX10_unfold_31 (fun gr57 => ?_)
          refine wq_goto 47 dX10_unfold_34 (by decide) ?_
          exact WQ.loc [0, 1, 2, 3] rfl (hj51 _  _ _)
        · refine wq_aload_n dX10_unfold_37 1 rfl rfl ?_
          refine wq_aload_n dX10_unfold_38 0 rfl rfl ?_
          refine g_5_4 ln_RX10_24 dX10_unfold_39 ?_
          refine wq_iload_n dX10_unfold_42 2 rfl rfl ?_
          refine wq_grd (fun g52 => ?_)
          refine wq_iald (k := 18) (i := 4) rfl (by decide) rfl rfl (m := 41) g52 (by decide) dX10_unfold_43 ?_
          refine wq_cVr 2 M_G_body (R_G_body Z a1 (J48 18 4 (w32 s50.1).toNat) _) (ob_1 h1) rfl rfl (by decide) (by decide) (Nat.le_of_ble_eq_true rfl) ln_RX10_38 dX10_unfold_44 (fun gr53 x55 J54 => ?_)
          refine wq_grd (fun g56 => ?_)
          exact WQ.loc [0, 1, 2, 3] rfl (hj51 _  _ _)
    · exact WQ.loc [] rfl (ex46 _ _ _)
  · exact wq_vret rfl rfl dX10_unfold_133

theorem M_Row_put : MwV yX5_put cX5_put 2 (none) 1 := ⟨li_2 89 (by decide +kernel) (by decide +kernel), li_2 87 (by decide +kernel) (by decide +kernel), li_2 88 (by decide +kernel) (by decide +kernel), li_1 3 (by decide +kernel) (by decide +kernel), by decide +kernel⟩
theorem ln_RX10_93 : Cond.methodLink RX10 93 yX5_put ∈ lw_good := li_3 150 (by decide +kernel) (by decide +kernel)
theorem ln_RX10_90 : Cond.methodLink RX10 90 yX5_clear ∈ lw_good := li_3 149 (by decide +kernel) (by decide +kernel)
noncomputable def f_Sv_writeTextTo_w6 (v1 : Nat) (s : Int) (I : Mem) : Option (((Int) ⊕ (Unit)) × Mem) :=
if (w32 s) < (w32 (I 5 0 7)) then
if 0 ≤ (w32 s) ∧ (w32 s) < 400 then
bnd (f_Row_put v1 (I 18 3 (w32 s).toNat) I) fun _ J6 =>
some (.inl (s + 1), J6)
else none
else
some (.inr (), I)

noncomputable def f_Sv_writeTextTo (a1 : Nat) (I : Mem) : Option ((Unit) × Mem) :=
if a1 < 516 then
bnd (f_Row_clear a1 I) fun _ J2 =>
bnd (whl (f_Sv_writeTextTo_w6 a1) 0 J2) fun r21 J22 =>
some ((), J22)
else none
set_option maxRecDepth 20000 in
theorem R_Sv_writeTextTo (Z : ZT) (a1 : Nat) (I : Mem) (r : Unit) (J : Mem) (hf : f_Sv_writeTextTo a1 I = some (r, J)) : Runs Z yX10_writeTextTo cX10_writeTextTo 3 (none) 3 [vr Z 5 0, vr Z 2 a1] I (none, J) := by
  refine Runs.of (rv := fun _ => none) (by decide +kernel) (Nat.le_of_ble_eq_true rfl) hf (fun gr => ?_)
  unfold f_Sv_writeTextTo
  refine WQ.loc [0, 1] (lv' := [(0, vr Z 5 0), (1, vr Z 2 a1)]) rfl ?_
  refine wq_grd (fun h1 => ?_)
  refine wq_aload_n dX10_writeTextTo_0 1 rfl rfl ?_
  refine wq_cVv M_Row_clear (R_Row_clear Z a1 _) (ob_2 h1) rfl rfl (by decide) (by decide) (Nat.le_of_ble_eq_true rfl) ln_RX10_90 dX10_writeTextTo_1 (fun gr1 _ J2 => ?_)
  refine wq_iconst dX10_writeTextTo_4 ?_
  refine wq_istore_n (lv' := [(2, vi 0), (0, vr Z 5 0), (1, vr Z 2 a1)]) dX10_writeTextTo_5 rfl (by decide) rfl ?_
  refine WQ.loc [1, 2, 0] (lv' := [(0, vr Z 5 0), (1, vr Z 2 a1), (2, vi 0)]) rfl ?_
  refine wq_loopS (fun s15 => [(0, vr Z 5 0), (1, vr Z 2 a1), (2, vi s15)]) 30 (fun _ => []) (fun κ9 bk10 ex11 gr14 s15 J13 => ?_) (fun gr23 r21 J22 => ?_) gr1 _ rfl
  · unfold f_Sv_writeTextTo_w6
    refine wq_iload_n dX10_writeTextTo_6 2 rfl rfl ?_
    refine wq_aload_n dX10_writeTextTo_7 0 rfl rfl ?_
    refine g_5_7 ln_RX10_82 dX10_writeTextTo_8 ?_
    refine wq_icmp_ge 30 dX10_writeTextTo_11 (by decide) rfl rfl (fun c20 => ?_) (fun c20 => ?_)
    · refine wq_aload_n dX10_writeTextTo_14 1 rfl rfl ?_
      refine wq_aload_n dX10_writeTextTo_15 0 rfl rfl ?_
      refine g_5_3 ln_RX10_21 dX10_writeTextTo_16 ?_
      refine wq_iload_n dX10_writeTextTo_19 2 rfl rfl ?_
      refine wq_grd (fun g16 => ?_)
      refine wq_iald (k := 18) (i := 3) rfl (by decide) rfl rfl (m := 400) g16 (by decide) dX10_writeTextTo_20 ?_
      refine wq_cVv M_Row_put (R_Row_put Z a1 (J13 18 3 (w32 s15).toNat) _) (ob_2 h1) rfl rfl (by decide) (by decide) (Nat.le_of_ble_eq_true rfl) ln_RX10_93 dX10_writeTextTo_21 (fun gr17 _ J18 => ?_)
      refine wq_iinc (lv' := [(2, vi (s15 + 1)), (0, vr Z 5 0), (1, vr Z 2 a1)]) dX10_writeTextTo_24 2 rfl (by decide) rfl ?_
      refine wq_goto 6 dX10_writeTextTo_27 (by decide) ?_
      exact WQ.loc [1, 2, 0] rfl (bk10 _ _ _)
    · exact WQ.loc [] rfl (ex11 _ _ _)
  · exact wq_vret rfl rfl dX10_writeTextTo_30

theorem M_Src_kindOf : MwV yX8_kindOf cX8_kindOf 2 (some .int) 1 := ⟨li_2 171 (by decide +kernel) (by decide +kernel), li_2 170 (by decide +kernel) (by decide +kernel), lw_in 1 (by decide +kernel) (by decide +kernel), li_1 7 (by decide +kernel) (by decide +kernel), by decide +kernel⟩
theorem ln_RX8_34 : Cond.methodLink RX8 34 yX8_kindOf ∈ lw_good := li_2 168 (by decide +kernel) (by decide +kernel)
noncomputable def f_Src_advance_w5  (s : Int) (I : Mem) : Option (((Int) ⊕ (Int)) × Mem) :=
if (w32 s) < (w32 (I 6 0 1)) then
if 0 ≤ (w32 s) ∧ (w32 s) < 600 then
if (w32 (I 19 0 (w32 s).toNat)) = 32 then
some (.inl (s + 1), I)
else
if (w32 (I 19 0 (w32 s).toNat)) = 10 then
some (.inl (s + 1), I)
else
some (.inr s, I)
else none
else
some (.inr s, I)

noncomputable def f_Src_advance_w109 (v2 : Int) (s : Int) (I : Mem) : Option (((Int) ⊕ (Int)) × Mem) :=
if (w32 v2) = 0 then
some (.inr s, I)
else
if (w32 s) < (w32 (I 6 0 1)) then
if 0 ≤ (w32 s) ∧ (w32 s) < 600 then
bnd (f_Src_kindOf (I 19 0 (w32 s).toNat) I) fun x34 J33 =>
if (w32 x34) = (w32 (J33 6 0 2)) then
some (.inl (s + 1), J33)
else
some (.inr s, J33)
else none
else
some (.inr s, I)

noncomputable def f_Src_advance_j93 (v1 : Int)  (e0 : Int) (I : Mem) : Option ((Unit) × Mem) :=
bnd (whl (f_Src_advance_w109 e0) (v1 + (if (w32 (I 6 0 2)) = 0 then 0 else 1)) I) fun r52 J53 =>
ltI (sI J53 6 0 4 r52) fun J55 =>
some ((), J55)

noncomputable def f_Src_advance_j88 (v1 : Int)   (I : Mem) : Option ((Unit) × Mem) :=
f_Src_advance_j93 v1 1 I

noncomputable def f_Src_advance_j69 (v1 : Int)  (e0 : Int) (I : Mem) : Option ((Unit) × Mem) :=
ltI (sI I 6 0 2 e0) fun J26 =>
if (w32 (J26 6 0 2)) = 1 then
f_Src_advance_j88 v1 J26
else
if (w32 (J26 6 0 2)) = 2 then
f_Src_advance_j88 v1 J26
else
f_Src_advance_j93 v1 0 J26

noncomputable def f_Src_advance  (I : Mem) : Option ((Unit) × Mem) :=
bnd (whl (f_Src_advance_w5) (I 6 0 4) I) fun r16 J17 =>
ltI (sI J17 6 0 3 r16) fun J19 =>
if (w32 r16) < (w32 (J19 6 0 1)) then
if 0 ≤ (w32 r16) ∧ (w32 r16) < 600 then
bnd (f_Src_kindOf (J19 19 0 (w32 r16).toNat) J19) fun x24 J23 =>
f_Src_advance_j69 r16 x24 J23
else none
else
f_Src_advance_j69 r16 0 J19
set_option maxRecDepth 20000 in
theorem R_Src_advance (Z : ZT)  (I : Mem) (r : Unit) (J : Mem) (hf : f_Src_advance I = some (r, J)) : Runs Z yX8_advance cX8_advance 3 (none) 2 [vr Z 6 0] I (none, J) := by
  refine Runs.of (rv := fun _ => none) (by decide +kernel) (Nat.le_of_ble_eq_true rfl) hf (fun gr => ?_)
  unfold f_Src_advance
  refine WQ.loc [0] (lv' := [(0, vr Z 6 0)]) rfl ?_
  refine wq_aload_n dX8_advance_0 0 rfl rfl ?_
  refine g_6_4 ln_RX8_19 dX8_advance_1 ?_
  refine wq_istore_n (lv' := [(1, vi (I 6 0 4)), (0, vr Z 6 0)]) dX8_advance_4 rfl (by decide) rfl ?_
  refine WQ.loc [1, 0] (lv' := [(0, vr Z 6 0), (1, vi (I 6 0 4))]) rfl ?_
  refine wq_loopS (fun s11 => [(0, vr Z 6 0), (1, vi s11)]) 41 (fun r16 => [(0, vr Z 6 0), (1, vi r16)]) (fun κ5 bk6 ex7 gr10 s11 J9 => ?_) (fun gr18 r16 J17 => ?_) gr _ rfl
  · unfold f_Src_advance_w5
    refine wq_iload_n dX8_advance_5 1 rfl rfl ?_
    refine wq_aload_n dX8_advance_6 0 rfl rfl ?_
    refine g_6_1 ln_RX8_15 dX8_advance_7 ?_
    refine wq_icmp_ge 41 dX8_advance_10 (by decide) rfl rfl (fun c15 => ?_) (fun c15 => ?_)
    · refine wq_aload_n dX8_advance_13 0 rfl rfl ?_
      refine g_6_0 ln_RX8_9 dX8_advance_14 ?_
      refine wq_iload_n dX8_advance_17 1 rfl rfl ?_
      refine wq_grd (fun g12 => ?_)
      refine wq_iald (k := 19) (i := 0) rfl (by decide) rfl rfl (m := 600) g12 (Nat.le_refl _) dX8_advance_18 ?_
      refine wq_bipush dX8_advance_19 (by decide) ?_
      refine wq_icmp_eq 35 dX8_advance_21 (by decide) rfl rfl (fun c14 => ?_) (fun c14 => ?_)
      · refine wq_iinc (lv' := [(1, vi (s11 + 1)), (0, vr Z 6 0)]) dX8_advance_35 1 rfl (by decide) rfl ?_
        refine wq_goto 5 dX8_advance_38 (by decide) ?_
        exact WQ.loc [1, 0] rfl (bk6 _ _ _)
      · refine wq_aload_n dX8_advance_24 0 rfl rfl ?_
        refine g_6_0 ln_RX8_9 dX8_advance_25 ?_
        refine wq_iload_n dX8_advance_28 1 rfl rfl ?_
        refine wq_iald (k := 19) (i := 0) rfl (by decide) rfl rfl (m := 600) g12 (Nat.le_refl _) dX8_advance_29 ?_
        refine wq_bipush dX8_advance_30 (by decide) ?_
        refine wq_icmp_ne 41 dX8_advance_32 (by decide) rfl rfl (fun c13 => ?_) (fun c13 => ?_)
        · refine wq_iinc (lv' := [(1, vi (s11 + 1)), (0, vr Z 6 0)]) dX8_advance_35 1 rfl (by decide) rfl ?_
          refine wq_goto 5 dX8_advance_38 (by decide) ?_
          exact WQ.loc [1, 0] rfl (bk6 _ _ _)
        · exact WQ.loc [0, 1] rfl (ex7 _ _ _)
    · exact WQ.loc [0, 1] rfl (ex7 _ _ _)
  · refine wq_aload_n dX8_advance_41 0 rfl rfl ?_
    refine wq_iload_n dX8_advance_42 1 rfl rfl ?_
    refine p_6_3 ln_RX8_31 dX8_advance_43 (fun J19 => ?_)
    refine wq_aload_n dX8_advance_46 0 rfl rfl ?_
    refine wq_iload_n dX8_advance_47 1 rfl rfl ?_
    refine wq_aload_n dX8_advance_48 0 rfl rfl ?_
    refine g_6_1 ln_RX8_15 dX8_advance_49 ?_
    have hj20 : ∀ (gr83 : Nat → Nat)  (hj20e0 : Int) (J82 : Mem), WQ Z (yX8_advance, cX8_advance, 3, none, 2) I gr83 69 [(0, vr Z 6 0), (1, vi r16)] [vi hj20e0, vr Z 6 0] J82 (f_Src_advance_j69 r16 hj20e0 J82) (fun b K => some (.inl ((fun _ => none) b), K)) := by
      intro gr83 hj20e0 J82
      unfold f_Src_advance_j69
      refine p_6_2 ln_RX8_38 dX8_advance_69 (fun J84 => ?_)
      refine wq_aload_n dX8_advance_72 0 rfl rfl ?_
      refine g_6_2 ln_RX8_38 dX8_advance_73 ?_
      refine wq_iconst dX8_advance_76 ?_
      have hj85 : ∀ (gr90 : Nat → Nat)  (hj85e0 : Int) (J89 : Mem), WQ Z (yX8_advance, cX8_advance, 3, none, 2) I gr90 93 [(0, vr Z 6 0), (1, vi r16)] [vi hj85e0] J89 (f_Src_advance_j93 r16 hj85e0 J89) (fun b K => some (.inl ((fun _ => none) b), K)) := by
        intro gr90 hj85e0 J89
        unfold f_Src_advance_j93
        refine wq_istore_n (lv' := [(2, vi hj85e0), (0, vr Z 6 0), (1, vi r16)]) dX8_advance_93 rfl (by decide) rfl ?_
        refine wq_iload_n dX8_advance_94 2 rfl rfl ?_
        refine wq_aload_n dX8_advance_95 1 rfl rfl ?_
        refine g_6_2 ln_RX8_38 dX8_advance_96 ?_
        refine WQ.via 107 [vi (if (w32 (J89 6 0 2)) = 0 then 0 else 1), vi r16] (by
            refine wq_iadd dX8_advance_107 ?_
            refine wq_istore_n (lv' := [(1, vi (r16 + (if (w32 (J89 6 0 2)) = 0 then 0 else 1))), (2, vi hj85e0), (0, vr Z 6 0)]) dX8_advance_108 rfl (by decide) rfl ?_
            refine WQ.loc [2, 0, 1] (lv' := [(0, vr Z 6 0), (1, vi (r16 + (if (w32 (J89 6 0 2)) = 0 then 0 else 1))), (2, vi hj85e0)]) rfl ?_
            refine wq_loopS (fun s97 => [(0, vr Z 6 0), (1, vi s97), (2, vi hj85e0)]) 144 (fun r105 => [(0, vr Z 6 0), (1, vi r105)]) (fun κ91 bk92 ex93 gr96 s97 J95 => ?_) (fun gr107 r105 J106 => ?_) gr90 _ rfl
            · unfold f_Src_advance_w109
              refine wq_iload_n dX8_advance_109 2 rfl rfl ?_
              refine wq_if_eq 144 dX8_advance_110 (by decide) rfl (fun c104 => ?_) (fun c104 => ?_)
              · exact WQ.loc [0, 1] rfl (ex93 _ _ _)
              · refine wq_iload_n dX8_advance_113 1 rfl rfl ?_
                refine wq_aload_n dX8_advance_114 0 rfl rfl ?_
                refine g_6_1 ln_RX8_15 dX8_advance_115 ?_
                refine wq_icmp_ge 144 dX8_advance_118 (by decide) rfl rfl (fun c103 => ?_) (fun c103 => ?_)
                · refine wq_aload_n dX8_advance_121 0 rfl rfl ?_
                  refine wq_aload_n dX8_advance_122 0 rfl rfl ?_
                  refine g_6_0 ln_RX8_9 dX8_advance_123 ?_
                  refine wq_iload_n dX8_advance_126 1 rfl rfl ?_
                  refine wq_grd (fun g98 => ?_)
                  refine wq_iald (k := 19) (i := 0) rfl (by decide) rfl rfl (m := 600) g98 (Nat.le_refl _) dX8_advance_127 ?_
                  refine wq_cVi M_Src_kindOf (R_Src_kindOf Z (J95 19 0 (w32 s97).toNat) _) ob_6 rfl rfl (by decide) (by decide) (Nat.le_of_ble_eq_true rfl) ln_RX8_34 dX8_advance_128 (fun gr99 x101 J100 => ?_)
                  refine wq_aload_n dX8_advance_131 0 rfl rfl ?_
                  refine g_6_2 ln_RX8_38 dX8_advance_132 ?_
                  refine wq_icmp_ne 144 dX8_advance_135 (by decide) rfl rfl (fun c102 => ?_) (fun c102 => ?_)
                  · refine wq_iinc (lv' := [(1, vi (s97 + 1)), (0, vr Z 6 0), (2, vi hj85e0)]) dX8_advance_138 1 rfl (by decide) rfl ?_
                    refine wq_goto 109 dX8_advance_141 (by decide) ?_
                    exact WQ.loc [1, 0, 2] rfl (bk92 _ _ _)
                  · exact WQ.loc [0, 1] rfl (ex93 _ _ _)
                · exact WQ.loc [0, 1] rfl (ex93 _ _ _)
            · refine wq_aload_n dX8_advance_144 0 rfl rfl ?_
              refine wq_iload_n dX8_advance_145 1 rfl rfl ?_
              refine p_6_4 ln_RX8_19 dX8_advance_146 (fun J108 => ?_)
              exact wq_vret rfl rfl dX8_advance_149) (fun hj109 => ?_)
        refine WQ.both ((w32 (J89 6 0 2)) = 0) ?_
        refine wq_if_ne 106 dX8_advance_99 (by decide) rfl (fun c110 => ?_) (fun c110 => ?_)
        · refine wq_iconst dX8_advance_102 ?_
          refine wq_goto 107 dX8_advance_103 (by decide) ?_
          exact WQ.top (if_pos c110) hj109
        · refine wq_iconst dX8_advance_106 ?_
          exact WQ.top (if_neg c110) hj109
      have hj86 : ∀ (gr112 : Nat → Nat)   (J111 : Mem), WQ Z (yX8_advance, cX8_advance, 3, none, 2) I gr112 88 [(0, vr Z 6 0), (1, vi r16)] [] J111 (f_Src_advance_j88 r16 J111) (fun b K => some (.inl ((fun _ => none) b), K)) := by
        intro gr112 J111
        unfold f_Src_advance_j88
        refine wq_iconst dX8_advance_88 ?_
        refine wq_goto 93 dX8_advance_89 (by decide) ?_
        exact WQ.loc [0, 1] rfl (hj85 _  _ _)
      refine wq_icmp_eq 88 dX8_advance_77 (by decide) rfl rfl (fun c88 => ?_) (fun c88 => ?_)
      · exact WQ.loc [0, 1] rfl (hj86 _   _)
      · refine wq_aload_n dX8_advance_80 0 rfl rfl ?_
        refine g_6_2 ln_RX8_38 dX8_advance_81 ?_
        refine wq_iconst dX8_advance_84 ?_
        refine wq_icmp_ne 92 dX8_advance_85 (by decide) rfl rfl (fun c87 => ?_) (fun c87 => ?_)
        · exact WQ.loc [0, 1] rfl (hj86 _   _)
        · refine wq_iconst dX8_advance_92 ?_
          exact WQ.loc [0, 1] rfl (hj85 _  _ _)
    refine wq_icmp_ge 68 dX8_advance_52 (by decide) rfl rfl (fun c25 => ?_) (fun c25 => ?_)
    · refine wq_aload_n dX8_advance_55 0 rfl rfl ?_
      refine wq_aload_n dX8_advance_56 0 rfl rfl ?_
      refine g_6_0 ln_RX8_9 dX8_advance_57 ?_
      refine wq_iload_n dX8_advance_60 1 rfl rfl ?_
      refine wq_grd (fun g21 => ?_)
      refine wq_iald (k := 19) (i := 0) rfl (by decide) rfl rfl (m := 600) g21 (Nat.le_refl _) dX8_advance_61 ?_
      refine wq_cVi M_Src_kindOf (R_Src_kindOf Z (J19 19 0 (w32 r16).toNat) _) ob_6 rfl rfl (by decide) (by decide) (Nat.le_of_ble_eq_true rfl) ln_RX8_34 dX8_advance_62 (fun gr22 x24 J23 => ?_)
      refine wq_goto 69 dX8_advance_65 (by decide) ?_
      exact WQ.loc [0, 1] rfl (hj20 _  _ _)
    · refine wq_iconst dX8_advance_68 ?_
      exact WQ.loc [0, 1] rfl (hj20 _  _ _)

theorem ln_RX8_55 : Cond.fieldLink RX8 55 RX11 "OTHER" "LPairRules$Word;" ∈ lw_good := li_2 238 (by decide +kernel) (by decide +kernel)
theorem ln_RX8_41 : Cond.fieldLink RX8 41 RX8 "WORDS" "[LPairRules$Word;" ∈ lw_good := li_2 180 (by decide +kernel) (by decide +kernel)
theorem ln_RX8_45 : Cond.fieldLinkNest RX8 45 RX11 "text" "Ljava/lang/String;" RX12 ∈ lw_nw := nw_in 2315 (by decide +kernel) (by decide +kernel)
theorem M_Src_spells : MwV yX8_spells cX8_spells 3 (some .boolean) 1 := ⟨li_2 185 (by decide +kernel) (by decide +kernel), li_2 184 (by decide +kernel) (by decide +kernel), lw_in 3 (by decide +kernel) (by decide +kernel), li_1 7 (by decide +kernel) (by decide +kernel), by decide +kernel⟩
theorem ln_RX8_51 : Cond.methodLink RX8 51 yX8_spells ∈ lw_good := li_2 182 (by decide +kernel) (by decide +kernel)
noncomputable def f_Src_word_w10  (s : Int) (I : Mem) : Option (((Int) ⊕ (Nat)) × Mem) :=
if (w32 s) < 15 then
if 0 ≤ (w32 s) ∧ (w32 s) < 15 then
bnd (f_Src_spells ((w32 s).toNat) I) fun x4 J3 =>
if (w32 x4) = 0 then
some (.inl (s + 1), J3)
else
if 0 ≤ (w32 s) ∧ (w32 s) < 15 then
some (.inr ((w32 s).toNat), J3)
else none
else none
else
some (.inr (14), I)

noncomputable def f_Src_word  (I : Mem) : Option ((Nat) × Mem) :=
if (w32 (I 6 0 2)) = 1 then
whl (f_Src_word_w10) 0 I
else
some (14, I)
set_option maxRecDepth 20000 in
theorem R_Src_word (Z : ZT)  (I : Mem) (r : Nat) (J : Mem) (hf : f_Src_word I = some (r, J)) : Runs Z yX8_word cX8_word 2 (some (.object RX11)) 6 [vr Z 6 0] I (some (vr Z 11 r), J) := by
  refine Runs.of (rv := fun x => some (vr Z 11 x)) (by decide +kernel) (Nat.le_of_ble_eq_true rfl) hf (fun gr => ?_)
  unfold f_Src_word
  refine WQ.loc [0] (lv' := [(0, vr Z 6 0)]) rfl ?_
  refine wq_aload_n dX8_word_0 0 rfl rfl ?_
  refine g_6_2 ln_RX8_38 dX8_word_1 ?_
  refine wq_iconst dX8_word_4 ?_
  refine wq_icmp_ne 45 dX8_word_5 (by decide) rfl rfl (fun c22 => ?_) (fun c22 => ?_)
  · refine wq_iconst dX8_word_8 ?_
    refine wq_istore_n (lv' := [(1, vi 0), (0, vr Z 6 0)]) dX8_word_9 rfl (by decide) rfl ?_
    refine WQ.loc [1, 0] (lv' := [(0, vr Z 6 0), (1, vi 0)]) rfl ?_
    refine wq_loop (fun s14 => [(0, vr Z 6 0), (1, vi s14)]) (fun κ8 bk9 hr11 gr13 s14 J12 => ?_) gr _ rfl
    unfold f_Src_word_w10
    refine wq_iload_n dX8_word_10 1 rfl rfl ?_
    refine wq_gets sta_WORDS ln_RX8_41 dX8_word_11 ?_
    refine wq_WORDSlen dX8_word_14 ?_
    refine wq_icmp_ge 45 dX8_word_15 (by decide) rfl rfl (fun c21 => ?_) (fun c21 => ?_)
    · refine wq_aload_n dX8_word_18 0 rfl rfl ?_
      refine wq_gets sta_WORDS ln_RX8_41 dX8_word_19 ?_
      refine wq_iload_n dX8_word_22 1 rfl rfl ?_
      refine wq_grd (fun g15 => ?_)
      refine wq_WORDS rfl g15 dX8_word_23 ?_
      refine wq_wtext (by omega) ln_RX8_45 dX8_word_24 ?_
      refine wq_cVi M_Src_spells (R_Src_spells Z ((w32 s14).toNat) _) ob_6 rfl rfl (by decide) (by decide) (Nat.le_of_ble_eq_true rfl) ln_RX8_51 dX8_word_27 (fun gr16 x18 J17 => ?_)
      refine wq_if_eq 39 dX8_word_30 (by decide) rfl (fun c20 => ?_) (fun c20 => ?_)
      · refine wq_iinc (lv' := [(1, vi (s14 + 1)), (0, vr Z 6 0)]) dX8_word_39 1 rfl (by decide) rfl ?_
        refine wq_goto 10 dX8_word_42 (by decide) ?_
        exact WQ.loc [1, 0] rfl (bk9 _ _ _)
      · refine wq_gets sta_WORDS ln_RX8_41 dX8_word_33 ?_
        refine wq_iload_n dX8_word_36 1 rfl rfl ?_
        refine wq_grd (fun g19 => ?_)
        refine wq_WORDS rfl g19 dX8_word_37 ?_
        exact wq_aret rfl (Or.inl ⟨_, rfl⟩) ((hr11 _ _).trans rfl) dX8_word_38
    · refine wq_gets (sta_word 14 (by decide)) ln_RX8_55 dX8_word_45 ?_
      exact wq_aret rfl (Or.inl ⟨_, rfl⟩) ((hr11 _ _).trans rfl) dX8_word_48
  · refine wq_gets (sta_word 14 (by decide)) ln_RX8_55 dX8_word_45 ?_
    exact wq_aret rfl (Or.inl ⟨_, rfl⟩) rfl dX8_word_48

theorem M_Src_failAt : MwV yX8_failAt cX8_failAt 3 (some .boolean) 2 := ⟨li_3 8 (by decide +kernel) (by decide +kernel), li_3 6 (by decide +kernel) (by decide +kernel), li_3 7 (by decide +kernel) (by decide +kernel), li_1 7 (by decide +kernel) (by decide +kernel), by decide +kernel⟩
theorem ln_RX8_79 : Cond.methodLink RX8 79 yX8_failAt ∈ lw_good := li_3 5 (by decide +kernel) (by decide +kernel)
noncomputable def f_Src_fail (a1 : Int) (I : Mem) : Option ((Int) × Mem) :=
bnd (f_Src_failAt a1 (I 6 0 3) I) fun x3 J2 =>
if x3 = 0 ∨ x3 = 1 then
some (x3, J2)
else none
set_option maxRecDepth 20000 in
theorem R_Src_fail (Z : ZT) (a1 : Int) (I : Mem) (r : Int) (J : Mem) (hf : f_Src_fail a1 I = some (r, J)) : Runs Z yX8_fail cX8_fail 2 (some .boolean) 2 [vr Z 6 0, vi a1] I (some (vi r), J) := by
  refine Runs.of (rv := fun x => some (vi x)) (by decide +kernel) (Nat.le_of_ble_eq_true rfl) hf (fun gr => ?_)
  unfold f_Src_fail
  refine WQ.loc [0, 1] (lv' := [(0, vr Z 6 0), (1, vi a1)]) rfl ?_
  refine wq_aload_n dX8_fail_0 0 rfl rfl ?_
  refine wq_iload_n dX8_fail_1 1 rfl rfl ?_
  refine wq_aload_n dX8_fail_2 0 rfl rfl ?_
  refine g_6_3 ln_RX8_31 dX8_fail_3 ?_
  refine wq_cVi M_Src_failAt (R_Src_failAt Z a1 (I 6 0 3) _) ob_6 rfl rfl (by decide) (by decide) (Nat.le_of_ble_eq_true rfl) ln_RX8_79 dX8_fail_6 (fun gr1 x3 J2 => ?_)
  refine wq_grd (fun g4 => ?_)
  exact wq_zret rfl g4 rfl dX8_fail_9

theorem ln_RX7_9 : Cond.fieldLink RX7 9 RX7 "source" "LPairRules$Source;" ∈ lw_good := li_1 208 (by decide +kernel) (by decide +kernel)
theorem M_Src_manyInToken : MwV yX8_manyInToken cX8_manyInToken 1 (some .int) 0 := ⟨li_3 29 (by decide +kernel) (by decide +kernel), li_3 27 (by decide +kernel) (by decide +kernel), li_3 28 (by decide +kernel) (by decide +kernel), li_1 7 (by decide +kernel) (by decide +kernel), by decide +kernel⟩
theorem ln_RX7_110 : Cond.methodLink RX7 110 yX8_manyInToken ∈ lw_good := li_3 26 (by decide +kernel) (by decide +kernel)
theorem ln_RX7_90 : Cond.fieldLink RX7 90 RX7 "length" "I" ∈ lw_good := li_1 211 (by decide +kernel) (by decide +kernel)
theorem M_Src_from : MwV yX8_from cX8_from 1 (some .int) 0 := ⟨li_3 33 (by decide +kernel) (by decide +kernel), li_3 31 (by decide +kernel) (by decide +kernel), li_3 32 (by decide +kernel) (by decide +kernel), li_1 7 (by decide +kernel) (by decide +kernel), by decide +kernel⟩
theorem ln_RX7_113 : Cond.methodLink RX7 113 yX8_from ∈ lw_good := li_3 30 (by decide +kernel) (by decide +kernel)
theorem ln_RX7_120 : Cond.methodLink RX7 120 yX5_put ∈ lw_good := li_3 35 (by decide +kernel) (by decide +kernel)
theorem ln_RX7_116 : Cond.methodLink RX7 116 yX8_byteAt ∈ lw_good := li_3 34 (by decide +kernel) (by decide +kernel)
theorem M_Src_advance : MwV yX8_advance cX8_advance 3 (none) 0 := ⟨li_2 167 (by decide +kernel) (by decide +kernel), li_2 165 (by decide +kernel) (by decide +kernel), li_2 166 (by decide +kernel) (by decide +kernel), li_1 7 (by decide +kernel) (by decide +kernel), by decide +kernel⟩
theorem ln_RX7_67 : Cond.methodLink RX7 67 yX8_advance ∈ lw_good := li_3 9 (by decide +kernel) (by decide +kernel)
theorem M_Src_fail : MwV yX8_fail cX8_fail 2 (some .boolean) 1 := ⟨li_3 4 (by decide +kernel) (by decide +kernel), li_3 2 (by decide +kernel) (by decide +kernel), li_3 3 (by decide +kernel) (by decide +kernel), li_1 7 (by decide +kernel) (by decide +kernel), by decide +kernel⟩
theorem ln_RX7_63 : Cond.methodLink RX7 63 yX8_fail ∈ lw_good := li_3 1 (by decide +kernel) (by decide +kernel)
noncomputable def f_Set_readLetters_w31 (v1 : Nat) (v2 : Int) (s : Int) (I : Mem) : Option (((Int) ⊕ (Unit)) × Mem) :=
if (w32 s) < (w32 v2) then
bnd (f_Src_byteAt ((I 6 0 3) + s) I) fun x5 J4 =>
bnd (f_Row_put v1 (x5 - 97) J4) fun _ J7 =>
some (.inl (s + 1), J7)
else
some (.inr (), I)

noncomputable def f_Set_readLetters (a1 : Nat) (I : Mem) : Option ((Int) × Mem) :=
if a1 < 516 then
if 400 < (w32 ((I 7 0 3) + ((I 6 0 4) - (I 6 0 3)))) then
bnd (f_Src_fail 5 I) fun x34 J33 =>
if x34 = 0 ∨ x34 = 1 then
some (x34, J33)
else none
else
bnd (whl (f_Set_readLetters_w31 a1 ((I 6 0 4) - (I 6 0 3))) 0 I) fun r25 J26 =>
ltI (sI J26 7 0 3 ((J26 7 0 3) + ((I 6 0 4) - (I 6 0 3)))) fun J28 =>
bnd (f_Src_advance J28) fun _ J30 =>
some (1, J30)
else none
set_option maxRecDepth 20000 in
theorem R_Set_readLetters (Z : ZT) (a1 : Nat) (I : Mem) (r : Int) (J : Mem) (hf : f_Set_readLetters a1 I = some (r, J)) : Runs Z yX7_readLetters cX7_readLetters 4 (some .boolean) 3 [vr Z 7 0, vr Z 2 a1] I (some (vi r), J) := by
  refine Runs.of (rv := fun x => some (vi x)) (by decide +kernel) (Nat.le_of_ble_eq_true rfl) hf (fun gr => ?_)
  unfold f_Set_readLetters
  refine WQ.loc [0, 1] (lv' := [(0, vr Z 7 0), (1, vr Z 2 a1)]) rfl ?_
  refine wq_grd (fun h1 => ?_)
  refine wq_aload_n dX7_readLetters_0 0 rfl rfl ?_
  refine g_7_0 ln_RX7_9 dX7_readLetters_1 ?_
  refine wq_pV (v := vi ((I 6 0 4) - (I 6 0 3))) M_Src_manyInToken (R_Src_manyInToken Z  _ _ _ rfl) ob_6 rfl rfl (by decide) (by decide) (Nat.le_of_ble_eq_true rfl) ln_RX7_110 dX7_readLetters_4 (fun gr1 => ?_)
  refine wq_istore_n (lv' := [(2, vi ((I 6 0 4) - (I 6 0 3))), (0, vr Z 7 0), (1, vr Z 2 a1)]) dX7_readLetters_7 rfl (by decide) rfl ?_
  refine wq_aload_n dX7_readLetters_8 1 rfl rfl ?_
  refine g_7_3 ln_RX7_90 dX7_readLetters_9 ?_
  refine wq_iload_n dX7_readLetters_12 0 rfl rfl ?_
  refine wq_iadd dX7_readLetters_13 ?_
  refine wq_sipush dX7_readLetters_14 (by decide) ?_
  refine wq_icmp_le 29 dX7_readLetters_17 (by decide) rfl rfl (fun c36 => ?_) (fun c36 => ?_)
  · refine wq_aload_n dX7_readLetters_20 1 rfl rfl ?_
    refine g_7_0 ln_RX7_9 dX7_readLetters_21 ?_
    refine wq_iconst dX7_readLetters_24 ?_
    refine wq_cVi M_Src_fail (R_Src_fail Z 5 _) ob_6 rfl rfl (by decide) (by decide) (Nat.le_of_ble_eq_true rfl) ln_RX7_63 dX7_readLetters_25 (fun gr32 x34 J33 => ?_)
    refine wq_grd (fun g35 => ?_)
    exact wq_zret rfl g35 rfl dX7_readLetters_28
  · refine wq_iconst dX7_readLetters_29 ?_
    refine wq_istore_n (lv' := [(3, vi 0), (2, vi ((I 6 0 4) - (I 6 0 3))), (0, vr Z 7 0), (1, vr Z 2 a1)]) dX7_readLetters_30 rfl (by decide) rfl ?_
    refine WQ.loc [2, 3, 1, 0] (lv' := [(0, vr Z 7 0), (1, vr Z 2 a1), (2, vi ((I 6 0 4) - (I 6 0 3))), (3, vi 0)]) rfl ?_
    refine wq_loopS (fun s16 => [(0, vr Z 7 0), (1, vr Z 2 a1), (2, vi ((I 6 0 4) - (I 6 0 3))), (3, vi s16)]) 65 (fun _ => [(0, vr Z 7 0), (2, vi ((I 6 0 4) - (I 6 0 3)))]) (fun κ10 bk11 ex12 gr15 s16 J14 => ?_) (fun gr27 r25 J26 => ?_) gr1 _ rfl
    · unfold f_Set_readLetters_w31
      refine wq_iload_n dX7_readLetters_31 3 rfl rfl ?_
      refine wq_iload_n dX7_readLetters_32 2 rfl rfl ?_
      refine wq_icmp_ge 65 dX7_readLetters_33 (by decide) rfl rfl (fun c24 => ?_) (fun c24 => ?_)
      · refine wq_aload_n dX7_readLetters_36 1 rfl rfl ?_
        refine wq_aload_n dX7_readLetters_37 0 rfl rfl ?_
        refine g_7_0 ln_RX7_9 dX7_readLetters_38 ?_
        refine wq_aload_n dX7_readLetters_41 0 rfl rfl ?_
        refine g_7_0 ln_RX7_9 dX7_readLetters_42 ?_
        refine wq_pV (v := vi (J14 6 0 3)) M_Src_from (R_Src_from Z  _ _ _ rfl) ob_6 rfl rfl (by decide) (by decide) (Nat.le_of_ble_eq_true rfl) ln_RX7_113 dX7_readLetters_45 (fun gr17 => ?_)
        refine wq_iload_n dX7_readLetters_48 3 rfl rfl ?_
        refine wq_iadd dX7_readLetters_49 ?_
        refine wq_cVi M_Src_byteAt (R_Src_byteAt Z ((J14 6 0 3) + s16) _) ob_6 rfl rfl (by decide) (by decide) (Nat.le_of_ble_eq_true rfl) ln_RX7_116 dX7_readLetters_50 (fun gr18 x20 J19 => ?_)
        refine wq_bipush dX7_readLetters_53 (by decide) ?_
        refine wq_isub dX7_readLetters_55 ?_
        refine wq_cVv M_Row_put (R_Row_put Z a1 (x20 - 97) _) (ob_2 h1) rfl rfl (by decide) (by decide) (Nat.le_of_ble_eq_true rfl) ln_RX7_120 dX7_readLetters_56 (fun gr21 _ J22 => ?_)
        refine wq_iinc (lv' := [(3, vi (s16 + 1)), (0, vr Z 7 0), (1, vr Z 2 a1), (2, vi ((I 6 0 4) - (I 6 0 3)))]) dX7_readLetters_59 3 rfl (by decide) rfl ?_
        refine wq_goto 31 dX7_readLetters_62 (by decide) ?_
        exact WQ.loc [1, 2, 3, 0] rfl (bk11 _ _ _)
      · exact WQ.loc [0, 2] rfl (ex12 _ _ _)
    · refine wq_aload_n dX7_readLetters_65 0 rfl rfl ?_
      refine wq_dup dX7_readLetters_66 rfl ?_
      refine g_7_3 ln_RX7_90 dX7_readLetters_67 ?_
      refine wq_iload_n dX7_readLetters_70 1 rfl rfl ?_
      refine wq_iadd dX7_readLetters_71 ?_
      refine p_7_3 ln_RX7_90 dX7_readLetters_72 (fun J28 => ?_)
      refine wq_aload_n dX7_readLetters_75 0 rfl rfl ?_
      refine g_7_0 ln_RX7_9 dX7_readLetters_76 ?_
      refine wq_cVv M_Src_advance (R_Src_advance Z _) ob_6 rfl rfl (by decide) (by decide) (Nat.le_of_ble_eq_true rfl) ln_RX7_67 dX7_readLetters_79 (fun gr29 _ J30 => ?_)
      refine wq_iconst dX7_readLetters_82 ?_
      exact wq_zret rfl (by decide) rfl dX7_readLetters_83

theorem M_Src_is : MwV yX8_is cX8_is 2 (some .boolean) 1 := ⟨li_3 21 (by decide +kernel) (by decide +kernel), li_3 19 (by decide +kernel) (by decide +kernel), li_3 20 (by decide +kernel) (by decide +kernel), li_1 7 (by decide +kernel) (by decide +kernel), by decide +kernel⟩
theorem ln_RX6_129 : Cond.fieldLink RX6 129 RX11 "MAKE" "LPairRules$Word;" ∈ lw_good := li_3 217 (by decide +kernel) (by decide +kernel)
theorem ln_RX6_132 : Cond.methodLink RX6 132 yX8_manyInToken ∈ lw_good := li_3 219 (by decide +kernel) (by decide +kernel)
theorem ln_RX6_70 : Cond.methodLink RX6 70 yX8_fail ∈ lw_good := li_3 210 (by decide +kernel) (by decide +kernel)
theorem ln_RX6_135 : Cond.methodLink RX6 135 yX8_from ∈ lw_good := li_3 220 (by decide +kernel) (by decide +kernel)
theorem ln_RX6_80 : Cond.methodLink RX6 80 yX8_advance ∈ lw_good := li_3 203 (by decide +kernel) (by decide +kernel)
theorem ln_RX6_59 : Cond.methodLink RX6 59 yX8_is ∈ lw_good := li_3 191 (by decide +kernel) (by decide +kernel)
noncomputable def f_Scr_readLetters_j52 (v1 : Int)   (I : Mem) : Option ((Int) × Mem) :=
if 0 ≤ (w32 v1) ∧ (w32 v1) < 60 then
ltI (sI I 21 1 (w32 v1).toNat (I 6 0 3)) fun J17 =>
ltI (sI J17 21 2 (w32 v1).toNat ((J17 6 0 4) - (J17 6 0 3))) fun J19 =>
bnd (f_Src_advance J19) fun _ J21 =>
some (1, J21)
else none

noncomputable def f_Scr_readLetters (a1 : Int) (I : Mem) : Option ((Int) × Mem) :=
bnd (f_Src_is 1 I) fun x3 J2 =>
if (w32 x3) = 0 then
bnd (f_Src_fail 1 J2) fun x35 J34 =>
if x35 = 0 ∨ x35 = 1 then
some (x35, J34)
else none
else
if 0 ≤ (w32 a1) ∧ (w32 a1) < 60 then
if (J2 20 0 (w32 a1).toNat).toNat < 15 then
if (J2 20 0 (w32 a1).toNat).toNat = 8 then
if (w32 ((J2 6 0 4) - (J2 6 0 3))) = 2 then
f_Scr_readLetters_j52 a1 J2
else
bnd (f_Src_fail 4 J2) fun x11 J10 =>
if x11 = 0 ∨ x11 = 1 then
some (x11, J10)
else none
else
f_Scr_readLetters_j52 a1 J2
else none
else none
set_option maxRecDepth 20000 in
theorem R_Scr_readLetters (Z : ZT) (a1 : Int) (I : Mem) (r : Int) (J : Mem) (hf : f_Scr_readLetters a1 I = some (r, J)) : Runs Z yX6_readLetters cX6_readLetters 2 (some .boolean) 3 [vr Z 8 0, vi a1] I (some (vi r), J) := by
  refine Runs.of (rv := fun x => some (vi x)) (by decide +kernel) (Nat.le_of_ble_eq_true rfl) hf (fun gr => ?_)
  unfold f_Scr_readLetters
  refine WQ.loc [0, 1] (lv' := [(0, vr Z 8 0), (1, vi a1)]) rfl ?_
  refine wq_aload_n dX6_readLetters_0 0 rfl rfl ?_
  refine g_8_0 ln_RX6_36 dX6_readLetters_1 ?_
  refine wq_iconst dX6_readLetters_4 ?_
  refine wq_cVi M_Src_is (R_Src_is Z 1 _) ob_6 rfl rfl (by decide) (by decide) (Nat.le_of_ble_eq_true rfl) ln_RX6_59 dX6_readLetters_5 (fun gr1 x3 J2 => ?_)
  refine wq_if_ne 20 dX6_readLetters_8 (by decide) rfl (fun c37 => ?_) (fun c37 => ?_)
  · refine wq_aload_n dX6_readLetters_11 0 rfl rfl ?_
    refine g_8_0 ln_RX6_36 dX6_readLetters_12 ?_
    refine wq_iconst dX6_readLetters_15 ?_
    refine wq_cVi M_Src_fail (R_Src_fail Z 1 _) ob_6 rfl rfl (by decide) (by decide) (Nat.le_of_ble_eq_true rfl) ln_RX6_70 dX6_readLetters_16 (fun gr33 x35 J34 => ?_)
    refine wq_grd (fun g36 => ?_)
    exact wq_zret rfl g36 rfl dX6_readLetters_19
  · refine wq_aload_n dX6_readLetters_20 0 rfl rfl ?_
    refine g_8_1 ln_RX6_13 dX6_readLetters_21 ?_
    refine wq_iload_n dX6_readLetters_24 1 rfl rfl ?_
    refine wq_grd (fun g4 => ?_)
    refine wq_aald (k := 20) (i := 0) (t0 := 6) rfl rfl (by decide) rfl rfl (m := 60) g4 (Nat.le_refl _) dX6_readLetters_25 ?_
    refine wq_grd (fun g5 => ?_)
    refine wq_gets (sta_word 8 (by decide)) ln_RX6_129 dX6_readLetters_26 ?_
    have hj7 : ∀ (gr24 : Nat → Nat)   (J23 : Mem), WQ Z (yX6_readLetters, cX6_readLetters, 2, some .boolean, 3) I gr24 52 [(0, vr Z 8 0), (1, vi a1)] [] J23 (f_Scr_readLetters_j52 a1 J23) (fun b K => some (.inl ((fun x => some (vi x)) b), K)) := by
      intro gr24 J23
      unfold f_Scr_readLetters_j52
      refine wq_aload_n dX6_readLetters_52 0 rfl rfl ?_
      refine g_8_3 ln_RX6_21 dX6_readLetters_53 ?_
      refine wq_iload_n dX6_readLetters_56 1 rfl rfl ?_
      refine wq_aload_n dX6_readLetters_57 0 rfl rfl ?_
      refine g_8_0 ln_RX6_36 dX6_readLetters_58 ?_
      refine wq_pV (v := vi (J23 6 0 3)) M_Src_from (R_Src_from Z  _ _ _ rfl) ob_6 rfl rfl (by decide) (by decide) (Nat.le_of_ble_eq_true rfl) ln_RX6_135 dX6_readLetters_61 (fun gr25 => ?_)
      refine wq_grd (fun g26 => ?_)
      refine wq_iast (k := 21) (i := 1) (fun _ _ => rfl) (by decide) rfl rfl (m := 60) g26 (by decide) (by decide) (by decide) (by decide) dX6_readLetters_64 (fun J27 => ?_)
      refine wq_aload_n dX6_readLetters_65 0 rfl rfl ?_
      refine g_8_4 ln_RX6_24 dX6_readLetters_66 ?_
      refine wq_iload_n dX6_readLetters_69 1 rfl rfl ?_
      refine wq_aload_n dX6_readLetters_70 0 rfl rfl ?_
      refine g_8_0 ln_RX6_36 dX6_readLetters_71 ?_
      refine wq_pV (v := vi ((J27 6 0 4) - (J27 6 0 3))) M_Src_manyInToken (R_Src_manyInToken Z  _ _ _ rfl) ob_6 rfl rfl (by decide) (by decide) (Nat.le_of_ble_eq_true rfl) ln_RX6_132 dX6_readLetters_74 (fun gr28 => ?_)
      refine wq_iast (k := 21) (i := 2) (fun _ _ => rfl) (by decide) rfl rfl (m := 60) g26 (by decide) (by decide) (by decide) (by decide) dX6_readLetters_77 (fun J29 => ?_)
      refine wq_aload_n dX6_readLetters_78 0 rfl rfl ?_
      refine g_8_0 ln_RX6_36 dX6_readLetters_79 ?_
      refine wq_cVv M_Src_advance (R_Src_advance Z _) ob_6 rfl rfl (by decide) (by decide) (Nat.le_of_ble_eq_true rfl) ln_RX6_80 dX6_readLetters_82 (fun gr30 _ J31 => ?_)
      refine wq_iconst dX6_readLetters_85 ?_
      exact wq_zret rfl (by decide) rfl dX6_readLetters_86
    refine wq_acmp_ne 52 dX6_readLetters_29 (by decide) g5 (by decide) (fun c14 => ?_) (fun c14 => ?_)
    · refine wq_aload_n dX6_readLetters_32 0 rfl rfl ?_
      refine g_8_0 ln_RX6_36 dX6_readLetters_33 ?_
      refine wq_pV (v := vi ((J2 6 0 4) - (J2 6 0 3))) M_Src_manyInToken (R_Src_manyInToken Z  _ _ _ rfl) ob_6 rfl rfl (by decide) (by decide) (Nat.le_of_ble_eq_true rfl) ln_RX6_132 dX6_readLetters_36 (fun gr8 => ?_)
      refine wq_iconst dX6_readLetters_39 ?_
      refine wq_icmp_eq 52 dX6_readLetters_40 (by decide) rfl rfl (fun c13 => ?_) (fun c13 => ?_)
      · exact WQ.loc [0, 1] rfl (hj7 _   _)
      · refine wq_aload_n dX6_readLetters_43 0 rfl rfl ?_
        refine g_8_0 ln_RX6_36 dX6_readLetters_44 ?_
        refine wq_iconst dX6_readLetters_47 ?_
        refine wq_cVi M_Src_fail (R_Src_fail Z 4 _) ob_6 rfl rfl (by decide) (by decide) (Nat.le_of_ble_eq_true rfl) ln_RX6_70 dX6_readLetters_48 (fun gr9 x11 J10 => ?_)
        refine wq_grd (fun g12 => ?_)
        exact wq_zret rfl g12 rfl dX6_readLetters_51
    · exact WQ.loc [0, 1] rfl (hj7 _   _)

theorem ln_RX6_148 : Cond.constant RX6 148 (Int32.ofInt 1000000) ∈ lw_good := li_4 5 (by decide +kernel) (by decide +kernel)
theorem ln_RX6_149 : Cond.fieldLink RX6 149 RX11 "AGAIN" "LPairRules$Word;" ∈ lw_good := li_4 10 (by decide +kernel) (by decide +kernel)
theorem ln_RX6_73 : Cond.fieldLink RX6 73 RX11 "CLOSE" "LPairRules$Word;" ∈ lw_good := li_3 196 (by decide +kernel) (by decide +kernel)
theorem ln_RX6_27 : Cond.fieldLink RX6 27 RX6 "partners" "[I" ∈ lw_good := li_2 5 (by decide +kernel) (by decide +kernel)
theorem M_Scr_turn : MwV yX6_turn cX6_turn 3 (some .int) 2 := ⟨li_4 15 (by decide +kernel) (by decide +kernel), li_4 14 (by decide +kernel) (by decide +kernel), lw_in 22 (by decide +kernel) (by decide +kernel), li_1 9 (by decide +kernel) (by decide +kernel), by decide +kernel⟩
theorem ln_RX6_152 : Cond.methodLink RX6 152 yX6_turn ∈ lw_good := li_4 12 (by decide +kernel) (by decide +kernel)
noncomputable def f_Scr_orderFrom_w4  (s : Int × Int) (I : Mem) : Option (((Int × Int) ⊕ (Int)) × Mem) :=
if (w32 s.2) < 1000000 then
bnd (f_Scr_isEntry s.1 I) fun x3 J2 =>
if (w32 x3) = 0 then
some (.inr ((-1)), J2)
else
if 0 ≤ (w32 s.1) ∧ (w32 s.1) < 60 then
if (J2 20 0 (w32 s.1).toNat).toNat < 15 then
if (J2 20 0 (w32 s.1).toNat).toNat = 12 then
ltI (sI J2 21 4 (w32 s.1).toNat (J2 21 0 (w32 s.1).toNat)) fun J15 =>
bnd (f_Scr_turn s.1 (J15 21 3 (w32 s.1).toNat) J15) fun x18 J17 =>
some (.inl (x18, (s.2 + 1)), J17)
else
if (J2 20 0 (w32 s.1).toNat).toNat < 15 then
if (J2 20 0 (w32 s.1).toNat).toNat = 13 then
if 0 ≤ (w32 (J2 21 3 (w32 s.1).toNat)) ∧ (w32 (J2 21 3 (w32 s.1).toNat)) < 60 then
ltI (sI J2 21 4 (w32 (J2 21 3 (w32 s.1).toNat)).toNat ((J2 21 4 (w32 (J2 21 3 (w32 s.1).toNat)).toNat) - 1)) fun J10 =>
bnd (f_Scr_turn (J10 21 3 (w32 s.1).toNat) s.1 J10) fun x13 J12 =>
some (.inl (x13, (s.2 + 1)), J12)
else none
else
some (.inr (s.1), J2)
else none
else none
else none
else
some (.inr ((-1)), I)

noncomputable def f_Scr_orderFrom (a1 : Int) (I : Mem) : Option ((Int) × Mem) :=
whl (f_Scr_orderFrom_w4) (a1, 0) I
set_option maxRecDepth 20000 in
theorem R_Scr_orderFrom (Z : ZT) (a1 : Int) (I : Mem) (r : Int) (J : Mem) (hf : f_Scr_orderFrom a1 I = some (r, J)) : Runs Z yX6_orderFrom cX6_orderFrom 4 (some .int) 2 [vr Z 8 0, vi a1] I (some (vi r), J) := by
  refine Runs.of (rv := fun x => some (vi x)) (by decide +kernel) (Nat.le_of_ble_eq_true rfl) hf (fun gr => ?_)
  unfold f_Scr_orderFrom
  refine WQ.loc [0, 1] (lv' := [(0, vr Z 8 0), (1, vi a1)]) rfl ?_
  refine wq_iload_n dX6_orderFrom_0 1 rfl rfl ?_
  refine wq_istore_n (lv' := [(2, vi a1), (0, vr Z 8 0), (1, vi a1)]) dX6_orderFrom_1 rfl (by decide) rfl ?_
  refine wq_iconst dX6_orderFrom_2 ?_
  refine wq_istore_n (lv' := [(3, vi 0), (2, vi a1), (0, vr Z 8 0), (1, vi a1)]) dX6_orderFrom_3 rfl (by decide) rfl ?_
  refine WQ.loc [2, 1, 0] (lv' := [(0, vr Z 8 0), (2, vi a1), (3, vi 0)]) rfl ?_
  refine wq_loop (fun s28 => [(0, vr Z 8 0), (2, vi s28.1), (3, vi s28.2)]) (fun κ22 bk23 hr25 gr27 s28 J26 => ?_) gr _ rfl
  unfold f_Scr_orderFrom_w4
  refine wq_iload_n dX6_orderFrom_4 2 rfl rfl ?_
  refine wq_ldc ln_RX6_148 dX6_orderFrom_5 ?_
  refine wq_icmp_ge 107 dX6_orderFrom_7 (by decide) rfl rfl (fun c49 => ?_) (fun c49 => ?_)
  · refine wq_aload_n dX6_orderFrom_10 0 rfl rfl ?_
    refine wq_iload_n dX6_orderFrom_11 1 rfl rfl ?_
    refine wq_cVi M_Scr_isEntry (R_Scr_isEntry Z s28.1 _) ob_8 rfl rfl (by decide) (by decide) (Nat.le_of_ble_eq_true rfl) ln_RX6_138 dX6_orderFrom_12 (fun gr29 x31 J30 => ?_)
    refine wq_if_eq 107 dX6_orderFrom_15 (by decide) rfl (fun c48 => ?_) (fun c48 => ?_)
    · refine wq_iconst dX6_orderFrom_107 ?_
      exact wq_iret rfl ((hr25 _ _).trans rfl) dX6_orderFrom_108
    · refine wq_aload_n dX6_orderFrom_18 0 rfl rfl ?_
      refine g_8_1 ln_RX6_13 dX6_orderFrom_19 ?_
      refine wq_iload_n dX6_orderFrom_22 1 rfl rfl ?_
      refine wq_grd (fun g32 => ?_)
      refine wq_aald (k := 20) (i := 0) (t0 := 6) rfl rfl (by decide) rfl rfl (m := 60) g32 (Nat.le_refl _) dX6_orderFrom_23 ?_
      refine wq_grd (fun g33 => ?_)
      refine wq_gets (sta_word 12 (by decide)) ln_RX6_149 dX6_orderFrom_24 ?_
      refine wq_acmp_ne 57 dX6_orderFrom_27 (by decide) g33 (by decide) (fun c47 => ?_) (fun c47 => ?_)
      · refine wq_aload_n dX6_orderFrom_30 0 rfl rfl ?_
        refine g_8_6 ln_RX6_30 dX6_orderFrom_31 ?_
        refine wq_iload_n dX6_orderFrom_34 1 rfl rfl ?_
        refine wq_aload_n dX6_orderFrom_35 0 rfl rfl ?_
        refine g_8_2 ln_RX6_17 dX6_orderFrom_36 ?_
        refine wq_iload_n dX6_orderFrom_39 1 rfl rfl ?_
        refine wq_iald (k := 21) (i := 0) rfl (by decide) rfl rfl (m := 60) g32 (by decide) dX6_orderFrom_40 ?_
        refine wq_iast (k := 21) (i := 4) (fun _ _ => rfl) (by decide) rfl rfl (m := 60) g32 (by decide) (by decide) (by decide) (by decide) dX6_orderFrom_41 (fun J43 => ?_)
        refine wq_aload_n dX6_orderFrom_42 0 rfl rfl ?_
        refine wq_iload_n dX6_orderFrom_43 1 rfl rfl ?_
        refine wq_aload_n dX6_orderFrom_44 0 rfl rfl ?_
        refine g_8_5 ln_RX6_27 dX6_orderFrom_45 ?_
        refine wq_iload_n dX6_orderFrom_48 1 rfl rfl ?_
        refine wq_iald (k := 21) (i := 3) rfl (by decide) rfl rfl (m := 60) g32 (by decide) dX6_orderFrom_49 ?_
        refine wq_cVi M_Scr_turn (R_Scr_turn Z s28.1 (J43 21 3 (w32 s28.1).toNat) _) ob_8 rfl rfl (by decide) (by decide) (Nat.le_of_ble_eq_true rfl) ln_RX6_152 dX6_orderFrom_50 (fun gr44 x46 J45 => ?_)
        refine wq_istore_n (lv' := [(2, vi x46), (0, vr Z 8 0), (3, vi s28.2)]) dX6_orderFrom_53 rfl (by decide) rfl ?_
        refine wq_goto 101 dX6_orderFrom_54 (by decide) ?_
        refine wq_iinc (lv' := [(3, vi (s28.2 + 1)), (2, vi x46), (0, vr Z 8 0)]) dX6_orderFrom_101 2 rfl (by decide) rfl ?_
        refine wq_goto 4 dX6_orderFrom_104 (by decide) ?_
        exact WQ.loc [2, 1, 0] rfl (bk23 _ _ _)
      · refine wq_aload_n dX6_orderFrom_57 0 rfl rfl ?_
        refine g_8_1 ln_RX6_13 dX6_orderFrom_58 ?_
        refine wq_iload_n dX6_orderFrom_61 1 rfl rfl ?_
        refine wq_aald (k := 20) (i := 0) (t0 := 6) rfl rfl (by decide) rfl rfl (m := 60) g32 (Nat.le_refl _) dX6_orderFrom_62 ?_
        refine wq_grd (fun g35 => ?_)
        refine wq_gets (sta_word 13 (by decide)) ln_RX6_73 dX6_orderFrom_63 ?_
        refine wq_acmp_ne 99 dX6_orderFrom_66 (by decide) g35 (by decide) (fun c42 => ?_) (fun c42 => ?_)
        · refine wq_aload_n dX6_orderFrom_69 0 rfl rfl ?_
          refine g_8_6 ln_RX6_30 dX6_orderFrom_70 ?_
          refine wq_aload_n dX6_orderFrom_73 0 rfl rfl ?_
          refine g_8_5 ln_RX6_27 dX6_orderFrom_74 ?_
          refine wq_iload_n dX6_orderFrom_77 1 rfl rfl ?_
          refine wq_iald (k := 21) (i := 3) rfl (by decide) rfl rfl (m := 60) g32 (by decide) dX6_orderFrom_78 ?_
          refine wq_dup2 dX6_orderFrom_79 rfl rfl ?_
          refine wq_grd (fun g37 => ?_)
          refine wq_iald (k := 21) (i := 4) rfl (by decide) rfl rfl (m := 60) g37 (by decide) dX6_orderFrom_80 ?_
          refine wq_iconst dX6_orderFrom_81 ?_
          refine wq_isub dX6_orderFrom_82 ?_
          refine wq_iast (k := 21) (i := 4) (fun _ _ => rfl) (by decide) rfl rfl (m := 60) g37 (by decide) (by decide) (by decide) (by decide) dX6_orderFrom_83 (fun J38 => ?_)
          refine wq_aload_n dX6_orderFrom_84 0 rfl rfl ?_
          refine wq_aload_n dX6_orderFrom_85 0 rfl rfl ?_
          refine g_8_5 ln_RX6_27 dX6_orderFrom_86 ?_
          refine wq_iload_n dX6_orderFrom_89 1 rfl rfl ?_
          refine wq_iald (k := 21) (i := 3) rfl (by decide) rfl rfl (m := 60) g32 (by decide) dX6_orderFrom_90 ?_
          refine wq_iload_n dX6_orderFrom_91 1 rfl rfl ?_
          refine wq_cVi M_Scr_turn (R_Scr_turn Z (J38 21 3 (w32 s28.1).toNat) s28.1 _) ob_8 rfl rfl (by decide) (by decide) (Nat.le_of_ble_eq_true rfl) ln_RX6_152 dX6_orderFrom_92 (fun gr39 x41 J40 => ?_)
          refine wq_istore_n (lv' := [(2, vi x41), (0, vr Z 8 0), (3, vi s28.2)]) dX6_orderFrom_95 rfl (by decide) rfl ?_
          refine wq_goto 101 dX6_orderFrom_96 (by decide) ?_
          refine wq_iinc (lv' := [(3, vi (s28.2 + 1)), (2, vi x41), (0, vr Z 8 0)]) dX6_orderFrom_101 2 rfl (by decide) rfl ?_
          refine wq_goto 4 dX6_orderFrom_104 (by decide) ?_
          exact WQ.loc [2, 1, 0] rfl (bk23 _ _ _)
        · refine wq_iload_n dX6_orderFrom_99 1 rfl rfl ?_
          exact wq_iret rfl ((hr25 _ _).trans rfl) dX6_orderFrom_100
  · refine wq_iconst dX6_orderFrom_107 ?_
    exact wq_iret rfl ((hr25 _ _).trans rfl) dX6_orderFrom_108

theorem M_Rep_put : MwV yX4_put cX4_put 3 (none) 1 := ⟨li_5 113 (by decide +kernel) (by decide +kernel), li_5 112 (by decide +kernel) (by decide +kernel), lw_in 42 (by decide +kernel) (by decide +kernel), li_1 13 (by decide +kernel) (by decide +kernel), by decide +kernel⟩
theorem ln_RX4_33 : Cond.methodLink RX4 33 yX4_put ∈ lw_good := li_5 110 (by decide +kernel) (by decide +kernel)
noncomputable def f_Rep_putNumber_j17 (v1 : Int)   (I : Mem) : Option ((Unit) × Mem) :=
bnd (f_Rep_put (48 + (irm v1 10)) I) fun _ J7 =>
some ((), J7)

noncomputable def f_Rep_putNumber (a1 : Int) (I : Mem) : Option ((Unit) × Mem) :=
if 9 < (w32 a1) then
bnd (f_Rep_put (48 + (idv a1 10)) I) fun _ J3 =>
f_Rep_putNumber_j17 a1 J3
else
f_Rep_putNumber_j17 a1 I
set_option maxRecDepth 20000 in
theorem R_Rep_putNumber (Z : ZT) (a1 : Int) (I : Mem) (r : Unit) (J : Mem) (hf : f_Rep_putNumber a1 I = some (r, J)) : Runs Z yX4_putNumber cX4_putNumber 2 (none) 2 [vr Z 10 0, vi a1] I (none, J) := by
  refine Runs.of (rv := fun _ => none) (by decide +kernel) (Nat.le_of_ble_eq_true rfl) hf (fun gr => ?_)
  unfold f_Rep_putNumber
  refine WQ.loc [0, 1] (lv' := [(0, vr Z 10 0), (1, vi a1)]) rfl ?_
  refine wq_iload_n dX4_putNumber_0 1 rfl rfl ?_
  refine wq_bipush dX4_putNumber_1 (by decide) ?_
  have hj1 : ∀ (gr10 : Nat → Nat)   (J9 : Mem), WQ Z (yX4_putNumber, cX4_putNumber, 2, none, 2) I gr10 17 [(0, vr Z 10 0), (1, vi a1)] [] J9 (f_Rep_putNumber_j17 a1 J9) (fun b K => some (.inl ((fun _ => none) b), K)) := by
    intro gr10 J9
    unfold f_Rep_putNumber_j17
    refine wq_aload_n dX4_putNumber_17 0 rfl rfl ?_
    refine wq_bipush dX4_putNumber_18 (by decide) ?_
    refine wq_iload_n dX4_putNumber_20 1 rfl rfl ?_
    refine wq_bipush dX4_putNumber_21 (by decide) ?_
    refine wq_irem dX4_putNumber_23 (by decide) ?_
    refine wq_iadd dX4_putNumber_24 ?_
    refine wq_cVv M_Rep_put (R_Rep_put Z (48 + (irm a1 10)) _) ob_10 rfl rfl (by decide) (by decide) (Nat.le_of_ble_eq_true rfl) ln_RX4_33 dX4_putNumber_25 (fun gr11 _ J12 => ?_)
    exact wq_vret rfl rfl dX4_putNumber_28
  refine wq_icmp_le 17 dX4_putNumber_3 (by decide) rfl rfl (fun c5 => ?_) (fun c5 => ?_)
  · refine wq_aload_n dX4_putNumber_6 0 rfl rfl ?_
    refine wq_bipush dX4_putNumber_7 (by decide) ?_
    refine wq_iload_n dX4_putNumber_9 1 rfl rfl ?_
    refine wq_bipush dX4_putNumber_10 (by decide) ?_
    refine wq_idiv dX4_putNumber_12 (by decide) ?_
    refine wq_iadd dX4_putNumber_13 ?_
    refine wq_cVv M_Rep_put (R_Rep_put Z (48 + (idv a1 10)) _) ob_10 rfl rfl (by decide) (by decide) (Nat.le_of_ble_eq_true rfl) ln_RX4_33 dX4_putNumber_14 (fun gr2 _ J3 => ?_)
    exact WQ.loc [0, 1] rfl (hj1 _   _)
  · exact WQ.loc [0, 1] rfl (hj1 _   _)

theorem ln_RX12_188 : Cond.methodLink RX12 188 yX1_hasRule ∈ lw_good := li_4 209 (by decide +kernel) (by decide +kernel)
noncomputable def f_PR_isRule (a1 : Int) (I : Mem) : Option ((Int ⊕ String) × Mem) :=
if (w32 a1) < 0 then
ltI (thrw I) fun J1 =>
some (.inr xIO, J1)
else
if (w32 a1) < 40 then
bnd (f_G_hasRule 0 a1 I) fun x4 J3 =>
if x4 = 0 ∨ x4 = 1 then
some (.inl x4, J3)
else none
else
ltI (thrw I) fun J6 =>
some (.inr xIO, J6)
set_option maxRecDepth 20000 in
theorem R_PR_isRule (Z : ZT) (a1 : Int) (I : Mem) : RX Z yX12_isRule cX12_isRule 2 (some .boolean) 6 [vr Z 0 0, vi a1] I (fun x => some (vi x)) (f_PR_isRule a1 I) := by
  refine RX.of (by decide +kernel) (Nat.le_of_ble_eq_true rfl) (fun gr => ?_)
  unfold f_PR_isRule
  refine WQ.loc [0, 1] (lv' := [(0, vr Z 0 0), (1, vi a1)]) rfl ?_
  refine wq_iload_n dX12_isRule_0 1 rfl rfl ?_
  refine wq_if_lt 10 dX12_isRule_1 (by decide) rfl (fun c8 => ?_) (fun c8 => ?_)
  · exact wq_throw thr_IO (Nat.le_of_ble_eq_true rfl) (by decide +kernel) rfl dX12_isRule_10 dX12_isRule_13 dX12_isRule_14 dX12_isRule_17
  · refine wq_iload_n dX12_isRule_4 1 rfl rfl ?_
    refine wq_bipush dX12_isRule_5 (by decide) ?_
    refine wq_icmp_lt 18 dX12_isRule_7 (by decide) rfl rfl (fun c7 => ?_) (fun c7 => ?_)
    · refine wq_aload_n dX12_isRule_18 0 rfl rfl ?_
      refine g_0_0 ln_RX12_12 dX12_isRule_19 ?_
      refine wq_iload_n dX12_isRule_22 1 rfl rfl ?_
      refine wq_cVi M_G_hasRule (R_G_hasRule Z 0 a1 _) (ob_1 (by decide)) rfl rfl (by decide) (by decide) (Nat.le_of_ble_eq_true rfl) ln_RX12_188 dX12_isRule_23 (fun gr2 x4 J3 => ?_)
      refine wq_grd (fun g5 => ?_)
      exact wq_zret rfl g5 rfl dX12_isRule_26
    · exact wq_throw thr_IO (Nat.le_of_ble_eq_true rfl) (by decide +kernel) rfl dX12_isRule_10 dX12_isRule_13 dX12_isRule_14 dX12_isRule_17

theorem M_G_textLength : MwV yX1_textLength cX1_textLength 3 (some .int) 0 := ⟨li_3 179 (by decide +kernel) (by decide +kernel), li_3 177 (by decide +kernel) (by decide +kernel), li_3 178 (by decide +kernel) (by decide +kernel), li_1 2 (by decide +kernel) (by decide +kernel), by decide +kernel⟩
theorem M_G_letterOfText : MwV yX1_letterOfText cX1_letterOfText 7 (some .int) 1 := ⟨li_6 77 (by decide +kernel) (by decide +kernel), li_6 75 (by decide +kernel) (by decide +kernel), li_6 76 (by decide +kernel) (by decide +kernel), li_1 2 (by decide +kernel) (by decide +kernel), by decide +kernel⟩
theorem ln_RX12_210 : Cond.methodLink RX12 210 yX1_letterOfText ∈ lw_good := li_6 74 (by decide +kernel) (by decide +kernel)
theorem ln_RX12_122 : Cond.methodLink RX12 122 yX1_textLength ∈ lw_good := li_3 176 (by decide +kernel) (by decide +kernel)
noncomputable def f_PR_letterAt (a1 : Int) (I : Mem) : Option ((Int ⊕ String) × Mem) :=
if (w32 a1) < 0 then
ltI (thrw I) fun J1 =>
some (.inr xIO, J1)
else
bnd (f_G_textLength 0 I) fun x4 J3 =>
if (w32 a1) < (w32 x4) then
bnd (f_G_letterOfText 0 a1 J3) fun x7 J6 =>
some (.inl x7, J6)
else
ltI (thrw J3) fun J8 =>
some (.inr xIO, J8)
set_option maxRecDepth 20000 in
theorem R_PR_letterAt (Z : ZT) (a1 : Int) (I : Mem) : RX Z yX12_letterAt cX12_letterAt 2 (some .int) 6 [vr Z 0 0, vi a1] I (fun x => some (vi x)) (f_PR_letterAt a1 I) := by
  refine RX.of (by decide +kernel) (Nat.le_of_ble_eq_true rfl) (fun gr => ?_)
  unfold f_PR_letterAt
  refine WQ.loc [0, 1] (lv' := [(0, vr Z 0 0), (1, vi a1)]) rfl ?_
  refine wq_iload_n dX12_letterAt_0 1 rfl rfl ?_
  refine wq_if_lt 15 dX12_letterAt_1 (by decide) rfl (fun c10 => ?_) (fun c10 => ?_)
  · exact wq_throw thr_IO (Nat.le_of_ble_eq_true rfl) (by decide +kernel) rfl dX12_letterAt_15 dX12_letterAt_18 dX12_letterAt_19 dX12_letterAt_22
  · refine wq_iload_n dX12_letterAt_4 1 rfl rfl ?_
    refine wq_aload_n dX12_letterAt_5 0 rfl rfl ?_
    refine g_0_0 ln_RX12_12 dX12_letterAt_6 ?_
    refine wq_cVi M_G_textLength (R_G_textLength Z 0 _) (ob_1 (by decide)) rfl rfl (by decide) (by decide) (Nat.le_of_ble_eq_true rfl) ln_RX12_122 dX12_letterAt_9 (fun gr2 x4 J3 => ?_)
    refine wq_icmp_lt 23 dX12_letterAt_12 (by decide) rfl rfl (fun c9 => ?_) (fun c9 => ?_)
    · refine wq_aload_n dX12_letterAt_23 0 rfl rfl ?_
      refine g_0_0 ln_RX12_12 dX12_letterAt_24 ?_
      refine wq_iload_n dX12_letterAt_27 1 rfl rfl ?_
      refine wq_cVi M_G_letterOfText (R_G_letterOfText Z 0 a1 _) (ob_1 (by decide)) rfl rfl (by decide) (by decide) (Nat.le_of_ble_eq_true rfl) ln_RX12_210 dX12_letterAt_28 (fun gr5 x7 J6 => ?_)
      exact wq_iret rfl rfl dX12_letterAt_31
    · exact wq_throw thr_IO (Nat.le_of_ble_eq_true rfl) (by decide +kernel) rfl dX12_letterAt_15 dX12_letterAt_18 dX12_letterAt_19 dX12_letterAt_22

theorem ln_RX12_213 : Cond.methodLink RX12 213 yX1_placeOver ∈ lw_good := li_6 89 (by decide +kernel) (by decide +kernel)
noncomputable def f_PR_symbolOf (a1 : Int) (I : Mem) : Option ((Int ⊕ String) × Mem) :=
if (w32 a1) < 0 then
ltI (thrw I) fun J1 =>
some (.inr xIO, J1)
else
bnd (f_G_textLength 0 I) fun x4 J3 =>
if (w32 a1) < (w32 x4) then
bnd (f_G_placeOver 0 (43 * 0) a1 J3) fun x8 J7 =>
some (.inl x8, J7)
else
ltI (thrw J3) fun J9 =>
some (.inr xIO, J9)
set_option maxRecDepth 20000 in
theorem R_PR_symbolOf (Z : ZT) (a1 : Int) (I : Mem) : RX Z yX12_symbolOf cX12_symbolOf 2 (some .int) 6 [vr Z 0 0, vi a1] I (fun x => some (vi x)) (f_PR_symbolOf a1 I) := by
  refine RX.of (by decide +kernel) (Nat.le_of_ble_eq_true rfl) (fun gr => ?_)
  unfold f_PR_symbolOf
  refine WQ.loc [0, 1] (lv' := [(0, vr Z 0 0), (1, vi a1)]) rfl ?_
  refine wq_iload_n dX12_symbolOf_0 1 rfl rfl ?_
  refine wq_if_lt 15 dX12_symbolOf_1 (by decide) rfl (fun c11 => ?_) (fun c11 => ?_)
  · exact wq_throw thr_IO (Nat.le_of_ble_eq_true rfl) (by decide +kernel) rfl dX12_symbolOf_15 dX12_symbolOf_18 dX12_symbolOf_19 dX12_symbolOf_22
  · refine wq_iload_n dX12_symbolOf_4 1 rfl rfl ?_
    refine wq_aload_n dX12_symbolOf_5 0 rfl rfl ?_
    refine g_0_0 ln_RX12_12 dX12_symbolOf_6 ?_
    refine wq_cVi M_G_textLength (R_G_textLength Z 0 _) (ob_1 (by decide)) rfl rfl (by decide) (by decide) (Nat.le_of_ble_eq_true rfl) ln_RX12_122 dX12_symbolOf_9 (fun gr2 x4 J3 => ?_)
    refine wq_icmp_lt 23 dX12_symbolOf_12 (by decide) rfl rfl (fun c10 => ?_) (fun c10 => ?_)
    · refine wq_aload_n dX12_symbolOf_23 0 rfl rfl ?_
      refine g_0_0 ln_RX12_12 dX12_symbolOf_24 ?_
      refine wq_aload_n dX12_symbolOf_27 0 rfl rfl ?_
      refine g_0_0 ln_RX12_12 dX12_symbolOf_28 ?_
      refine wq_pV (v := vr Z 2 (43 * 0)) M_G_startRow (R_G_startRow Z 0 _ _ _ (if_pos (by decide))) (ob_1 (by decide)) rfl rfl (by decide) (by decide) (Nat.le_of_ble_eq_true rfl) ln_RX12_138 dX12_symbolOf_31 (fun gr5 => ?_)
      refine wq_iload_n dX12_symbolOf_34 1 rfl rfl ?_
      refine wq_cVi M_G_placeOver (R_G_placeOver Z 0 (43 * 0) a1 _) (ob_1 (by decide)) rfl rfl (by decide) (by decide) (Nat.le_of_ble_eq_true rfl) ln_RX12_213 dX12_symbolOf_35 (fun gr6 x8 J7 => ?_)
      exact wq_iret rfl rfl dX12_symbolOf_38
    · exact wq_throw thr_IO (Nat.le_of_ble_eq_true rfl) (by decide +kernel) rfl dX12_symbolOf_15 dX12_symbolOf_18 dX12_symbolOf_19 dX12_symbolOf_22

theorem ln_RX12_29 : Cond.fieldLink RX12 29 RX12 "survey" "LPairRules$Survey;" ∈ lw_good := li_2 103 (by decide +kernel) (by decide +kernel)
theorem M_Sv_unfold : MwV yX10_unfold cX10_unfold 6 (none) 1 := ⟨li_3 129 (by decide +kernel) (by decide +kernel), li_3 127 (by decide +kernel) (by decide +kernel), li_3 128 (by decide +kernel) (by decide +kernel), li_1 6 (by decide +kernel) (by decide +kernel), by decide +kernel⟩
theorem ln_RX12_220 : Cond.methodLink RX12 220 yX10_timesOfLetter ∈ lw_good := li_6 98 (by decide +kernel) (by decide +kernel)
theorem ln_RX12_105 : Cond.methodLink RX12 105 yX10_unfold ∈ lw_good := li_3 126 (by decide +kernel) (by decide +kernel)
theorem ln_RX12_217 : Cond.methodLink RX12 217 yX12_isLetter ∈ lw_good := li_6 97 (by decide +kernel) (by decide +kernel)
noncomputable def f_PR_letters (a1 : Int) (I : Mem) : Option ((Int ⊕ String) × Mem) :=
bnd (f_PR_isLetter a1 I) fun x3 J2 =>
if (w32 x3) = 0 then
ltI (thrw J2) fun J10 =>
some (.inr xIA, J10)
else
bnd (f_Sv_unfold 0 J2) fun _ J5 =>
bnd (f_Sv_timesOfLetter a1 J5) fun x9 J8 =>
some (.inl x9, J8)
set_option maxRecDepth 20000 in
theorem R_PR_letters (Z : ZT) (a1 : Int) (I : Mem) : RX Z yX12_letters cX12_letters 2 (some .int) 6 [vr Z 0 0, vi a1] I (fun x => some (vi x)) (f_PR_letters a1 I) := by
  refine RX.of (by decide +kernel) (Nat.le_of_ble_eq_true rfl) (fun gr => ?_)
  unfold f_PR_letters
  refine WQ.loc [0, 1] (lv' := [(0, vr Z 0 0), (1, vi a1)]) rfl ?_
  refine wq_iload_n dX12_letters_0 1 rfl rfl ?_
  refine wq_cSi M_PR_isLetter (R_PR_isLetter Z a1 _) rfl rfl rfl (by decide) (by decide) (Nat.le_of_ble_eq_true rfl) ln_RX12_217 dX12_letters_1 (fun gr1 x3 J2 => ?_)
  refine wq_if_ne 15 dX12_letters_4 (by decide) rfl (fun c11 => ?_) (fun c11 => ?_)
  · exact wq_throw thr_IA (Nat.le_of_ble_eq_true rfl) (by decide +kernel) rfl dX12_letters_7 dX12_letters_10 dX12_letters_11 dX12_letters_14
  · refine wq_aload_n dX12_letters_15 0 rfl rfl ?_
    refine g_0_3 ln_RX12_29 dX12_letters_16 ?_
    refine wq_aload_n dX12_letters_19 0 rfl rfl ?_
    refine g_0_0 ln_RX12_12 dX12_letters_20 ?_
    refine wq_cVv M_Sv_unfold (R_Sv_unfold Z 0 _) ob_5 rfl rfl (by decide) (by decide) (Nat.le_of_ble_eq_true rfl) ln_RX12_105 dX12_letters_23 (fun gr4 _ J5 => ?_)
    refine wq_aload_n dX12_letters_26 0 rfl rfl ?_
    refine g_0_3 ln_RX12_29 dX12_letters_27 ?_
    refine wq_iload_n dX12_letters_30 1 rfl rfl ?_
    refine wq_cVi M_Sv_timesOfLetter (R_Sv_timesOfLetter Z a1 _) ob_5 rfl rfl (by decide) (by decide) (Nat.le_of_ble_eq_true rfl) ln_RX12_220 dX12_letters_31 (fun gr7 x9 J8 => ?_)
    exact wq_iret rfl rfl dX12_letters_34

theorem M_G_toldText : MwV yX1_toldText cX1_toldText 1 (some (.object RX5)) 0 := ⟨li_5 13 (by decide +kernel) (by decide +kernel), li_5 11 (by decide +kernel) (by decide +kernel), li_5 12 (by decide +kernel) (by decide +kernel), li_1 2 (by decide +kernel) (by decide +kernel), by decide +kernel⟩
theorem ln_RX12_226 : Cond.methodLink RX12 226 yX1_toldText ∈ lw_good := li_5 10 (by decide +kernel) (by decide +kernel)
theorem M_Sv_unlike : MwV yX10_unlike cX10_unlike 5 (some .int) 1 := ⟨li_5 17 (by decide +kernel) (by decide +kernel), li_5 15 (by decide +kernel) (by decide +kernel), li_5 16 (by decide +kernel) (by decide +kernel), li_1 6 (by decide +kernel) (by decide +kernel), by decide +kernel⟩
theorem ln_RX12_229 : Cond.methodLink RX12 229 yX10_unlike ∈ lw_good := li_5 14 (by decide +kernel) (by decide +kernel)
noncomputable def f_PR_gap  (I : Mem) : Option ((Int) × Mem) :=
bnd (f_Sv_unfold 0 I) fun _ J2 =>
bnd (f_Sv_unlike (43 * 0 + 1) J2) fun x7 J6 =>
some (x7, J6)
set_option maxRecDepth 20000 in
theorem R_PR_gap (Z : ZT)  (I : Mem) (r : Int) (J : Mem) (hf : f_PR_gap I = some (r, J)) : Runs Z yX12_gap cX12_gap 1 (some .int) 3 [vr Z 0 0] I (some (vi r), J) := by
  refine Runs.of (rv := fun x => some (vi x)) (by decide +kernel) (Nat.le_of_ble_eq_true rfl) hf (fun gr => ?_)
  unfold f_PR_gap
  refine WQ.loc [0] (lv' := [(0, vr Z 0 0)]) rfl ?_
  refine wq_aload_n dX12_gap_0 0 rfl rfl ?_
  refine g_0_3 ln_RX12_29 dX12_gap_1 ?_
  refine wq_aload_n dX12_gap_4 0 rfl rfl ?_
  refine g_0_0 ln_RX12_12 dX12_gap_5 ?_
  refine wq_cVv M_Sv_unfold (R_Sv_unfold Z 0 _) ob_5 rfl rfl (by decide) (by decide) (Nat.le_of_ble_eq_true rfl) ln_RX12_105 dX12_gap_8 (fun gr1 _ J2 => ?_)
  refine wq_aload_n dX12_gap_11 0 rfl rfl ?_
  refine g_0_3 ln_RX12_29 dX12_gap_12 ?_
  refine wq_aload_n dX12_gap_15 0 rfl rfl ?_
  refine g_0_0 ln_RX12_12 dX12_gap_16 ?_
  refine wq_pV (v := vr Z 2 (43 * 0 + 1)) M_G_toldText (R_G_toldText Z 0 _ _ _ (if_pos (by decide))) (ob_1 (by decide)) rfl rfl (by decide) (by decide) (Nat.le_of_ble_eq_true rfl) ln_RX12_226 dX12_gap_19 (fun gr4 => ?_)
  refine wq_cVi M_Sv_unlike (R_Sv_unlike Z (43 * 0 + 1) _) ob_5 rfl rfl (by decide) (by decide) (Nat.le_of_ble_eq_true rfl) ln_RX12_229 dX12_gap_22 (fun gr5 x7 J6 => ?_)
  exact wq_iret rfl rfl dX12_gap_25

theorem M_G_rulesAtFirst : MwV yX1_rulesAtFirst cX1_rulesAtFirst 1 (some .int) 0 := ⟨li_5 30 (by decide +kernel) (by decide +kernel), li_5 28 (by decide +kernel) (by decide +kernel), li_5 29 (by decide +kernel) (by decide +kernel), li_1 2 (by decide +kernel) (by decide +kernel), by decide +kernel⟩
theorem ln_RX12_232 : Cond.methodLink RX12 232 yX1_rulesAtFirst ∈ lw_good := li_5 27 (by decide +kernel) (by decide +kernel)
theorem M_G_manyRules : MwV yX1_manyRules cX1_manyRules 3 (some .int) 0 := ⟨li_3 154 (by decide +kernel) (by decide +kernel), li_3 152 (by decide +kernel) (by decide +kernel), li_3 153 (by decide +kernel) (by decide +kernel), li_1 2 (by decide +kernel) (by decide +kernel), by decide +kernel⟩
theorem ln_RX12_145 : Cond.methodLink RX12 145 yX1_manyRules ∈ lw_good := li_5 35 (by decide +kernel) (by decide +kernel)
noncomputable def f_PR_rulesGap  (I : Mem) : Option ((Int) × Mem) :=
bnd (f_G_accountOf 0 1 I) fun x4 J3 =>
bnd (f_G_accountOf 0 2 J3) fun x7 J6 =>
bnd (f_G_accountOf 0 3 J6) fun x10 J9 =>
bnd (f_G_accountOf 0 4 J9) fun x13 J12 =>
bnd (f_G_manyRules 0 J12) fun x16 J15 =>
some (((((((I 1 0 9) + x4) - x7) - x10) - x13) - x16), J15)
set_option maxRecDepth 20000 in
theorem R_PR_rulesGap (Z : ZT)  (I : Mem) (r : Int) (J : Mem) (hf : f_PR_rulesGap I = some (r, J)) : Runs Z yX12_rulesGap cX12_rulesGap 1 (some .int) 3 [vr Z 0 0] I (some (vi r), J) := by
  refine Runs.of (rv := fun x => some (vi x)) (by decide +kernel) (Nat.le_of_ble_eq_true rfl) hf (fun gr => ?_)
  unfold f_PR_rulesGap
  refine WQ.loc [0] (lv' := [(0, vr Z 0 0)]) rfl ?_
  refine wq_aload_n dX12_rulesGap_0 0 rfl rfl ?_
  refine g_0_0 ln_RX12_12 dX12_rulesGap_1 ?_
  refine wq_pV (v := vi (I 1 0 9)) M_G_rulesAtFirst (R_G_rulesAtFirst Z 0 _ _ _ (if_pos (by decide))) (ob_1 (by decide)) rfl rfl (by decide) (by decide) (Nat.le_of_ble_eq_true rfl) ln_RX12_232 dX12_rulesGap_4 (fun gr1 => ?_)
  refine wq_aload_n dX12_rulesGap_7 0 rfl rfl ?_
  refine g_0_0 ln_RX12_12 dX12_rulesGap_8 ?_
  refine wq_iconst dX12_rulesGap_11 ?_
  refine wq_cVi M_G_accountOf (R_G_accountOf Z 0 1 _) (ob_1 (by decide)) rfl rfl (by decide) (by decide) (Nat.le_of_ble_eq_true rfl) ln_RX12_223 dX12_rulesGap_12 (fun gr2 x4 J3 => ?_)
  refine wq_iadd dX12_rulesGap_15 ?_
  refine wq_aload_n dX12_rulesGap_16 0 rfl rfl ?_
  refine g_0_0 ln_RX12_12 dX12_rulesGap_17 ?_
  refine wq_iconst dX12_rulesGap_20 ?_
  refine wq_cVi M_G_accountOf (R_G_accountOf Z 0 2 _) (ob_1 (by decide)) rfl rfl (by decide) (by decide) (Nat.le_of_ble_eq_true rfl) ln_RX12_223 dX12_rulesGap_21 (fun gr5 x7 J6 => ?_)
  refine wq_isub dX12_rulesGap_24 ?_
  refine wq_aload_n dX12_rulesGap_25 0 rfl rfl ?_
  refine g_0_0 ln_RX12_12 dX12_rulesGap_26 ?_
  refine wq_iconst dX12_rulesGap_29 ?_
  refine wq_cVi M_G_accountOf (R_G_accountOf Z 0 3 _) (ob_1 (by decide)) rfl rfl (by decide) (by decide) (Nat.le_of_ble_eq_true rfl) ln_RX12_223 dX12_rulesGap_30 (fun gr8 x10 J9 => ?_)
  refine wq_isub dX12_rulesGap_33 ?_
  refine wq_aload_n dX12_rulesGap_34 0 rfl rfl ?_
  refine g_0_0 ln_RX12_12 dX12_rulesGap_35 ?_
  refine wq_iconst dX12_rulesGap_38 ?_
  refine wq_cVi M_G_accountOf (R_G_accountOf Z 0 4 _) (ob_1 (by decide)) rfl rfl (by decide) (by decide) (Nat.le_of_ble_eq_true rfl) ln_RX12_223 dX12_rulesGap_39 (fun gr11 x13 J12 => ?_)
  refine wq_isub dX12_rulesGap_42 ?_
  refine wq_aload_n dX12_rulesGap_43 0 rfl rfl ?_
  refine g_0_0 ln_RX12_12 dX12_rulesGap_44 ?_
  refine wq_cVi M_G_manyRules (R_G_manyRules Z 0 _) (ob_1 (by decide)) rfl rfl (by decide) (by decide) (Nat.le_of_ble_eq_true rfl) ln_RX12_145 dX12_rulesGap_47 (fun gr14 x16 J15 => ?_)
  refine wq_isub dX12_rulesGap_50 ?_
  exact wq_iret rfl rfl dX12_rulesGap_51

theorem M_G_clear : MwV yX1_clear cX1_clear 2 (none) 0 := ⟨li_2 81 (by decide +kernel) (by decide +kernel), li_2 79 (by decide +kernel) (by decide +kernel), li_2 80 (by decide +kernel) (by decide +kernel), li_1 2 (by decide +kernel) (by decide +kernel), by decide +kernel⟩
theorem ln_RX1_52 : Cond.methodLink RX1 52 yX5_put ∈ lw_good := li_2 86 (by decide +kernel) (by decide +kernel)
theorem ln_RX1_51 : Cond.methodLink RX1 51 yX1_clear ∈ lw_good := li_2 78 (by decide +kernel) (by decide +kernel)
noncomputable def f_G_becomeLetterA (t : Nat) (I : Mem) : Option ((Unit) × Mem) :=
if t < 12 then
bnd (f_G_clear t I) fun _ J2 =>
bnd (f_Row_put (43 * t) 0 J2) fun _ J5 =>
bnd (f_Row_put (43 * t + 1) 0 J5) fun _ J8 =>
some ((), J8)
else none
set_option maxRecDepth 20000 in
theorem R_G_becomeLetterA (Z : ZT) (t : Nat) (I : Mem) (r : Unit) (J : Mem) (hf : f_G_becomeLetterA t I = some (r, J)) : Runs Z yX1_becomeLetterA cX1_becomeLetterA 1 (none) 3 [vr Z 1 t] I (none, J) := by
  refine Runs.of (rv := fun _ => none) (by decide +kernel) (Nat.le_of_ble_eq_true rfl) hf (fun gr => ?_)
  unfold f_G_becomeLetterA
  refine WQ.loc [0] (lv' := [(0, vr Z 1 t)]) rfl ?_
  refine wq_grd (fun ht => ?_)
  refine wq_aload_n dX1_becomeLetterA_0 0 rfl rfl ?_
  refine wq_cVv M_G_clear (R_G_clear Z t _) (ob_1 ht) rfl rfl (by decide) (by decide) (Nat.le_of_ble_eq_true rfl) ln_RX1_51 dX1_becomeLetterA_1 (fun gr1 _ J2 => ?_)
  refine wq_aload_n dX1_becomeLetterA_4 0 rfl rfl ?_
  refine g_1_0 ht ln_RX1_12 dX1_becomeLetterA_5 ?_
  refine wq_iconst dX1_becomeLetterA_8 ?_
  refine wq_cVv M_Row_put (R_Row_put Z (43 * t) 0 _) (ob_2 (by omega)) rfl rfl (by decide) (by decide) (Nat.le_of_ble_eq_true rfl) ln_RX1_52 dX1_becomeLetterA_9 (fun gr4 _ J5 => ?_)
  refine wq_aload_n dX1_becomeLetterA_12 0 rfl rfl ?_
  refine g_1_1 ht ln_RX1_18 dX1_becomeLetterA_13 ?_
  refine wq_iconst dX1_becomeLetterA_16 ?_
  refine wq_cVv M_Row_put (R_Row_put Z (43 * t + 1) 0 _) (ob_2 (by omega)) rfl rfl (by decide) (by decide) (Nat.le_of_ble_eq_true rfl) ln_RX1_52 dX1_becomeLetterA_17 (fun gr7 _ J8 => ?_)
  exact wq_vret rfl rfl dX1_becomeLetterA_20

theorem M_Sv_writeTextTo : MwV yX10_writeTextTo cX10_writeTextTo 3 (none) 1 := ⟨li_3 148 (by decide +kernel) (by decide +kernel), li_3 146 (by decide +kernel) (by decide +kernel), li_3 147 (by decide +kernel) (by decide +kernel), li_1 6 (by decide +kernel) (by decide +kernel), by decide +kernel⟩
theorem ln_RX1_62 : Cond.methodLink RX1 62 yX1_manyRules ∈ lw_good := li_3 151 (by decide +kernel) (by decide +kernel)
theorem ln_RX1_56 : Cond.methodLink RX1 56 yX10_writeTextTo ∈ lw_good := li_3 145 (by decide +kernel) (by decide +kernel)
noncomputable def f_G_beginWith (t : Nat) (I : Mem) : Option ((Unit) × Mem) :=
if t < 12 then
bnd (f_Sv_writeTextTo (43 * t + 1) I) fun _ J2 =>
bnd (f_G_manyRules t J2) fun x6 J5 =>
ltI (sI J5 1 t 9 x6) fun J7 =>
some ((), J7)
else none
set_option maxRecDepth 20000 in
theorem R_G_beginWith (Z : ZT) (t : Nat) (I : Mem) (r : Unit) (J : Mem) (hf : f_G_beginWith t I = some (r, J)) : Runs Z yX1_beginWith cX1_beginWith 2 (none) 4 [vr Z 1 t, vr Z 5 0] I (none, J) := by
  refine Runs.of (rv := fun _ => none) (by decide +kernel) (Nat.le_of_ble_eq_true rfl) hf (fun gr => ?_)
  unfold f_G_beginWith
  refine WQ.loc [0, 1] (lv' := [(0, vr Z 1 t), (1, vr Z 5 0)]) rfl ?_
  refine wq_grd (fun ht => ?_)
  refine wq_aload_n dX1_beginWith_0 1 rfl rfl ?_
  refine wq_aload_n dX1_beginWith_1 0 rfl rfl ?_
  refine g_1_1 ht ln_RX1_18 dX1_beginWith_2 ?_
  refine wq_cVv M_Sv_writeTextTo (R_Sv_writeTextTo Z (43 * t + 1) _) ob_5 rfl rfl (by decide) (by decide) (Nat.le_of_ble_eq_true rfl) ln_RX1_56 dX1_beginWith_5 (fun gr1 _ J2 => ?_)
  refine wq_aload_n dX1_beginWith_8 0 rfl rfl ?_
  refine wq_aload_n dX1_beginWith_9 0 rfl rfl ?_
  refine wq_cVi M_G_manyRules (R_G_manyRules Z t _) (ob_1 ht) rfl rfl (by decide) (by decide) (Nat.le_of_ble_eq_true rfl) ln_RX1_62 dX1_beginWith_10 (fun gr4 x6 J5 => ?_)
  refine p_1_9 ht ln_RX1_48 dX1_beginWith_13 (fun J7 => ?_)
  exact wq_vret rfl rfl dX1_beginWith_16

theorem M_Row_takeFrom : MwV yX5_takeFrom cX5_takeFrom 2 (none) 1 := ⟨li_3 163 (by decide +kernel) (by decide +kernel), li_3 161 (by decide +kernel) (by decide +kernel), li_3 162 (by decide +kernel) (by decide +kernel), li_1 3 (by decide +kernel) (by decide +kernel), by decide +kernel⟩
theorem ln_RX1_66 : Cond.methodLink RX1 66 yX5_takeFrom ∈ lw_good := li_3 160 (by decide +kernel) (by decide +kernel)
noncomputable def f_G_takeFrom_w24 (v0 : Nat) (v1 : Nat) (s : Int) (I : Mem) : Option (((Int) ⊕ (Unit)) × Mem) :=
if (w32 s) < 40 then
if 0 ≤ (w32 s) ∧ (w32 s) < 40 then
bnd (f_Row_takeFrom (43 * v0 + 3 + (w32 s).toNat) (43 * v1 + 3 + (w32 s).toNat) I) fun _ J11 =>
ltI (sI J11 14 v0 (w32 s).toNat (J11 14 v1 (w32 s).toNat)) fun J13 =>
some (.inl (s + 1), J13)
else none
else
some (.inr (), I)

noncomputable def f_G_takeFrom_w65 (v0 : Nat) (v1 : Nat) (s : Int) (I : Mem) : Option (((Int) ⊕ (Unit)) × Mem) :=
if (w32 s) < 9 then
if 0 ≤ (w32 s) ∧ (w32 s) < 9 then
ltI (sI I 15 v0 (w32 s).toNat (I 15 v1 (w32 s).toNat)) fun J34 =>
some (.inl (s + 1), J34)
else none
else
some (.inr (), I)

noncomputable def f_G_takeFrom (t : Nat) (a1 : Nat) (I : Mem) : Option ((Unit) × Mem) :=
if t < 12 then
if a1 < 12 then
bnd (f_Row_takeFrom (43 * t) (43 * a1) I) fun _ J2 =>
bnd (f_Row_takeFrom (43 * t + 1) (43 * a1 + 1) J2) fun _ J5 =>
bnd (whl (f_G_takeFrom_w24 t a1) 0 J5) fun r30 J31 =>
bnd (whl (f_G_takeFrom_w65 t a1) 0 J31) fun r46 J47 =>
ltI (sI J47 1 t 6 (J47 1 a1 6)) fun J49 =>
ltI (sI J49 1 t 7 (J49 1 a1 7)) fun J50 =>
ltI (sI J50 1 t 8 (J50 1 a1 8)) fun J51 =>
ltI (sI J51 1 t 9 (J51 1 a1 9)) fun J52 =>
some ((), J52)
else none
else none
set_option maxRecDepth 20000 in
theorem R_G_takeFrom (Z : ZT) (t : Nat) (a1 : Nat) (I : Mem) (r : Unit) (J : Mem) (hf : f_G_takeFrom t a1 I = some (r, J)) : Runs Z yX1_takeFrom cX1_takeFrom 3 (none) 4 [vr Z 1 t, vr Z 1 a1] I (none, J) := by
  refine Runs.of (rv := fun _ => none) (by decide +kernel) (Nat.le_of_ble_eq_true rfl) hf (fun gr => ?_)
  unfold f_G_takeFrom
  refine WQ.loc [0, 1] (lv' := [(0, vr Z 1 t), (1, vr Z 1 a1)]) rfl ?_
  refine wq_grd (fun ht => ?_)
  refine wq_grd (fun h1 => ?_)
  refine wq_aload_n dX1_takeFrom_0 0 rfl rfl ?_
  refine g_1_0 ht ln_RX1_12 dX1_takeFrom_1 ?_
  refine wq_aload_n dX1_takeFrom_4 1 rfl rfl ?_
  refine g_1_0 h1 ln_RX1_12 dX1_takeFrom_5 ?_
  refine wq_cVv M_Row_takeFrom (R_Row_takeFrom Z (43 * t) (43 * a1) _) (ob_2 (by omega)) rfl rfl (by decide) (by decide) (Nat.le_of_ble_eq_true rfl) ln_RX1_66 dX1_takeFrom_8 (fun gr1 _ J2 => ?_)
  refine wq_aload_n dX1_takeFrom_11 0 rfl rfl ?_
  refine g_1_1 ht ln_RX1_18 dX1_takeFrom_12 ?_
  refine wq_aload_n dX1_takeFrom_15 1 rfl rfl ?_
  refine g_1_1 h1 ln_RX1_18 dX1_takeFrom_16 ?_
  refine wq_cVv M_Row_takeFrom (R_Row_takeFrom Z (43 * t + 1) (43 * a1 + 1) _) (ob_2 (by omega)) rfl rfl (by decide) (by decide) (Nat.le_of_ble_eq_true rfl) ln_RX1_66 dX1_takeFrom_19 (fun gr4 _ J5 => ?_)
  refine wq_iconst dX1_takeFrom_22 ?_
  refine wq_istore_n (lv' := [(2, vi 0), (0, vr Z 1 t), (1, vr Z 1 a1)]) dX1_takeFrom_23 rfl (by decide) rfl ?_
  refine WQ.loc [1, 2, 0] (lv' := [(0, vr Z 1 t), (1, vr Z 1 a1), (2, vi 0)]) rfl ?_
  refine wq_loopS (fun s21 => [(0, vr Z 1 t), (1, vr Z 1 a1), (2, vi s21)]) 63 (fun _ => [(0, vr Z 1 t), (1, vr Z 1 a1)]) (fun κ15 bk16 ex17 gr20 s21 J19 => ?_) (fun gr32 r30 J31 => ?_) gr4 _ rfl
  · unfold f_G_takeFrom_w24
    refine wq_iload_n dX1_takeFrom_24 2 rfl rfl ?_
    refine wq_bipush dX1_takeFrom_25 (by decide) ?_
    refine wq_icmp_ge 63 dX1_takeFrom_27 (by decide) rfl rfl (fun c29 => ?_) (fun c29 => ?_)
    · refine wq_aload_n dX1_takeFrom_30 0 rfl rfl ?_
      refine g_1_2 ht ln_RX1_21 dX1_takeFrom_31 ?_
      refine wq_iload_n dX1_takeFrom_34 2 rfl rfl ?_
      refine wq_grd (fun g22 => ?_)
      refine wq_aald (k := 13) (i := t) (t0 := 4) rfl rfl ht rfl rfl (m := 40) g22 (Nat.le_refl _) dX1_takeFrom_35 ?_
      have hb23 : (43 * t + 3 + (w32 s21).toNat) < 516 := by omega
      refine wq_aload_n dX1_takeFrom_36 1 rfl rfl ?_
      refine g_1_2 h1 ln_RX1_21 dX1_takeFrom_37 ?_
      refine wq_iload_n dX1_takeFrom_40 2 rfl rfl ?_
      refine wq_aald (k := 13) (i := a1) (t0 := 4) rfl rfl h1 rfl rfl (m := 40) g22 (Nat.le_refl _) dX1_takeFrom_41 ?_
      have hb24 : (43 * a1 + 3 + (w32 s21).toNat) < 516 := by omega
      refine wq_cVv M_Row_takeFrom (R_Row_takeFrom Z (43 * t + 3 + (w32 s21).toNat) (43 * a1 + 3 + (w32 s21).toNat) _) (ob_2 hb23) rfl rfl (by decide) (by decide) (Nat.le_of_ble_eq_true rfl) ln_RX1_66 dX1_takeFrom_42 (fun gr25 _ J26 => ?_)
      refine wq_aload_n dX1_takeFrom_45 0 rfl rfl ?_
      refine g_1_4 ht ln_RX1_28 dX1_takeFrom_46 ?_
      refine wq_iload_n dX1_takeFrom_49 2 rfl rfl ?_
      refine wq_aload_n dX1_takeFrom_50 1 rfl rfl ?_
      refine g_1_4 h1 ln_RX1_28 dX1_takeFrom_51 ?_
      refine wq_iload_n dX1_takeFrom_54 2 rfl rfl ?_
      refine wq_iald (k := 14) (i := a1) rfl h1 rfl rfl (m := 40) g22 (Nat.le_refl _) dX1_takeFrom_55 ?_
      refine wq_iast (k := 14) (i := t) (fun _ _ => rfl) ht rfl rfl (m := 40) g22 (Nat.le_refl _) (by decide) (by decide) (by decide) dX1_takeFrom_56 (fun J28 => ?_)
      refine wq_iinc (lv' := [(2, vi (s21 + 1)), (0, vr Z 1 t), (1, vr Z 1 a1)]) dX1_takeFrom_57 2 rfl (by decide) rfl ?_
      refine wq_goto 24 dX1_takeFrom_60 (by decide) ?_
      exact WQ.loc [1, 2, 0] rfl (bk16 _ _ _)
    · exact WQ.loc [0, 1] rfl (ex17 _ _ _)
  · refine wq_iconst dX1_takeFrom_63 ?_
    refine wq_istore_n (lv' := [(2, vi 0), (0, vr Z 1 t), (1, vr Z 1 a1)]) dX1_takeFrom_64 rfl (by decide) rfl ?_
    refine WQ.loc [1, 2, 0] (lv' := [(0, vr Z 1 t), (1, vr Z 1 a1), (2, vi 0)]) rfl ?_
    refine wq_loopS (fun s42 => [(0, vr Z 1 t), (1, vr Z 1 a1), (2, vi s42)]) 89 (fun _ => [(0, vr Z 1 t), (1, vr Z 1 a1)]) (fun κ36 bk37 ex38 gr41 s42 J40 => ?_) (fun gr48 r46 J47 => ?_) gr32 _ rfl
    · unfold f_G_takeFrom_w65
      refine wq_iload_n dX1_takeFrom_65 2 rfl rfl ?_
      refine wq_bipush dX1_takeFrom_66 (by decide) ?_
      refine wq_icmp_ge 89 dX1_takeFrom_68 (by decide) rfl rfl (fun c45 => ?_) (fun c45 => ?_)
      · refine wq_aload_n dX1_takeFrom_71 0 rfl rfl ?_
        refine g_1_5 ht ln_RX1_32 dX1_takeFrom_72 ?_
        refine wq_iload_n dX1_takeFrom_75 2 rfl rfl ?_
        refine wq_aload_n dX1_takeFrom_76 1 rfl rfl ?_
        refine g_1_5 h1 ln_RX1_32 dX1_takeFrom_77 ?_
        refine wq_iload_n dX1_takeFrom_80 2 rfl rfl ?_
        refine wq_grd (fun g43 => ?_)
        refine wq_iald (k := 15) (i := a1) rfl h1 rfl rfl (m := 9) g43 (Nat.le_refl _) dX1_takeFrom_81 ?_
        refine wq_iast (k := 15) (i := t) (fun _ _ => rfl) ht rfl rfl (m := 9) g43 (Nat.le_refl _) (by decide) (by decide) (by decide) dX1_takeFrom_82 (fun J44 => ?_)
        refine wq_iinc (lv' := [(2, vi (s42 + 1)), (0, vr Z 1 t), (1, vr Z 1 a1)]) dX1_takeFrom_83 2 rfl (by decide) rfl ?_
        refine wq_goto 65 dX1_takeFrom_86 (by decide) ?_
        exact WQ.loc [1, 2, 0] rfl (bk37 _ _ _)
      · exact WQ.loc [0, 1] rfl (ex38 _ _ _)
    · refine wq_aload_n dX1_takeFrom_89 0 rfl rfl ?_
      refine wq_aload_n dX1_takeFrom_90 1 rfl rfl ?_
      refine g_1_6 h1 ln_RX1_35 dX1_takeFrom_91 ?_
      refine p_1_6 ht ln_RX1_35 dX1_takeFrom_94 (fun J49 => ?_)
      refine wq_aload_n dX1_takeFrom_97 0 rfl rfl ?_
      refine wq_aload_n dX1_takeFrom_98 1 rfl rfl ?_
      refine g_1_7 h1 ln_RX1_45 dX1_takeFrom_99 ?_
      refine p_1_7 ht ln_RX1_45 dX1_takeFrom_102 (fun J50 => ?_)
      refine wq_aload_n dX1_takeFrom_105 0 rfl rfl ?_
      refine wq_aload_n dX1_takeFrom_106 1 rfl rfl ?_
      refine g_1_8 h1 ln_RX1_39 dX1_takeFrom_107 ?_
      refine p_1_8 ht ln_RX1_39 dX1_takeFrom_110 (fun J51 => ?_)
      refine wq_aload_n dX1_takeFrom_113 0 rfl rfl ?_
      refine wq_aload_n dX1_takeFrom_114 1 rfl rfl ?_
      refine g_1_9 h1 ln_RX1_48 dX1_takeFrom_115 ?_
      refine p_1_9 ht ln_RX1_48 dX1_takeFrom_118 (fun J52 => ?_)
      exact wq_vret rfl rfl dX1_takeFrom_121

theorem M_G_keptOf : MwV yX1_keptOf cX1_keptOf 4 (some .int) 2 := ⟨li_4 119 (by decide +kernel) (by decide +kernel), li_4 118 (by decide +kernel) (by decide +kernel), lw_in 31 (by decide +kernel) (by decide +kernel), li_1 2 (by decide +kernel) (by decide +kernel), by decide +kernel⟩
theorem M_G_lowestFree : MwV yX1_lowestFree cX1_lowestFree 2 (some .int) 0 := ⟨li_4 45 (by decide +kernel) (by decide +kernel), li_4 43 (by decide +kernel) (by decide +kernel), li_4 44 (by decide +kernel) (by decide +kernel), li_1 2 (by decide +kernel) (by decide +kernel), by decide +kernel⟩
theorem ln_RX1_106 : Cond.methodLink RX1 106 yX1_lowestFree ∈ lw_good := li_4 124 (by decide +kernel) (by decide +kernel)
theorem M_Row_join : MwV yX5_join cX5_join 7 (some .int) 3 := ⟨li_4 128 (by decide +kernel) (by decide +kernel), li_4 126 (by decide +kernel) (by decide +kernel), li_4 127 (by decide +kernel) (by decide +kernel), li_1 3 (by decide +kernel) (by decide +kernel), by decide +kernel⟩
theorem ln_RX1_109 : Cond.methodLink RX1 109 yX5_join ∈ lw_good := li_4 125 (by decide +kernel) (by decide +kernel)
theorem M_G_addTo : MwV yX1_addTo cX1_addTo 3 (none) 2 := ⟨li_4 132 (by decide +kernel) (by decide +kernel), li_4 130 (by decide +kernel) (by decide +kernel), li_4 131 (by decide +kernel) (by decide +kernel), li_1 2 (by decide +kernel) (by decide +kernel), by decide +kernel⟩
theorem ln_RX1_117 : Cond.methodLink RX1 117 yX1_addTo ∈ lw_good := li_4 129 (by decide +kernel) (by decide +kernel)
theorem ln_RX1_103 : Cond.methodLink RX1 103 yX1_keptOf ∈ lw_good := li_4 116 (by decide +kernel) (by decide +kernel)
noncomputable def f_G_join_w49 (v0 : Nat) (v1 : Int) (v2 : Int) (v3 : Int) (v4 : Int) (s : Int × Int) (I : Mem) : Option (((Int × Int) ⊕ (Int)) × Mem) :=
if (w32 s.2) < 40 then
if 0 ≤ (w32 s.2) ∧ (w32 s.2) < 40 then
bnd (f_Row_isPair (43 * v0 + 3 + (w32 s.2).toNat) v1 v2 I) fun x16 J15 =>
if (w32 x16) = 0 then
bnd (f_Row_join (43 * v0 + 3 + (w32 s.2).toNat) v1 v2 (26 + v4) J15) fun x20 J19 =>
some (.inl ((s.1 + x20), (s.2 + 1)), J19)
else
some (.inl (s.1, (s.2 + 1)), J15)
else none
else
some (.inr s.1, I)

noncomputable def f_G_join_j20 (v0 : Nat) (v1 : Int) (v2 : Int) (v3 : Int)  (e0 : Int) (I : Mem) : Option ((Int) × Mem) :=
if (w32 e0) = (-1) then
some ((-1), I)
else
bnd (f_Row_join (43 * v0) v1 v2 (26 + e0) I) fun x11 J10 =>
bnd (whl (f_G_join_w49 v0 v1 v2 v3 e0) (x11, 0) J10) fun r41 J42 =>
bnd (f_G_addTo v0 5 r41 J42) fun _ J45 =>
if (w32 v3) = (-1) then
if 0 ≤ (w32 e0) ∧ (w32 e0) < 40 then
bnd (f_Row_put (43 * v0 + 3 + (w32 e0).toNat) v1 J45) fun _ J50 =>
bnd (f_Row_put (43 * v0 + 3 + (w32 e0).toNat) v2 J50) fun _ J54 =>
bnd (f_G_lengthOf v0 v1 J54) fun x58 J57 =>
bnd (f_G_lengthOf v0 v2 J57) fun x61 J60 =>
ltI (sI J60 14 v0 (w32 e0).toNat (x58 + x61)) fun J62 =>
bnd (f_G_addTo v0 1 1 J62) fun _ J64 =>
some (e0, J64)
else none
else
some (e0, J45)

noncomputable def f_G_join (t : Nat) (a1 : Int) (a2 : Int) (I : Mem) : Option ((Int) × Mem) :=
if t < 12 then
bnd (f_G_keptOf t a1 a2 I) fun x3 J2 =>
if (w32 x3) = (-1) then
bnd (f_G_lowestFree t J2) fun x7 J6 =>
f_G_join_j20 t a1 a2 x3 x7 J6
else
f_G_join_j20 t a1 a2 x3 x3 J2
else none
set_option maxRecDepth 20000 in
theorem R_G_join (Z : ZT) (t : Nat) (a1 : Int) (a2 : Int) (I : Mem) (r : Int) (J : Mem) (hf : f_G_join t a1 a2 I = some (r, J)) : Runs Z yX1_join cX1_join 7 (some .int) 3 [vr Z 1 t, vi a1, vi a2] I (some (vi r), J) := by
  refine Runs.of (rv := fun x => some (vi x)) (by decide +kernel) (Nat.le_of_ble_eq_true rfl) hf (fun gr => ?_)
  unfold f_G_join
  refine WQ.loc [0, 1, 2] (lv' := [(0, vr Z 1 t), (1, vi a1), (2, vi a2)]) rfl ?_
  refine wq_grd (fun ht => ?_)
  refine wq_aload_n dX1_join_0 0 rfl rfl ?_
  refine wq_iload_n dX1_join_1 1 rfl rfl ?_
  refine wq_iload_n dX1_join_2 2 rfl rfl ?_
  refine wq_cVi M_G_keptOf (R_G_keptOf Z t a1 a2 _) (ob_1 ht) rfl rfl (by decide) (by decide) (Nat.le_of_ble_eq_true rfl) ln_RX1_103 dX1_join_3 (fun gr1 x3 J2 => ?_)
  refine wq_istore_n (lv' := [(3, vi x3), (0, vr Z 1 t), (1, vi a1), (2, vi a2)]) dX1_join_6 rfl (by decide) rfl ?_
  refine wq_iload_n dX1_join_7 0 rfl rfl ?_
  refine wq_iconst dX1_join_8 ?_
  have hj4 : ∀ (gr69 : Nat → Nat)  (hj4e0 : Int) (J68 : Mem), WQ Z (yX1_join, cX1_join, 7, some .int, 3) I gr69 20 [(0, vr Z 1 t), (1, vi a1), (2, vi a2), (3, vi x3)] [vi hj4e0] J68 (f_G_join_j20 t a1 a2 x3 hj4e0 J68) (fun b K => some (.inl ((fun x => some (vi x)) b), K)) := by
    intro gr69 hj4e0 J68
    unfold f_G_join_j20
    refine wq_istore (lv' := [(4, vi hj4e0), (0, vr Z 1 t), (1, vi a1), (2, vi a2), (3, vi x3)]) dX1_join_20 (by decide) rfl ?_
    refine wq_iload dX1_join_22 0 rfl ?_
    refine wq_iconst dX1_join_24 ?_
    refine wq_icmp_ne 30 dX1_join_25 (by decide) rfl rfl (fun c117 => ?_) (fun c117 => ?_)
    · refine wq_iconst dX1_join_28 ?_
      exact wq_iret rfl rfl dX1_join_29
    · refine wq_aload_n dX1_join_30 1 rfl rfl ?_
      refine g_1_0 ht ln_RX1_12 dX1_join_31 ?_
      refine wq_iload_n dX1_join_34 2 rfl rfl ?_
      refine wq_iload_n dX1_join_35 3 rfl rfl ?_
      refine wq_bipush dX1_join_36 (by decide) ?_
      refine wq_iload dX1_join_38 0 rfl ?_
      refine wq_iadd dX1_join_40 ?_
      refine wq_cVi M_Row_join (R_Row_join Z (43 * t) a1 a2 (26 + hj4e0) _) (ob_2 (by omega)) rfl rfl (by decide) (by decide) (Nat.le_of_ble_eq_true rfl) ln_RX1_109 dX1_join_41 (fun gr70 x72 J71 => ?_)
      refine wq_istore (lv' := [(5, vi x72), (4, vi hj4e0), (0, vr Z 1 t), (1, vi a1), (2, vi a2), (3, vi x3)]) dX1_join_44 (by decide) rfl ?_
      refine wq_iconst dX1_join_46 ?_
      refine wq_istore (lv' := [(6, vi 0), (5, vi x72), (4, vi hj4e0), (0, vr Z 1 t), (1, vi a1), (2, vi a2), (3, vi x3)]) dX1_join_47 (by decide) rfl ?_
      refine WQ.loc [3, 4, 5, 6, 2, 1, 0] (lv' := [(0, vr Z 1 t), (1, vi a1), (2, vi a2), (3, vi x3), (4, vi hj4e0), (5, vi x72), (6, vi 0)]) rfl ?_
      refine wq_loopS (fun s79 => [(0, vr Z 1 t), (1, vi a1), (2, vi a2), (3, vi x3), (4, vi hj4e0), (5, vi s79.1), (6, vi s79.2)]) 99 (fun r91 => [(0, vr Z 1 t), (1, vi a1), (2, vi a2), (3, vi x3), (4, vi hj4e0), (5, vi r91)]) (fun κ73 bk74 ex75 gr78 s79 J77 => ?_) (fun gr93 r91 J92 => ?_) gr70 _ rfl
      · unfold f_G_join_w49
        refine wq_iload dX1_join_49 6 rfl ?_
        refine wq_bipush dX1_join_51 (by decide) ?_
        refine wq_icmp_ge 99 dX1_join_53 (by decide) rfl rfl (fun c90 => ?_) (fun c90 => ?_)
        · refine wq_aload_n dX1_join_56 0 rfl rfl ?_
          refine g_1_2 ht ln_RX1_21 dX1_join_57 ?_
          refine wq_iload dX1_join_60 6 rfl ?_
          refine wq_grd (fun g80 => ?_)
          refine wq_aald (k := 13) (i := t) (t0 := 4) rfl rfl ht rfl rfl (m := 40) g80 (Nat.le_refl _) dX1_join_62 ?_
          have hb81 : (43 * t + 3 + (w32 s79.2).toNat) < 516 := by omega
          refine wq_iload_n dX1_join_63 1 rfl rfl ?_
          refine wq_iload_n dX1_join_64 2 rfl rfl ?_
          refine wq_cVi M_Row_isPair (R_Row_isPair Z (43 * t + 3 + (w32 s79.2).toNat) a1 a2 _) (ob_2 hb81) rfl rfl (by decide) (by decide) (Nat.le_of_ble_eq_true rfl) ln_RX1_113 dX1_join_65 (fun gr82 x84 J83 => ?_)
          refine wq_if_ne 93 dX1_join_68 (by decide) rfl (fun c89 => ?_) (fun c89 => ?_)
          · refine wq_iload dX1_join_71 5 rfl ?_
            refine wq_aload_n dX1_join_73 0 rfl rfl ?_
            refine g_1_2 ht ln_RX1_21 dX1_join_74 ?_
            refine wq_iload dX1_join_77 6 rfl ?_
            refine wq_aald (k := 13) (i := t) (t0 := 4) rfl rfl ht rfl rfl (m := 40) g80 (Nat.le_refl _) dX1_join_79 ?_
            have hb85 : (43 * t + 3 + (w32 s79.2).toNat) < 516 := by omega
            refine wq_iload_n dX1_join_80 1 rfl rfl ?_
            refine wq_iload_n dX1_join_81 2 rfl rfl ?_
            refine wq_bipush dX1_join_82 (by decide) ?_
            refine wq_iload dX1_join_84 4 rfl ?_
            refine wq_iadd dX1_join_86 ?_
            refine wq_cVi M_Row_join (R_Row_join Z (43 * t + 3 + (w32 s79.2).toNat) a1 a2 (26 + hj4e0) _) (ob_2 hb85) rfl rfl (by decide) (by decide) (Nat.le_of_ble_eq_true rfl) ln_RX1_109 dX1_join_87 (fun gr86 x88 J87 => ?_)
            refine wq_iadd dX1_join_90 ?_
            refine wq_istore (lv' := [(5, vi (s79.1 + x88)), (0, vr Z 1 t), (1, vi a1), (2, vi a2), (3, vi x3), (4, vi hj4e0), (6, vi s79.2)]) dX1_join_91 (by decide) rfl ?_
            refine wq_iinc (lv' := [(6, vi (s79.2 + 1)), (5, vi (s79.1 + x88)), (0, vr Z 1 t), (1, vi a1), (2, vi a2), (3, vi x3), (4, vi hj4e0)]) dX1_join_93 6 rfl (by decide) rfl ?_
            refine wq_goto 49 dX1_join_96 (by decide) ?_
            exact WQ.loc [2, 3, 4, 5, 6, 1, 0] rfl (bk74 _ _ _)
          · refine wq_iinc (lv' := [(6, vi (s79.2 + 1)), (0, vr Z 1 t), (1, vi a1), (2, vi a2), (3, vi x3), (4, vi hj4e0), (5, vi s79.1)]) dX1_join_93 6 rfl (by decide) rfl ?_
            refine wq_goto 49 dX1_join_96 (by decide) ?_
            exact WQ.loc [1, 2, 3, 4, 5, 6, 0] rfl (bk74 _ _ _)
        · exact WQ.loc [0, 1, 2, 3, 4, 5] rfl (ex75 _ _ _)
      · refine wq_aload_n dX1_join_99 0 rfl rfl ?_
        refine wq_iconst dX1_join_100 ?_
        refine wq_iload dX1_join_101 5 rfl ?_
        refine wq_cVv M_G_addTo (R_G_addTo Z t 5 r91 _) (ob_1 ht) rfl rfl (by decide) (by decide) (Nat.le_of_ble_eq_true rfl) ln_RX1_117 dX1_join_103 (fun gr94 _ J95 => ?_)
        refine wq_iload_n dX1_join_106 3 rfl rfl ?_
        refine wq_iconst dX1_join_107 ?_
        refine wq_icmp_ne 157 dX1_join_108 (by decide) rfl rfl (fun c116 => ?_) (fun c116 => ?_)
        · refine wq_aload_n dX1_join_111 0 rfl rfl ?_
          refine g_1_2 ht ln_RX1_21 dX1_join_112 ?_
          refine wq_iload dX1_join_115 4 rfl ?_
          refine wq_grd (fun g97 => ?_)
          refine wq_aald (k := 13) (i := t) (t0 := 4) rfl rfl ht rfl rfl (m := 40) g97 (Nat.le_refl _) dX1_join_117 ?_
          have hb98 : (43 * t + 3 + (w32 hj4e0).toNat) < 516 := by omega
          refine wq_iload_n dX1_join_118 1 rfl rfl ?_
          refine wq_cVv M_Row_put (R_Row_put Z (43 * t + 3 + (w32 hj4e0).toNat) a1 _) (ob_2 hb98) rfl rfl (by decide) (by decide) (Nat.le_of_ble_eq_true rfl) ln_RX1_52 dX1_join_119 (fun gr99 _ J100 => ?_)
          refine wq_aload_n dX1_join_122 0 rfl rfl ?_
          refine g_1_2 ht ln_RX1_21 dX1_join_123 ?_
          refine wq_iload dX1_join_126 4 rfl ?_
          refine wq_aald (k := 13) (i := t) (t0 := 4) rfl rfl ht rfl rfl (m := 40) g97 (Nat.le_refl _) dX1_join_128 ?_
          have hb102 : (43 * t + 3 + (w32 hj4e0).toNat) < 516 := by omega
          refine wq_iload_n dX1_join_129 2 rfl rfl ?_
          refine wq_cVv M_Row_put (R_Row_put Z (43 * t + 3 + (w32 hj4e0).toNat) a2 _) (ob_2 hb102) rfl rfl (by decide) (by decide) (Nat.le_of_ble_eq_true rfl) ln_RX1_52 dX1_join_130 (fun gr103 _ J104 => ?_)
          refine wq_aload_n dX1_join_133 0 rfl rfl ?_
          refine g_1_4 ht ln_RX1_28 dX1_join_134 ?_
          refine wq_iload dX1_join_137 4 rfl ?_
          refine wq_aload_n dX1_join_139 0 rfl rfl ?_
          refine wq_iload_n dX1_join_140 1 rfl rfl ?_
          refine wq_cVi M_G_lengthOf (R_G_lengthOf Z t a1 _) (ob_1 ht) rfl rfl (by decide) (by decide) (Nat.le_of_ble_eq_true rfl) ln_RX1_93 dX1_join_141 (fun gr106 x108 J107 => ?_)
          refine wq_aload_n dX1_join_144 0 rfl rfl ?_
          refine wq_iload_n dX1_join_145 2 rfl rfl ?_
          refine wq_cVi M_G_lengthOf (R_G_lengthOf Z t a2 _) (ob_1 ht) rfl rfl (by decide) (by decide) (Nat.le_of_ble_eq_true rfl) ln_RX1_93 dX1_join_146 (fun gr109 x111 J110 => ?_)
          refine wq_iadd dX1_join_149 ?_
          refine wq_iast (k := 14) (i := t) (fun _ _ => rfl) ht rfl rfl (m := 40) g97 (Nat.le_refl _) (by decide) (by decide) (by decide) dX1_join_150 (fun J112 => ?_)
          refine wq_aload_n dX1_join_151 0 rfl rfl ?_
          refine wq_iconst dX1_join_152 ?_
          refine wq_iconst dX1_join_153 ?_
          refine wq_cVv M_G_addTo (R_G_addTo Z t 1 1 _) (ob_1 ht) rfl rfl (by decide) (by decide) (Nat.le_of_ble_eq_true rfl) ln_RX1_117 dX1_join_154 (fun gr113 _ J114 => ?_)
          refine wq_iload dX1_join_157 4 rfl ?_
          exact wq_iret rfl rfl dX1_join_159
        · refine wq_iload dX1_join_157 4 rfl ?_
          exact wq_iret rfl rfl dX1_join_159
  refine wq_icmp_ne 19 dX1_join_9 (by decide) rfl rfl (fun c8 => ?_) (fun c8 => ?_)
  · refine wq_aload_n dX1_join_12 1 rfl rfl ?_
    refine wq_cVi M_G_lowestFree (R_G_lowestFree Z t _) (ob_1 ht) rfl rfl (by decide) (by decide) (Nat.le_of_ble_eq_true rfl) ln_RX1_106 dX1_join_13 (fun gr5 x7 J6 => ?_)
    refine wq_goto 20 dX1_join_16 (by decide) ?_
    exact WQ.loc [1, 2, 3, 0] rfl (hj4 _  _ _)
  · refine wq_iload_n dX1_join_19 0 rfl rfl ?_
    exact WQ.loc [1, 2, 3, 0] rfl (hj4 _  _ _)

theorem M_Row_open : MwV yX5_open cX5_open 7 (some .int) 2 := ⟨li_4 167 (by decide +kernel) (by decide +kernel), li_4 165 (by decide +kernel) (by decide +kernel), li_4 166 (by decide +kernel) (by decide +kernel), li_1 3 (by decide +kernel) (by decide +kernel), by decide +kernel⟩
theorem ln_RX1_121 : Cond.methodLink RX1 121 yX5_open ∈ lw_good := li_4 164 (by decide +kernel) (by decide +kernel)
theorem M_G_putLength : MwV yX1_putLength cX1_putLength 3 (none) 2 := ⟨li_3 65 (by decide +kernel) (by decide +kernel), li_3 63 (by decide +kernel) (by decide +kernel), li_3 64 (by decide +kernel) (by decide +kernel), li_1 2 (by decide +kernel) (by decide +kernel), by decide +kernel⟩
theorem ln_RX1_125 : Cond.methodLink RX1 125 yX1_putLength ∈ lw_good := li_4 172 (by decide +kernel) (by decide +kernel)
noncomputable def f_G_dissolve_w27 (v0 : Nat) (v1 : Int) (v2 : Int) (v3 : Nat) (v4 : Int) (s : Int × Int) (I : Mem) : Option (((Int × Int) ⊕ (Int)) × Mem) :=
if (w32 s.2) < 40 then
if 0 ≤ (w32 s.2) ∧ (w32 s.2) < 40 then
bnd (f_Row_open (43 * v0 + 3 + (w32 s.2).toNat) v4 v3 I) fun x12 J11 =>
some (.inl ((s.1 + x12), (s.2 + 1)), J11)
else none
else
some (.inr s.1, I)

noncomputable def f_G_dissolve (t : Nat) (a1 : Int) (a2 : Int) (I : Mem) : Option ((Int) × Mem) :=
if t < 12 then
bnd (f_G_body t a1 I) fun x3 J2 =>
if x3 < 516 then
bnd (f_Row_open (43 * t) (26 + a1) x3 J2) fun x7 J6 =>
bnd (whl (f_G_dissolve_w27 t a1 a2 x3 (26 + a1)) (x7, 0) J6) fun r27 J28 =>
bnd (f_Row_clear x3 J28) fun _ J31 =>
bnd (f_G_putLength t a1 0 J31) fun _ J34 =>
bnd (f_G_addTo t a2 1 J34) fun _ J37 =>
some (r27, J37)
else none
else none
set_option maxRecDepth 20000 in
theorem R_G_dissolve (Z : ZT) (t : Nat) (a1 : Int) (a2 : Int) (I : Mem) (r : Int) (J : Mem) (hf : f_G_dissolve t a1 a2 I = some (r, J)) : Runs Z yX1_dissolve cX1_dissolve 7 (some .int) 3 [vr Z 1 t, vi a1, vi a2] I (some (vi r), J) := by
  refine Runs.of (rv := fun x => some (vi x)) (by decide +kernel) (Nat.le_of_ble_eq_true rfl) hf (fun gr => ?_)
  unfold f_G_dissolve
  refine WQ.loc [0, 1, 2] (lv' := [(0, vr Z 1 t), (1, vi a1), (2, vi a2)]) rfl ?_
  refine wq_grd (fun ht => ?_)
  refine wq_aload_n dX1_dissolve_0 0 rfl rfl ?_
  refine wq_iload_n dX1_dissolve_1 1 rfl rfl ?_
  refine wq_cVr 2 M_G_body (R_G_body Z t a1 _) (ob_1 ht) rfl rfl (by decide) (by decide) (Nat.le_of_ble_eq_true rfl) ln_RX1_69 dX1_dissolve_2 (fun gr1 x3 J2 => ?_)
  refine wq_grd (fun g4 => ?_)
  refine wq_astore_n (lv' := [(3, vr Z 2 x3), (0, vr Z 1 t), (1, vi a1), (2, vi a2)]) dX1_dissolve_5 rfl (by decide) rfl ?_
  refine wq_bipush dX1_dissolve_6 (by decide) ?_
  refine wq_iload_n dX1_dissolve_8 2 rfl rfl ?_
  refine wq_iadd dX1_dissolve_9 ?_
  refine wq_istore (lv' := [(4, vi (26 + a1)), (3, vr Z 2 x3), (0, vr Z 1 t), (1, vi a1), (2, vi a2)]) dX1_dissolve_10 (by decide) rfl ?_
  refine wq_aload_n dX1_dissolve_12 2 rfl rfl ?_
  refine g_1_0 ht ln_RX1_12 dX1_dissolve_13 ?_
  refine wq_iload dX1_dissolve_16 0 rfl ?_
  refine wq_aload_n dX1_dissolve_18 1 rfl rfl ?_
  refine wq_cVi M_Row_open (R_Row_open Z (43 * t) (26 + a1) x3 _) (ob_2 (by omega)) rfl rfl (by decide) (by decide) (Nat.le_of_ble_eq_true rfl) ln_RX1_121 dX1_dissolve_19 (fun gr5 x7 J6 => ?_)
  refine wq_istore (lv' := [(5, vi x7), (4, vi (26 + a1)), (3, vr Z 2 x3), (0, vr Z 1 t), (1, vi a1), (2, vi a2)]) dX1_dissolve_22 (by decide) rfl ?_
  refine wq_iconst dX1_dissolve_24 ?_
  refine wq_istore (lv' := [(6, vi 0), (5, vi x7), (4, vi (26 + a1)), (3, vr Z 2 x3), (0, vr Z 1 t), (1, vi a1), (2, vi a2)]) dX1_dissolve_25 (by decide) rfl ?_
  refine WQ.loc [4, 5, 6, 3, 2, 1, 0] (lv' := [(0, vr Z 1 t), (1, vi a1), (2, vi a2), (3, vr Z 2 x3), (4, vi (26 + a1)), (5, vi x7), (6, vi 0)]) rfl ?_
  refine wq_loopS (fun s20 => [(0, vr Z 1 t), (1, vi a1), (2, vi a2), (3, vr Z 2 x3), (4, vi (26 + a1)), (5, vi s20.1), (6, vi s20.2)]) 58 (fun r27 => [(0, vr Z 1 t), (1, vi a1), (2, vi a2), (3, vr Z 2 x3), (5, vi r27)]) (fun κ14 bk15 ex16 gr19 s20 J18 => ?_) (fun gr29 r27 J28 => ?_) gr5 _ rfl
  · unfold f_G_dissolve_w27
    refine wq_iload dX1_dissolve_27 6 rfl ?_
    refine wq_bipush dX1_dissolve_29 (by decide) ?_
    refine wq_icmp_ge 58 dX1_dissolve_31 (by decide) rfl rfl (fun c26 => ?_) (fun c26 => ?_)
    · refine wq_iload dX1_dissolve_34 5 rfl ?_
      refine wq_aload_n dX1_dissolve_36 0 rfl rfl ?_
      refine g_1_2 ht ln_RX1_21 dX1_dissolve_37 ?_
      refine wq_iload dX1_dissolve_40 6 rfl ?_
      refine wq_grd (fun g21 => ?_)
      refine wq_aald (k := 13) (i := t) (t0 := 4) rfl rfl ht rfl rfl (m := 40) g21 (Nat.le_refl _) dX1_dissolve_42 ?_
      have hb22 : (43 * t + 3 + (w32 s20.2).toNat) < 516 := by omega
      refine wq_iload dX1_dissolve_43 4 rfl ?_
      refine wq_aload_n dX1_dissolve_45 3 rfl rfl ?_
      refine wq_cVi M_Row_open (R_Row_open Z (43 * t + 3 + (w32 s20.2).toNat) (26 + a1) x3 _) (ob_2 hb22) rfl rfl (by decide) (by decide) (Nat.le_of_ble_eq_true rfl) ln_RX1_121 dX1_dissolve_46 (fun gr23 x25 J24 => ?_)
      refine wq_iadd dX1_dissolve_49 ?_
      refine wq_istore (lv' := [(5, vi (s20.1 + x25)), (0, vr Z 1 t), (1, vi a1), (2, vi a2), (3, vr Z 2 x3), (4, vi (26 + a1)), (6, vi s20.2)]) dX1_dissolve_50 (by decide) rfl ?_
      refine wq_iinc (lv' := [(6, vi (s20.2 + 1)), (5, vi (s20.1 + x25)), (0, vr Z 1 t), (1, vi a1), (2, vi a2), (3, vr Z 2 x3), (4, vi (26 + a1))]) dX1_dissolve_52 6 rfl (by decide) rfl ?_
      refine wq_goto 27 dX1_dissolve_55 (by decide) ?_
      exact WQ.loc [2, 3, 4, 5, 6, 1, 0] rfl (bk15 _ _ _)
    · exact WQ.loc [0, 1, 2, 3, 5] rfl (ex16 _ _ _)
  · refine wq_aload_n dX1_dissolve_58 3 rfl rfl ?_
    refine wq_cVv M_Row_clear (R_Row_clear Z x3 _) (ob_2 g4) rfl rfl (by decide) (by decide) (Nat.le_of_ble_eq_true rfl) ln_RX1_42 dX1_dissolve_59 (fun gr30 _ J31 => ?_)
    refine wq_aload_n dX1_dissolve_62 0 rfl rfl ?_
    refine wq_iload_n dX1_dissolve_63 1 rfl rfl ?_
    refine wq_iconst dX1_dissolve_64 ?_
    refine wq_cVv M_G_putLength (R_G_putLength Z t a1 0 _) (ob_1 ht) rfl rfl (by decide) (by decide) (Nat.le_of_ble_eq_true rfl) ln_RX1_125 dX1_dissolve_65 (fun gr33 _ J34 => ?_)
    refine wq_aload_n dX1_dissolve_68 0 rfl rfl ?_
    refine wq_iload_n dX1_dissolve_69 2 rfl rfl ?_
    refine wq_iconst dX1_dissolve_70 ?_
    refine wq_cVv M_G_addTo (R_G_addTo Z t a2 1 _) (ob_1 ht) rfl rfl (by decide) (by decide) (Nat.le_of_ble_eq_true rfl) ln_RX1_117 dX1_dissolve_71 (fun gr36 _ J37 => ?_)
    refine wq_iload dX1_dissolve_74 4 rfl ?_
    exact wq_iret rfl rfl dX1_dissolve_76

noncomputable def f_G_addLetter (t : Nat) (a1 : Int) (I : Mem) : Option ((Unit) × Mem) :=
if t < 12 then
bnd (f_Row_put (43 * t) a1 I) fun _ J2 =>
bnd (f_Row_put (43 * t + 1) a1 J2) fun _ J5 =>
bnd (f_G_addTo t 6 1 J5) fun _ J8 =>
some ((), J8)
else none
set_option maxRecDepth 20000 in
theorem R_G_addLetter (Z : ZT) (t : Nat) (a1 : Int) (I : Mem) (r : Unit) (J : Mem) (hf : f_G_addLetter t a1 I = some (r, J)) : Runs Z yX1_addLetter cX1_addLetter 2 (none) 3 [vr Z 1 t, vi a1] I (none, J) := by
  refine Runs.of (rv := fun _ => none) (by decide +kernel) (Nat.le_of_ble_eq_true rfl) hf (fun gr => ?_)
  unfold f_G_addLetter
  refine WQ.loc [0, 1] (lv' := [(0, vr Z 1 t), (1, vi a1)]) rfl ?_
  refine wq_grd (fun ht => ?_)
  refine wq_aload_n dX1_addLetter_0 0 rfl rfl ?_
  refine g_1_0 ht ln_RX1_12 dX1_addLetter_1 ?_
  refine wq_iload_n dX1_addLetter_4 1 rfl rfl ?_
  refine wq_cVv M_Row_put (R_Row_put Z (43 * t) a1 _) (ob_2 (by omega)) rfl rfl (by decide) (by decide) (Nat.le_of_ble_eq_true rfl) ln_RX1_52 dX1_addLetter_5 (fun gr1 _ J2 => ?_)
  refine wq_aload_n dX1_addLetter_8 0 rfl rfl ?_
  refine g_1_1 ht ln_RX1_18 dX1_addLetter_9 ?_
  refine wq_iload_n dX1_addLetter_12 1 rfl rfl ?_
  refine wq_cVv M_Row_put (R_Row_put Z (43 * t + 1) a1 _) (ob_2 (by omega)) rfl rfl (by decide) (by decide) (Nat.le_of_ble_eq_true rfl) ln_RX1_52 dX1_addLetter_13 (fun gr4 _ J5 => ?_)
  refine wq_aload_n dX1_addLetter_16 0 rfl rfl ?_
  refine wq_bipush dX1_addLetter_17 (by decide) ?_
  refine wq_iconst dX1_addLetter_19 ?_
  refine wq_cVv M_G_addTo (R_G_addTo Z t 6 1 _) (ob_1 ht) rfl rfl (by decide) (by decide) (Nat.le_of_ble_eq_true rfl) ln_RX1_117 dX1_addLetter_20 (fun gr7 _ J8 => ?_)
  exact wq_vret rfl rfl dX1_addLetter_23
