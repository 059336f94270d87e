theorem ln_RX12_329 : Cond.constantFloat RX12 329 (1258291200 : UInt32) ∈ lw_good := li_5 53 (by decide +kernel) (by decide +kernel)
theorem ln_RX12_330 : Cond.constant RX12 330 (Int32.ofInt 8388607) ∈ lw_good := li_5 54 (by decide +kernel) (by decide +kernel)
noncomputable def f_PR_bitsOf_w7  (s : UInt32 × Int × Int) (I : Mem) : Option (((UInt32 × Int × Int) ⊕ (UInt32 × Int)) × Mem) :=
if (w32 s.2.2) < 127 then
if (w32 ((Op.cmpValue (FP.fcmp s.1 FP.fconst2) .l).toInt)) < 0 then
some (.inr (s.1, s.2.1), I)
else
if (FP.fdiv s.1 FP.fconst2) &&& (0x7fffffff : UInt32) ≤ 0x7f800000 then
some (.inl ((FP.fdiv s.1 FP.fconst2), (s.2.1 + 1), (s.2.2 + 1)), I)
else none
else
some (.inr (s.1, s.2.1), I)

noncomputable def f_PR_bitsOf (a0 : UInt32) (I : Mem) : Option ((Int) × Mem) :=
bnd (whl (f_PR_bitsOf_w7) (a0, 127, 0) I) fun r14 J15 =>
if (FP.fsub r14.1 FP.fconst1) &&& (0x7fffffff : UInt32) ≤ 0x7f800000 then
if (FP.fmul (FP.fsub r14.1 FP.fconst1) (1258291200 : UInt32)) &&& (0x7fffffff : UInt32) ≤ 0x7f800000 then
some ((ior (ish r14.2 23) (ian ((FP.f2i (FP.fmul (FP.fsub r14.1 FP.fconst1) (1258291200 : UInt32))).toInt) 8388607)), J15)
else none
else none
set_option maxRecDepth 20000 in
theorem R_PR_bitsOf (Z : ZT) (a0 : UInt32) (I : Mem) (r : Int) (J : Mem) (hf : f_PR_bitsOf a0 I = some (r, J)) : Runs Z yX12_bitsOf cX12_bitsOf 4 (some .int) 1 [.float a0] I (some (vi r), J) := by
  refine Runs.of (rv := fun x => some (vi x)) (by decide +kernel) (Nat.le_of_ble_eq_true rfl) hf (fun gr => ?_)
  unfold f_PR_bitsOf
  refine WQ.loc [0] (lv' := [(0, .float a0)]) rfl ?_
  refine wq_fload_n dX12_bitsOf_0 0 rfl rfl ?_
  refine wq_fstore_n (lv' := [(1, .float a0), (0, .float a0)]) dX12_bitsOf_1 rfl (by decide) rfl ?_
  refine wq_bipush dX12_bitsOf_2 (by decide) ?_
  refine wq_istore_n (lv' := [(2, vi 127), (1, .float a0), (0, .float a0)]) dX12_bitsOf_4 rfl (by decide) rfl ?_
  refine wq_iconst dX12_bitsOf_5 ?_
  refine wq_istore_n (lv' := [(3, vi 0), (2, vi 127), (1, .float a0), (0, .float a0)]) dX12_bitsOf_6 rfl (by decide) rfl ?_
  refine WQ.loc [2, 1, 0] (lv' := [(1, .float a0), (2, vi 127), (3, vi 0)]) rfl ?_
  refine wq_loopS (fun s10 => [(1, .float s10.1), (2, vi s10.2.1), (3, vi s10.2.2)]) 32 (fun r14 => [(1, .float r14.1), (2, vi r14.2)]) (fun κ4 bk5 ex6 gr9 s10 J8 => ?_) (fun gr16 r14 J15 => ?_) gr _ rfl
  · unfold f_PR_bitsOf_w7
    refine wq_iload_n dX12_bitsOf_7 2 rfl rfl ?_
    refine wq_bipush dX12_bitsOf_8 (by decide) ?_
    refine wq_icmp_ge 32 dX12_bitsOf_10 (by decide) rfl rfl (fun c13 => ?_) (fun c13 => ?_)
    · refine wq_fload_n dX12_bitsOf_13 0 rfl rfl ?_
      refine wq_fconst2 dX12_bitsOf_14 ?_
      refine wq_fcmp dX12_bitsOf_15 ?_
      refine wq_if_lt 32 dX12_bitsOf_16 (by decide) rfl (fun c12 => ?_) (fun c12 => ?_)
      · exact WQ.loc [0, 1] rfl (ex6 _ _ _)
      · refine wq_fload_n dX12_bitsOf_19 0 rfl rfl ?_
        refine wq_fconst2 dX12_bitsOf_20 ?_
        refine wq_grd (fun g11 => ?_)
        refine wq_fdiv g11 dX12_bitsOf_21 ?_
        refine wq_fstore_n (lv' := [(1, .float (FP.fdiv s10.1 FP.fconst2)), (2, vi s10.2.1), (3, vi s10.2.2)]) dX12_bitsOf_22 rfl (by decide) rfl ?_
        refine wq_iinc (lv' := [(2, vi (s10.2.1 + 1)), (1, .float (FP.fdiv s10.1 FP.fconst2)), (3, vi s10.2.2)]) dX12_bitsOf_23 1 rfl (by decide) rfl ?_
        refine wq_iinc (lv' := [(3, vi (s10.2.2 + 1)), (2, vi (s10.2.1 + 1)), (1, .float (FP.fdiv s10.1 FP.fconst2))]) dX12_bitsOf_26 2 rfl (by decide) rfl ?_
        refine wq_goto 7 dX12_bitsOf_29 (by decide) ?_
        exact WQ.loc [2, 1, 0] rfl (bk5 _ _ _)
    · exact WQ.loc [0, 1] rfl (ex6 _ _ _)
  · refine wq_fload_n dX12_bitsOf_32 0 rfl rfl ?_
    refine wq_fconst1 dX12_bitsOf_33 ?_
    refine wq_grd (fun g17 => ?_)
    refine wq_fsub g17 dX12_bitsOf_34 ?_
    refine wq_ldcwF ln_RX12_329 dX12_bitsOf_35 ?_
    refine wq_grd (fun g18 => ?_)
    refine wq_fmul g18 dX12_bitsOf_38 ?_
    refine wq_f2i dX12_bitsOf_39 ?_
    refine wq_istore_n (lv' := [(3, vi ((FP.f2i (FP.fmul (FP.fsub r14.1 FP.fconst1) (1258291200 : UInt32))).toInt)), (1, .float r14.1), (2, vi r14.2)]) dX12_bitsOf_40 rfl (by decide) rfl ?_
    refine wq_iload_n dX12_bitsOf_41 2 rfl rfl ?_
    refine wq_bipush dX12_bitsOf_42 (by decide) ?_
    refine wq_ishl dX12_bitsOf_44 ?_
    refine wq_iload_n dX12_bitsOf_45 0 rfl rfl ?_
    refine wq_ldc_w ln_RX12_330 dX12_bitsOf_46 ?_
    refine wq_iand dX12_bitsOf_49 ?_
    refine wq_ior dX12_bitsOf_50 ?_
    exact wq_iret rfl rfl dX12_bitsOf_51

noncomputable def f_M_ratio  (I : Mem) : Option ((UInt64) × Mem) :=
ltI (sI I 26 0 7 0) fun J1 =>
bnd (f_M_sizeNow J1) fun x4 J3 =>
bnd (f_M_textLong J3) fun x7 J6 =>
if (FP.ddiv (FP.i2d (Int32.ofInt x4)) (FP.i2d (Int32.ofInt x7))) &&& (0x7fffffffffffffff : UInt64) ≤ 0x7ff0000000000000 then
some ((FP.ddiv (FP.i2d (Int32.ofInt x4)) (FP.i2d (Int32.ofInt x7))), J6)
else none
set_option maxRecDepth 20000 in
theorem R_M_ratio (Z : ZT)  (I : Mem) (r : UInt64) (J : Mem) (hf : f_M_ratio I = some (r, J)) : Runs Z yX13_ratio cX13_ratio 1 (some .double) 5 [vr Z 26 0] I (some (.double r), J) := by
  refine Runs.of (rv := fun x => some (.double x)) (by decide +kernel) (Nat.le_of_ble_eq_true rfl) hf (fun gr => ?_)
  unfold f_M_ratio
  refine WQ.loc [0] (lv' := [(0, vr Z 26 0)]) rfl ?_
  refine wq_aload_n dX13_ratio_0 0 rfl rfl ?_
  refine wq_iconst dX13_ratio_1 ?_
  refine p_26_7 ln_RX13_100 dX13_ratio_2 (fun J1 => ?_)
  refine wq_aload_n dX13_ratio_5 0 rfl rfl ?_
  refine wq_cVi M_M_sizeNow (R_M_sizeNow Z _) ob_26 rfl rfl (by decide) (by decide) (Nat.le_of_ble_eq_true rfl) ln_RX13_431 dX13_ratio_6 (fun gr2 x4 J3 => ?_)
  refine wq_i2d dX13_ratio_9 ?_
  refine wq_aload_n dX13_ratio_10 0 rfl rfl ?_
  refine wq_cVi M_M_textLong (R_M_textLong Z _) ob_26 rfl rfl (by decide) (by decide) (Nat.le_of_ble_eq_true rfl) ln_RX13_422 dX13_ratio_11 (fun gr5 x7 J6 => ?_)
  refine wq_i2d dX13_ratio_14 ?_
  refine wq_grd (fun g8 => ?_)
  refine wq_ddiv g8 dX13_ratio_15 ?_
  exact wq_dret rfl rfl dX13_ratio_16

theorem ln_RX13_467 : Cond.methodLink RX13 467 yJxf58ca_floatToIntBits_5c35a ∈ lw_good := li_9 103 (by decide +kernel) (by decide +kernel)
noncomputable def f_M_meanBits  (I : Mem) : Option ((Int) × Mem) :=
ltI (sI I 26 0 7 0) fun J1 =>
bnd (f_M_textLong J1) fun x4 J3 =>
bnd (f_M_many 0 J3) fun x7 J6 =>
if (FP.fdiv (FP.i2f (Int32.ofInt x4)) (FP.i2f (Int32.ofInt x7))) &&& (0x7fffffff : UInt32) ≤ 0x7f800000 then
if Op.cmpValue (FP.fcmp (FP.fdiv (FP.i2f (Int32.ofInt x4)) (FP.i2f (Int32.ofInt x7))) (FP.fdiv (FP.i2f (Int32.ofInt x4)) (FP.i2f (Int32.ofInt x7)))) .l = 0 then
some (((FP.fdiv (FP.i2f (Int32.ofInt x4)) (FP.i2f (Int32.ofInt x7))).toInt32).toInt, J6)
else none
else none
set_option maxRecDepth 20000 in
theorem R_M_meanBits (Z : ZT)  (I : Mem) (r : Int) (J : Mem) (hf : f_M_meanBits I = some (r, J)) : Runs Z yX13_meanBits cX13_meanBits 1 (some .int) 5 [vr Z 26 0] I (some (vi r), J) := by
  refine Runs.of (rv := fun x => some (vi x)) (by decide +kernel) (Nat.le_of_ble_eq_true rfl) hf (fun gr => ?_)
  unfold f_M_meanBits
  refine WQ.loc [0] (lv' := [(0, vr Z 26 0)]) rfl ?_
  refine wq_aload_n dX13_meanBits_0 0 rfl rfl ?_
  refine wq_iconst dX13_meanBits_1 ?_
  refine p_26_7 ln_RX13_100 dX13_meanBits_2 (fun J1 => ?_)
  refine wq_aload_n dX13_meanBits_5 0 rfl rfl ?_
  refine wq_cVi M_M_textLong (R_M_textLong Z _) ob_26 rfl rfl (by decide) (by decide) (Nat.le_of_ble_eq_true rfl) ln_RX13_422 dX13_meanBits_6 (fun gr2 x4 J3 => ?_)
  refine wq_i2f dX13_meanBits_9 ?_
  refine wq_aload_n dX13_meanBits_10 0 rfl rfl ?_
  refine wq_iconst dX13_meanBits_11 ?_
  refine wq_cVi M_M_many (R_M_many Z 0 _) ob_26 rfl rfl (by decide) (by decide) (Nat.le_of_ble_eq_true rfl) ln_RX13_103 dX13_meanBits_12 (fun gr5 x7 J6 => ?_)
  refine wq_i2f dX13_meanBits_15 ?_
  refine wq_grd (fun g8 => ?_)
  refine wq_fdiv g8 dX13_meanBits_16 ?_
  refine wq_grd (fun g9 => ?_)
  refine wq_pSX M_f2ib (R_f2ib Z _ g9 _) rfl rfl (by decide) (by decide) (Nat.le_of_ble_eq_true rfl) ln_RX13_467 dX13_meanBits_17 (fun gr10 => ?_)
  exact wq_iret rfl rfl dX13_meanBits_20

theorem ln_RX13_473 : Cond.constantLong RX13 473 (Int64.ofInt 31) ∈ lw_good := li_9 117 (by decide +kernel) (by decide +kernel)
noncomputable def f_M_digest_w15 (v3 : Int) (s : Int × Int) (I : Mem) : Option (((Int × Int) ⊕ (Int)) × Mem) :=
if (w32 s.2) < (w32 v3) then
if 0 ≤ (w32 s.2) ∧ (w32 s.2) < 401 then
some (.inl ((((s.1 * 31) + (w32 (I 27 7 (w32 s.2).toNat))) + 1), (s.2 + 1)), I)
else none
else
some (.inr s.1, I)

noncomputable def f_M_digest  (I : Mem) : Option ((Int) × Mem) :=
ltI (sI I 26 0 7 0) fun J1 =>
bnd (f_M_unfolds J1) fun x4 J3 =>
bnd (whl (f_M_digest_w15 x4) (1, 0) J3) fun r16 J17 =>
some (r16, J17)
set_option maxRecDepth 20000 in
theorem R_M_digest (Z : ZT)  (I : Mem) (r : Int) (J : Mem) (hf : f_M_digest I = some (r, J)) : Runs Z yX13_digest cX13_digest 5 (some .long) 3 [vr Z 26 0] I (some (vl r), J) := by
  refine Runs.of (rv := fun x => some (vl x)) (by decide +kernel) (Nat.le_of_ble_eq_true rfl) hf (fun gr => ?_)
  unfold f_M_digest
  refine WQ.loc [0] (lv' := [(0, vr Z 26 0)]) rfl ?_
  refine wq_aload_n dX13_digest_0 0 rfl rfl ?_
  refine wq_iconst dX13_digest_1 ?_
  refine p_26_7 ln_RX13_100 dX13_digest_2 (fun J1 => ?_)
  refine wq_lconst (v := 1) rfl dX13_digest_5 ?_
  refine wq_lstore_n (lv' := [(1, vl 1), (0, vr Z 26 0)]) dX13_digest_6 rfl (by decide) rfl ?_
  refine wq_aload_n dX13_digest_7 1 rfl rfl ?_
  refine wq_cVi M_M_unfolds (R_M_unfolds Z _) ob_26 rfl rfl (by decide) (by decide) (Nat.le_of_ble_eq_true rfl) ln_RX13_140 dX13_digest_8 (fun gr2 x4 J3 => ?_)
  refine wq_istore_n (lv' := [(3, vi x4), (1, vl 1), (0, vr Z 26 0)]) dX13_digest_11 rfl (by decide) rfl ?_
  refine wq_iconst dX13_digest_12 ?_
  refine wq_istore (lv' := [(4, vi 0), (3, vi x4), (1, vl 1), (0, vr Z 26 0)]) dX13_digest_13 (by decide) rfl ?_
  refine WQ.loc [3, 2, 1, 0] (lv' := [(0, vr Z 26 0), (1, vl 1), (3, vi x4), (4, vi 0)]) rfl ?_
  refine wq_loopS (fun s13 => [(0, vr Z 26 0), (1, vl s13.1), (3, vi x4), (4, vi s13.2)]) 44 (fun r16 => [(1, vl r16)]) (fun κ7 bk8 ex9 gr12 s13 J11 => ?_) (fun gr18 r16 J17 => ?_) gr2 _ rfl
  · unfold f_M_digest_w15
    refine wq_iload dX13_digest_15 3 rfl ?_
    refine wq_iload_n dX13_digest_17 2 rfl rfl ?_
    refine wq_icmp_ge 44 dX13_digest_18 (by decide) rfl rfl (fun c15 => ?_) (fun c15 => ?_)
    · refine wq_lload_n dX13_digest_21 1 rfl rfl ?_
      refine wq_ldc2 ln_RX13_473 dX13_digest_22 ?_
      refine wq_lmul dX13_digest_25 ?_
      refine wq_aload_n dX13_digest_26 0 rfl rfl ?_
      refine g_26_11 ln_RX13_37 dX13_digest_27 ?_
      refine wq_iload dX13_digest_30 3 rfl ?_
      refine wq_grd (fun g14 => ?_)
      refine wq_iald (k := 27) (i := 7) rfl (by decide) rfl rfl (m := 401) g14 (Nat.le_of_ble_eq_true rfl) dX13_digest_32 ?_
      refine wq_i2l dX13_digest_33 ?_
      refine wq_ladd dX13_digest_34 ?_
      refine wq_lconst (v := 1) rfl dX13_digest_35 ?_
      refine wq_ladd dX13_digest_36 ?_
      refine wq_lstore_n (lv' := [(1, vl (((s13.1 * 31) + (w32 (J11 27 7 (w32 s13.2).toNat))) + 1)), (0, vr Z 26 0), (3, vi x4), (4, vi s13.2)]) dX13_digest_37 rfl (by decide) rfl ?_
      refine wq_iinc (lv' := [(4, vi (s13.2 + 1)), (1, vl (((s13.1 * 31) + (w32 (J11 27 7 (w32 s13.2).toNat))) + 1)), (0, vr Z 26 0), (3, vi x4)]) dX13_digest_38 3 rfl (by decide) rfl ?_
      refine wq_goto 15 dX13_digest_41 (by decide) ?_
      exact WQ.loc [2, 1, 3, 0] rfl (bk8 _ _ _)
    · exact WQ.loc [1] rfl (ex9 _ _ _)
  · refine wq_lload_n dX13_digest_44 0 rfl rfl ?_
    exact wq_lret rfl rfl dX13_digest_45

theorem ln_RX10_102 : Cond.constantLong RX10 102 (Int64.ofInt 31) ∈ lw_good := li_5 63 (by decide +kernel) (by decide +kernel)
noncomputable def f_Sv_numberOfText_w4  (s : Int × Int) (I : Mem) : Option (((Int × Int) ⊕ (Int)) × Mem) :=
if (w32 s.2) < (w32 (I 5 0 7)) then
if 0 ≤ (w32 s.2) ∧ (w32 s.2) < 400 then
some (.inl ((((s.1 * 31) + (w32 (I 18 3 (w32 s.2).toNat))) + 1), (s.2 + 1)), I)
else none
else
some (.inr s.1, I)

noncomputable def f_Sv_numberOfText  (I : Mem) : Option ((Int) × Mem) :=
bnd (whl (f_Sv_numberOfText_w4) (1, 0) I) fun r12 J13 =>
some (r12, J13)
set_option maxRecDepth 20000 in
theorem R_Sv_numberOfText (Z : ZT)  (I : Mem) (r : Int) (J : Mem) (hf : f_Sv_numberOfText I = some (r, J)) : Runs Z yX10_numberOfText cX10_numberOfText 4 (some .long) 1 [vr Z 5 0] I (some (vl r), J) := by
  refine Runs.of (rv := fun x => some (vl x)) (by decide +kernel) (Nat.le_of_ble_eq_true rfl) hf (fun gr => ?_)
  unfold f_Sv_numberOfText
  refine WQ.loc [0] (lv' := [(0, vr Z 5 0)]) rfl ?_
  refine wq_lconst (v := 1) rfl dX10_numberOfText_0 ?_
  refine wq_lstore_n (lv' := [(1, vl 1), (0, vr Z 5 0)]) dX10_numberOfText_1 rfl (by decide) rfl ?_
  refine wq_iconst dX10_numberOfText_2 ?_
  refine wq_istore_n (lv' := [(3, vi 0), (1, vl 1), (0, vr Z 5 0)]) dX10_numberOfText_3 rfl (by decide) rfl ?_
  refine WQ.loc [2, 1, 0] (lv' := [(0, vr Z 5 0), (1, vl 1), (3, vi 0)]) rfl ?_
  refine wq_loopS (fun s9 => [(0, vr Z 5 0), (1, vl s9.1), (3, vi s9.2)]) 34 (fun r12 => [(1, vl r12)]) (fun κ3 bk4 ex5 gr8 s9 J7 => ?_) (fun gr14 r12 J13 => ?_) gr _ rfl
  · unfold f_Sv_numberOfText_w4
    refine wq_iload_n dX10_numberOfText_4 2 rfl rfl ?_
    refine wq_aload_n dX10_numberOfText_5 0 rfl rfl ?_
    refine g_5_7 ln_RX10_82 dX10_numberOfText_6 ?_
    refine wq_icmp_ge 34 dX10_numberOfText_9 (by decide) rfl rfl (fun c11 => ?_) (fun c11 => ?_)
    · refine wq_lload_n dX10_numberOfText_12 1 rfl rfl ?_
      refine wq_ldc2 ln_RX10_102 dX10_numberOfText_13 ?_
      refine wq_lmul dX10_numberOfText_16 ?_
      refine wq_aload_n dX10_numberOfText_17 0 rfl rfl ?_
      refine g_5_3 ln_RX10_21 dX10_numberOfText_18 ?_
      refine wq_iload_n dX10_numberOfText_21 2 rfl rfl ?_
      refine wq_grd (fun g10 => ?_)
      refine wq_iald (k := 18) (i := 3) rfl (by decide) rfl rfl (m := 400) g10 (by decide) dX10_numberOfText_22 ?_
      refine wq_i2l dX10_numberOfText_23 ?_
      refine wq_ladd dX10_numberOfText_24 ?_
      refine wq_lconst (v := 1) rfl dX10_numberOfText_25 ?_
      refine wq_ladd dX10_numberOfText_26 ?_
      refine wq_lstore_n (lv' := [(1, vl (((s9.1 * 31) + (w32 (J7 18 3 (w32 s9.2).toNat))) + 1)), (0, vr Z 5 0), (3, vi s9.2)]) dX10_numberOfText_27 rfl (by decide) rfl ?_
      refine wq_iinc (lv' := [(3, vi (s9.2 + 1)), (1, vl (((s9.1 * 31) + (w32 (J7 18 3 (w32 s9.2).toNat))) + 1)), (0, vr Z 5 0)]) dX10_numberOfText_28 2 rfl (by decide) rfl ?_
      refine wq_goto 4 dX10_numberOfText_31 (by decide) ?_
      exact WQ.loc [2, 1, 0] rfl (bk4 _ _ _)
    · exact WQ.loc [1] rfl (ex5 _ _ _)
  · refine wq_lload_n dX10_numberOfText_34 0 rfl rfl ?_
    exact wq_lret rfl rfl dX10_numberOfText_35

noncomputable def f_PR_ratio  (I : Mem) : Option ((UInt64) × Mem) :=
bnd (f_G_textLength 0 I) fun x3 J2 =>
if (w32 x3) < 1 then
some (FP.dconst0, J2)
else
bnd (f_G_totalSize 0 J2) fun x6 J5 =>
if (FP.ddiv (FP.i2d (Int32.ofInt x6)) (FP.i2d (Int32.ofInt x3))) &&& (0x7fffffffffffffff : UInt64) ≤ 0x7ff0000000000000 then
some ((FP.ddiv (FP.i2d (Int32.ofInt x6)) (FP.i2d (Int32.ofInt x3))), J5)
else none
set_option maxRecDepth 20000 in
theorem R_PR_ratio (Z : ZT)  (I : Mem) (r : UInt64) (J : Mem) (hf : f_PR_ratio I = some (r, J)) : Runs Z yX12_ratio cX12_ratio 2 (some .double) 3 [vr Z 0 0] I (some (.double r), J) := by
  refine Runs.of (rv := fun x => some (.double x)) (by decide +kernel) (Nat.le_of_ble_eq_true rfl) hf (fun gr => ?_)
  unfold f_PR_ratio
  refine WQ.loc [0] (lv' := [(0, vr Z 0 0)]) rfl ?_
  refine wq_aload_n dX12_ratio_0 0 rfl rfl ?_
  refine g_0_0 ln_RX12_12 dX12_ratio_1 ?_
  refine wq_cVi M_G_textLength (R_G_textLength Z 0 _) (ob_1 (by decide)) rfl rfl (by decide) (by decide) (Nat.le_of_ble_eq_true rfl) ln_RX12_122 dX12_ratio_4 (fun gr1 x3 J2 => ?_)
  refine wq_istore_n (lv' := [(1, vi x3), (0, vr Z 0 0)]) dX12_ratio_7 rfl (by decide) rfl ?_
  refine wq_iload_n dX12_ratio_8 0 rfl rfl ?_
  refine wq_iconst dX12_ratio_9 ?_
  refine wq_icmp_ge 17 dX12_ratio_10 (by decide) rfl rfl (fun c8 => ?_) (fun c8 => ?_)
  · refine wq_dconst0 dX12_ratio_13 ?_
    refine wq_goto 28 dX12_ratio_14 (by decide) ?_
    exact wq_dret rfl rfl dX12_ratio_28
  · refine wq_aload_n dX12_ratio_17 1 rfl rfl ?_
    refine g_0_0 ln_RX12_12 dX12_ratio_18 ?_
    refine wq_cVi M_G_totalSize (R_G_totalSize Z 0 _) (ob_1 (by decide)) rfl rfl (by decide) (by decide) (Nat.le_of_ble_eq_true rfl) ln_RX12_148 dX12_ratio_21 (fun gr4 x6 J5 => ?_)
    refine wq_i2d dX12_ratio_24 ?_
    refine wq_iload_n dX12_ratio_25 0 rfl rfl ?_
    refine wq_i2d dX12_ratio_26 ?_
    refine wq_grd (fun g7 => ?_)
    refine wq_ddiv g7 dX12_ratio_27 ?_
    exact wq_dret rfl rfl dX12_ratio_28

theorem M_PR_bitsOf : MwS yX12_bitsOf cX12_bitsOf 4 (some .int) 1 := ⟨li_5 52 (by decide +kernel) (by decide +kernel), li_5 51 (by decide +kernel) (by decide +kernel), li_1 1 (by decide +kernel) (by decide +kernel), by decide +kernel⟩
theorem ln_RX12_235 : Cond.methodLink RX12 235 yX12_bitsOf ∈ lw_good := li_5 50 (by decide +kernel) (by decide +kernel)
noncomputable def f_PR_meanBits  (I : Mem) : Option ((Int) × Mem) :=
if (w32 (I 2 (43 * 0) 1)) < 1 then
some (0, I)
else
bnd (f_G_textLength 0 I) fun x5 J4 =>
if (FP.fdiv (FP.i2f (Int32.ofInt x5)) (FP.i2f (Int32.ofInt (I 2 (43 * 0) 1)))) &&& (0x7fffffff : UInt32) ≤ 0x7f800000 then
bnd (f_PR_bitsOf (FP.fdiv (FP.i2f (Int32.ofInt x5)) (FP.i2f (Int32.ofInt (I 2 (43 * 0) 1)))) J4) fun x9 J8 =>
some (x9, J8)
else none
set_option maxRecDepth 20000 in
theorem R_PR_meanBits (Z : ZT)  (I : Mem) (r : Int) (J : Mem) (hf : f_PR_meanBits I = some (r, J)) : Runs Z yX12_meanBits cX12_meanBits 2 (some .int) 3 [vr Z 0 0] I (some (vi r), J) := by
  refine Runs.of (rv := fun x => some (vi x)) (by decide +kernel) (Nat.le_of_ble_eq_true rfl) hf (fun gr => ?_)
  unfold f_PR_meanBits
  refine WQ.loc [0] (lv' := [(0, vr Z 0 0)]) rfl ?_
  refine wq_aload_n dX12_meanBits_0 0 rfl rfl ?_
  refine g_0_0 ln_RX12_12 dX12_meanBits_1 ?_
  refine wq_pV (v := vr Z 2 (43 * 0)) M_G_startRow (R_G_startRow Z 0 _ _ _ (if_pos (by decide))) (ob_1 (by decide)) rfl rfl (by decide) (by decide) (Nat.le_of_ble_eq_true rfl) ln_RX12_138 dX12_meanBits_4 (fun gr1 => ?_)
  refine wq_pV (v := vi (I 2 (43 * 0) 1)) M_Row_many (R_Row_many Z (43 * 0) _ _ _ (if_pos (by omega))) (ob_2 (by omega)) rfl rfl (by decide) (by decide) (Nat.le_of_ble_eq_true rfl) ln_RX12_142 dX12_meanBits_7 (fun gr2 => ?_)
  refine wq_istore_n (lv' := [(1, vi (I 2 (43 * 0) 1)), (0, vr Z 0 0)]) dX12_meanBits_10 rfl (by decide) rfl ?_
  refine wq_iload_n dX12_meanBits_11 0 rfl rfl ?_
  refine wq_iconst dX12_meanBits_12 ?_
  refine wq_icmp_ge 20 dX12_meanBits_13 (by decide) rfl rfl (fun c10 => ?_) (fun c10 => ?_)
  · refine wq_iconst dX12_meanBits_16 ?_
    refine wq_goto 34 dX12_meanBits_17 (by decide) ?_
    exact wq_iret rfl rfl dX12_meanBits_34
  · refine wq_aload_n dX12_meanBits_20 1 rfl rfl ?_
    refine g_0_0 ln_RX12_12 dX12_meanBits_21 ?_
    refine wq_cVi M_G_textLength (R_G_textLength Z 0 _) (ob_1 (by decide)) rfl rfl (by decide) (by decide) (Nat.le_of_ble_eq_true rfl) ln_RX12_122 dX12_meanBits_24 (fun gr3 x5 J4 => ?_)
    refine wq_i2f dX12_meanBits_27 ?_
    refine wq_iload_n dX12_meanBits_28 0 rfl rfl ?_
    refine wq_i2f dX12_meanBits_29 ?_
    refine wq_grd (fun g6 => ?_)
    refine wq_fdiv g6 dX12_meanBits_30 ?_
    refine wq_cSi M_PR_bitsOf (R_PR_bitsOf Z (FP.fdiv (FP.i2f (Int32.ofInt x5)) (FP.i2f (Int32.ofInt (I 2 (43 * 0) 1)))) _) rfl rfl rfl (by decide) (by decide) (Nat.le_of_ble_eq_true rfl) ln_RX12_235 dX12_meanBits_31 (fun gr7 x9 J8 => ?_)
    exact wq_iret rfl rfl dX12_meanBits_34

theorem M_Sv_numberOfText : MwV yX10_numberOfText cX10_numberOfText 4 (some .long) 0 := ⟨li_5 62 (by decide +kernel) (by decide +kernel), li_5 60 (by decide +kernel) (by decide +kernel), li_5 61 (by decide +kernel) (by decide +kernel), li_1 6 (by decide +kernel) (by decide +kernel), by decide +kernel⟩
theorem ln_RX12_239 : Cond.methodLink RX12 239 yX10_numberOfText ∈ lw_good := li_5 59 (by decide +kernel) (by decide +kernel)
noncomputable def f_PR_digest  (I : Mem) : Option ((Int) × Mem) :=
bnd (f_Sv_unfold 0 I) fun _ J2 =>
bnd (f_Sv_numberOfText J2) fun x6 J5 =>
some (x6, J5)
set_option maxRecDepth 20000 in
theorem R_PR_digest (Z : ZT)  (I : Mem) (r : Int) (J : Mem) (hf : f_PR_digest I = some (r, J)) : Runs Z yX12_digest cX12_digest 1 (some .long) 3 [vr Z 0 0] I (some (vl r), J) := by
  refine Runs.of (rv := fun x => some (vl x)) (by decide +kernel) (Nat.le_of_ble_eq_true rfl) hf (fun gr => ?_)
  unfold f_PR_digest
  refine WQ.loc [0] (lv' := [(0, vr Z 0 0)]) rfl ?_
  refine wq_aload_n dX12_digest_0 0 rfl rfl ?_
  refine g_0_3 ln_RX12_29 dX12_digest_1 ?_
  refine wq_aload_n dX12_digest_4 0 rfl rfl ?_
  refine g_0_0 ln_RX12_12 dX12_digest_5 ?_
  refine wq_cVv M_Sv_unfold (R_Sv_unfold Z 0 _) ob_5 rfl rfl (by decide) (by decide) (Nat.le_of_ble_eq_true rfl) ln_RX12_105 dX12_digest_8 (fun gr1 _ J2 => ?_)
  refine wq_aload_n dX12_digest_11 0 rfl rfl ?_
  refine g_0_3 ln_RX12_29 dX12_digest_12 ?_
  refine wq_cVl M_Sv_numberOfText (R_Sv_numberOfText Z _) ob_5 rfl rfl (by decide) (by decide) (Nat.le_of_ble_eq_true rfl) ln_RX12_239 dX12_digest_15 (fun gr4 x6 J5 => ?_)
  exact wq_lret rfl rfl dX12_digest_18
