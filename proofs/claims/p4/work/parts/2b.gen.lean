noncomputable def f_Sv_addComings_w2 (v1 : Nat) (v2 : Int) (s : Int) (I : Mem) : Option (((Int) ⊕ (Unit)) × Mem) :=
if (w32 s) < (w32 (I 2 v1 1)) then
bnd (f_Row_at v1 s I) fun x4 J3 =>
if (w32 (x4 - 26)) < 0 then
some (.inl (s + 1), J3)
else
if (w32 (x4 - 26)) < 40 then
if 0 ≤ (w32 (x4 - 26)) ∧ (w32 (x4 - 26)) < 40 then
ltI (sI J3 18 2 (w32 (x4 - 26)).toNat ((J3 18 2 (w32 (x4 - 26)).toNat) + v2)) fun J6 =>
some (.inl (s + 1), J6)
else none
else
some (.inl (s + 1), J3)
else
some (.inr (), I)

noncomputable def f_Sv_addComings (a1 : Nat) (a2 : Int) (I : Mem) : Option ((Unit) × Mem) :=
if a1 < 516 then
bnd (whl (f_Sv_addComings_w2 a1 a2) 0 I) fun r26 J27 =>
some ((), J27)
else none
set_option maxRecDepth 20000 in
theorem R_Sv_addComings (Z : ZT) (a1 : Nat) (a2 : Int) (I : Mem) (r : Unit) (J : Mem) (hf : f_Sv_addComings a1 a2 I = some (r, J)) : Runs Z yX10_addComings cX10_addComings 5 (none) 2 [vr Z 5 0, vr Z 2 a1, vi a2] I (none, J) := by
  refine Runs.of (rv := fun _ => none) (by decide +kernel) (Nat.le_of_ble_eq_true rfl) hf (fun gr => ?_)
  unfold f_Sv_addComings
  refine WQ.loc [0, 1, 2] (lv' := [(0, vr Z 5 0), (1, vr Z 2 a1), (2, vi a2)]) rfl ?_
  refine wq_grd (fun h1 => ?_)
  refine wq_iconst dX10_addComings_0 ?_
  refine wq_istore_n (lv' := [(3, vi 0), (0, vr Z 5 0), (1, vr Z 2 a1), (2, vi a2)]) dX10_addComings_1 rfl (by decide) rfl ?_
  refine WQ.loc [1, 2, 3, 0] (lv' := [(0, vr Z 5 0), (1, vr Z 2 a1), (2, vi a2), (3, vi 0)]) rfl ?_
  refine wq_loopS (fun s16 => [(0, vr Z 5 0), (1, vr Z 2 a1), (2, vi a2), (3, vi s16)]) 49 (fun _ => []) (fun κ10 bk11 ex12 gr15 s16 J14 => ?_) (fun gr28 r26 J27 => ?_) gr _ rfl
  · unfold f_Sv_addComings_w2
    refine wq_iload_n dX10_addComings_2 3 rfl rfl ?_
    refine wq_aload_n dX10_addComings_3 1 rfl rfl ?_
    refine wq_pV (v := vi (J14 2 a1 1)) M_Row_many (R_Row_many Z a1 _ _ _ (if_pos h1)) (ob_2 h1) rfl rfl (by decide) (by decide) (Nat.le_of_ble_eq_true rfl) ln_RX10_56 dX10_addComings_4 (fun gr17 => ?_)
    refine wq_icmp_ge 49 dX10_addComings_7 (by decide) rfl rfl (fun c25 => ?_) (fun c25 => ?_)
    · refine wq_aload_n dX10_addComings_10 1 rfl rfl ?_
      refine wq_iload_n dX10_addComings_11 3 rfl rfl ?_
      refine wq_cVi M_Row_at (R_Row_at Z a1 s16 _) (ob_2 h1) rfl rfl (by decide) (by decide) (Nat.le_of_ble_eq_true rfl) ln_RX10_62 dX10_addComings_12 (fun gr18 x20 J19 => ?_)
      refine wq_bipush dX10_addComings_15 (by decide) ?_
      refine wq_isub dX10_addComings_17 ?_
      refine wq_istore (lv' := [(4, vi (x20 - 26)), (0, vr Z 5 0), (1, vr Z 2 a1), (2, vi a2), (3, vi s16)]) dX10_addComings_18 (by decide) rfl ?_
      refine wq_iload dX10_addComings_20 0 rfl ?_
      refine wq_if_lt 43 dX10_addComings_22 (by decide) rfl (fun c24 => ?_) (fun c24 => ?_)
      · refine wq_iinc (lv' := [(3, vi (s16 + 1)), (4, vi (x20 - 26)), (0, vr Z 5 0), (1, vr Z 2 a1), (2, vi a2)]) dX10_addComings_43 4 rfl (by decide) rfl ?_
        refine wq_goto 2 dX10_addComings_46 (by decide) ?_
        exact WQ.loc [2, 3, 4, 0] rfl (bk11 _ _ _)
      · refine wq_iload dX10_addComings_25 0 rfl ?_
        refine wq_bipush dX10_addComings_27 (by decide) ?_
        refine wq_icmp_ge 43 dX10_addComings_29 (by decide) rfl rfl (fun c23 => ?_) (fun c23 => ?_)
        · refine wq_aload_n dX10_addComings_32 1 rfl rfl ?_
          refine g_5_2 ln_RX10_18 dX10_addComings_33 ?_
          refine wq_iload dX10_addComings_36 0 rfl ?_
          refine wq_dup2 dX10_addComings_38 rfl rfl ?_
          refine wq_grd (fun g21 => ?_)
          refine wq_iald (k := 18) (i := 2) rfl (by decide) rfl rfl (m := 40) g21 (by decide) dX10_addComings_39 ?_
          refine wq_iload_n dX10_addComings_40 3 rfl rfl ?_
          refine wq_iadd dX10_addComings_41 ?_
          refine wq_iast (k := 18) (i := 2) (fun _ _ => rfl) (by decide) rfl rfl (m := 40) g21 (by decide) (by decide) (by decide) (by decide) dX10_addComings_42 (fun J22 => ?_)
          refine wq_iinc (lv' := [(3, vi (s16 + 1)), (4, vi (x20 - 26)), (0, vr Z 5 0), (1, vr Z 2 a1), (2, vi a2)]) dX10_addComings_43 4 rfl (by decide) rfl ?_
          refine wq_goto 2 dX10_addComings_46 (by decide) ?_
          exact WQ.loc [2, 3, 4, 0] rfl (bk11 _ _ _)
        · refine wq_iinc (lv' := [(3, vi (s16 + 1)), (4, vi (x20 - 26)), (0, vr Z 5 0), (1, vr Z 2 a1), (2, vi a2)]) dX10_addComings_43 4 rfl (by decide) rfl ?_
          refine wq_goto 2 dX10_addComings_46 (by decide) ?_
          exact WQ.loc [2, 3, 4, 0] rfl (bk11 _ _ _)
    · exact WQ.loc [] rfl (ex12 _ _ _)
  · exact wq_vret rfl rfl dX10_addComings_49

theorem ln_RX10_82 : Cond.fieldLink RX10 82 RX10 "manyLetters" "I" ∈ lw_good := li_1 153 (by decide +kernel) (by decide +kernel)
theorem ln_RX10_21 : Cond.fieldLink RX10 21 RX10 "text" "[I" ∈ lw_good := li_1 149 (by decide +kernel) (by decide +kernel)
noncomputable def f_Sv_addLetter (a1 : Int) (I : Mem) : Option ((Unit) × Mem) :=
if (w32 (I 5 0 7)) < 400 then
if 0 ≤ (w32 (I 5 0 7)) ∧ (w32 (I 5 0 7)) < 400 then
ltI (sI I 18 3 (w32 (I 5 0 7)).toNat a1) fun J2 =>
ltI (sI J2 5 0 7 ((J2 5 0 7) + 1)) fun J3 =>
some ((), J3)
else none
else
some ((), I)
set_option maxRecDepth 20000 in
theorem R_Sv_addLetter (Z : ZT) (a1 : Int) (I : Mem) (r : Unit) (J : Mem) (hf : f_Sv_addLetter a1 I = some (r, J)) : Runs Z yX10_addLetter cX10_addLetter 2 (none) 1 [vr Z 5 0, vi a1] I (none, J) := by
  refine Runs.of (rv := fun _ => none) (by decide +kernel) (Nat.le_of_ble_eq_true rfl) hf (fun gr => ?_)
  unfold f_Sv_addLetter
  refine WQ.loc [0, 1] (lv' := [(0, vr Z 5 0), (1, vi a1)]) rfl ?_
  refine wq_aload_n dX10_addLetter_0 0 rfl rfl ?_
  refine g_5_7 ln_RX10_82 dX10_addLetter_1 ?_
  refine wq_sipush dX10_addLetter_4 (by decide) ?_
  refine wq_icmp_ge 30 dX10_addLetter_7 (by decide) rfl rfl (fun c4 => ?_) (fun c4 => ?_)
  · refine wq_aload_n dX10_addLetter_10 0 rfl rfl ?_
    refine g_5_3 ln_RX10_21 dX10_addLetter_11 ?_
    refine wq_aload_n dX10_addLetter_14 0 rfl rfl ?_
    refine g_5_7 ln_RX10_82 dX10_addLetter_15 ?_
    refine wq_iload_n dX10_addLetter_18 1 rfl rfl ?_
    refine wq_grd (fun g1 => ?_)
    refine wq_iast (k := 18) (i := 3) (fun _ _ => rfl) (by decide) rfl rfl (m := 400) g1 (by decide) (by decide) (by decide) (by decide) dX10_addLetter_19 (fun J2 => ?_)
    refine wq_aload_n dX10_addLetter_20 0 rfl rfl ?_
    refine wq_dup dX10_addLetter_21 rfl ?_
    refine g_5_7 ln_RX10_82 dX10_addLetter_22 ?_
    refine wq_iconst dX10_addLetter_25 ?_
    refine wq_iadd dX10_addLetter_26 ?_
    refine p_5_7 ln_RX10_82 dX10_addLetter_27 (fun J3 => ?_)
    exact wq_vret rfl rfl dX10_addLetter_30
  · exact wq_vret rfl rfl dX10_addLetter_30

noncomputable def f_Sv_timesOfLetter_w4 (v1 : Int) (s : Int × Int) (I : Mem) : Option (((Int × Int) ⊕ (Int)) × Mem) :=
if (w32 s.2) < (w32 (I 5 0 7)) then
if 0 ≤ (w32 s.2) ∧ (w32 s.2) < 400 then
some (.inl ((s.1 + (if (w32 (I 18 3 (w32 s.2).toNat)) = (w32 v1) then 1 else 0)), (s.2 + 1)), I)
else none
else
some (.inr s.1, I)

noncomputable def f_Sv_timesOfLetter (a1 : Int) (I : Mem) : Option ((Int) × Mem) :=
bnd (whl (f_Sv_timesOfLetter_w4 a1) (0, 0) I) fun r16 J17 =>
some (r16, J17)
set_option maxRecDepth 20000 in
theorem R_Sv_timesOfLetter (Z : ZT) (a1 : Int) (I : Mem) (r : Int) (J : Mem) (hf : f_Sv_timesOfLetter a1 I = some (r, J)) : Runs Z yX10_timesOfLetter cX10_timesOfLetter 4 (some .int) 1 [vr Z 5 0, vi a1] I (some (vi r), J) := by
  refine Runs.of (rv := fun x => some (vi x)) (by decide +kernel) (Nat.le_of_ble_eq_true rfl) hf (fun gr => ?_)
  unfold f_Sv_timesOfLetter
  refine WQ.loc [0, 1] (lv' := [(0, vr Z 5 0), (1, vi a1)]) rfl ?_
  refine wq_iconst dX10_timesOfLetter_0 ?_
  refine wq_istore_n (lv' := [(2, vi 0), (0, vr Z 5 0), (1, vi a1)]) dX10_timesOfLetter_1 rfl (by decide) rfl ?_
  refine wq_iconst dX10_timesOfLetter_2 ?_
  refine wq_istore_n (lv' := [(3, vi 0), (2, vi 0), (0, vr Z 5 0), (1, vi a1)]) dX10_timesOfLetter_3 rfl (by decide) rfl ?_
  refine WQ.loc [2, 3, 1, 0] (lv' := [(0, vr Z 5 0), (1, vi a1), (2, vi 0), (3, vi 0)]) rfl ?_
  refine wq_loopS (fun s11 => [(0, vr Z 5 0), (1, vi a1), (2, vi s11.1), (3, vi s11.2)]) 36 (fun r16 => [(2, vi r16)]) (fun κ5 bk6 ex7 gr10 s11 J9 => ?_) (fun gr18 r16 J17 => ?_) gr _ rfl
  · unfold f_Sv_timesOfLetter_w4
    refine wq_iload_n dX10_timesOfLetter_4 3 rfl rfl ?_
    refine wq_aload_n dX10_timesOfLetter_5 0 rfl rfl ?_
    refine g_5_7 ln_RX10_82 dX10_timesOfLetter_6 ?_
    refine wq_icmp_ge 36 dX10_timesOfLetter_9 (by decide) rfl rfl (fun c15 => ?_) (fun c15 => ?_)
    · refine wq_iload_n dX10_timesOfLetter_12 2 rfl rfl ?_
      refine wq_aload_n dX10_timesOfLetter_13 0 rfl rfl ?_
      refine g_5_3 ln_RX10_21 dX10_timesOfLetter_14 ?_
      refine wq_iload_n dX10_timesOfLetter_17 3 rfl rfl ?_
      refine wq_grd (fun g12 => ?_)
      refine wq_iald (k := 18) (i := 3) rfl (by decide) rfl rfl (m := 400) g12 (by decide) dX10_timesOfLetter_18 ?_
      refine wq_iload_n dX10_timesOfLetter_19 1 rfl rfl ?_
      refine WQ.via 28 [vi (if (w32 (J9 18 3 (w32 s11.2).toNat)) = (w32 a1) then 1 else 0), vi s11.1] (by
          refine wq_iadd dX10_timesOfLetter_28 ?_
          refine wq_istore_n (lv' := [(2, vi (s11.1 + (if (w32 (J9 18 3 (w32 s11.2).toNat)) = (w32 a1) then 1 else 0))), (0, vr Z 5 0), (1, vi a1), (3, vi s11.2)]) dX10_timesOfLetter_29 rfl (by decide) rfl ?_
          refine wq_iinc (lv' := [(3, vi (s11.2 + 1)), (2, vi (s11.1 + (if (w32 (J9 18 3 (w32 s11.2).toNat)) = (w32 a1) then 1 else 0))), (0, vr Z 5 0), (1, vi a1)]) dX10_timesOfLetter_30 3 rfl (by decide) rfl ?_
          refine wq_goto 4 dX10_timesOfLetter_33 (by decide) ?_
          exact WQ.loc [2, 3, 1, 0] rfl (bk6 _ _ _)) (fun hj13 => ?_)
      refine WQ.both ((w32 (J9 18 3 (w32 s11.2).toNat)) = (w32 a1)) ?_
      refine wq_icmp_ne 27 dX10_timesOfLetter_20 (by decide) rfl rfl (fun c14 => ?_) (fun c14 => ?_)
      · refine wq_iconst dX10_timesOfLetter_23 ?_
        refine wq_goto 28 dX10_timesOfLetter_24 (by decide) ?_
        exact WQ.top (if_pos c14) hj13
      · refine wq_iconst dX10_timesOfLetter_27 ?_
        exact WQ.top (if_neg c14) hj13
    · exact WQ.loc [2] rfl (ex7 _ _ _)
  · refine wq_iload_n dX10_timesOfLetter_36 0 rfl rfl ?_
    exact wq_iret rfl rfl dX10_timesOfLetter_37

theorem M_Sv_timesOfLetter : MwV yX10_timesOfLetter cX10_timesOfLetter 4 (some .int) 1 := ⟨li_5 178 (by decide +kernel) (by decide +kernel), li_5 176 (by decide +kernel) (by decide +kernel), li_5 177 (by decide +kernel) (by decide +kernel), li_1 6 (by decide +kernel) (by decide +kernel), by decide +kernel⟩
theorem ln_RX10_96 : Cond.methodLink RX10 96 yX10_timesOfLetter ∈ lw_good := li_5 175 (by decide +kernel) (by decide +kernel)
noncomputable def f_Sv_unlikeLetters_w4  (s : Int × Int) (I : Mem) : Option (((Int × Int) ⊕ (Int)) × Mem) :=
if (w32 s.2) < 26 then
bnd (f_Sv_timesOfLetter s.2 I) fun x3 J2 =>
some (.inl ((s.1 + (if 0 < (w32 x3) then 1 else 0)), (s.2 + 1)), J2)
else
some (.inr s.1, I)

noncomputable def f_Sv_unlikeLetters  (I : Mem) : Option ((Int) × Mem) :=
bnd (whl (f_Sv_unlikeLetters_w4) (0, 0) I) fun r20 J21 =>
some (r20, J21)
set_option maxRecDepth 20000 in
theorem R_Sv_unlikeLetters (Z : ZT)  (I : Mem) (r : Int) (J : Mem) (hf : f_Sv_unlikeLetters I = some (r, J)) : Runs Z yX10_unlikeLetters cX10_unlikeLetters 3 (some .int) 2 [vr Z 5 0] I (some (vi r), J) := by
  refine Runs.of (rv := fun x => some (vi x)) (by decide +kernel) (Nat.le_of_ble_eq_true rfl) hf (fun gr => ?_)
  unfold f_Sv_unlikeLetters
  refine WQ.loc [0] (lv' := [(0, vr Z 5 0)]) rfl ?_
  refine wq_iconst dX10_unlikeLetters_0 ?_
  refine wq_istore_n (lv' := [(1, vi 0), (0, vr Z 5 0)]) dX10_unlikeLetters_1 rfl (by decide) rfl ?_
  refine wq_iconst dX10_unlikeLetters_2 ?_
  refine wq_istore_n (lv' := [(2, vi 0), (1, vi 0), (0, vr Z 5 0)]) dX10_unlikeLetters_3 rfl (by decide) rfl ?_
  refine WQ.loc [2, 1, 0] (lv' := [(0, vr Z 5 0), (1, vi 0), (2, vi 0)]) rfl ?_
  refine wq_loopS (fun s13 => [(0, vr Z 5 0), (1, vi s13.1), (2, vi s13.2)]) 32 (fun r20 => [(1, vi r20)]) (fun κ7 bk8 ex9 gr12 s13 J11 => ?_) (fun gr22 r20 J21 => ?_) gr _ rfl
  · unfold f_Sv_unlikeLetters_w4
    refine wq_iload_n dX10_unlikeLetters_4 2 rfl rfl ?_
    refine wq_bipush dX10_unlikeLetters_5 (by decide) ?_
    refine wq_icmp_ge 32 dX10_unlikeLetters_7 (by decide) rfl rfl (fun c19 => ?_) (fun c19 => ?_)
    · refine wq_iload_n dX10_unlikeLetters_10 1 rfl rfl ?_
      refine wq_aload_n dX10_unlikeLetters_11 0 rfl rfl ?_
      refine wq_iload_n dX10_unlikeLetters_12 2 rfl rfl ?_
      refine wq_cVi M_Sv_timesOfLetter (R_Sv_timesOfLetter Z s13.2 _) ob_5 rfl rfl (by decide) (by decide) (Nat.le_of_ble_eq_true rfl) ln_RX10_96 dX10_unlikeLetters_13 (fun gr14 x16 J15 => ?_)
      refine WQ.via 24 [vi (if 0 < (w32 x16) then 1 else 0), vi s13.1] (by
          refine wq_iadd dX10_unlikeLetters_24 ?_
          refine wq_istore_n (lv' := [(1, vi (s13.1 + (if 0 < (w32 x16) then 1 else 0))), (0, vr Z 5 0), (2, vi s13.2)]) dX10_unlikeLetters_25 rfl (by decide) rfl ?_
          refine wq_iinc (lv' := [(2, vi (s13.2 + 1)), (1, vi (s13.1 + (if 0 < (w32 x16) then 1 else 0))), (0, vr Z 5 0)]) dX10_unlikeLetters_26 2 rfl (by decide) rfl ?_
          refine wq_goto 4 dX10_unlikeLetters_29 (by decide) ?_
          exact WQ.loc [2, 1, 0] rfl (bk8 _ _ _)) (fun hj17 => ?_)
      refine WQ.both (0 < (w32 x16)) ?_
      refine wq_if_le 23 dX10_unlikeLetters_16 (by decide) rfl (fun c18 => ?_) (fun c18 => ?_)
      · refine wq_iconst dX10_unlikeLetters_19 ?_
        refine wq_goto 24 dX10_unlikeLetters_20 (by decide) ?_
        exact WQ.top (if_pos c18) hj17
      · refine wq_iconst dX10_unlikeLetters_23 ?_
        exact WQ.top (if_neg c18) hj17
    · exact WQ.loc [1] rfl (ex9 _ _ _)
  · refine wq_iload_n dX10_unlikeLetters_32 0 rfl rfl ?_
    exact wq_iret rfl rfl dX10_unlikeLetters_33

theorem ln_RX10_99 : Cond.methodLink RX10 99 Lib.Math.min.name ∈ lw_good := li_5 19 (by decide +kernel) (by decide +kernel)
noncomputable def f_Sv_unlike_w29 (v1 : Nat) (v2 : Int) (s : Int × Int) (I : Mem) : Option (((Int × Int) ⊕ (Int)) × Mem) :=
if (w32 s.2) < (w32 v2) then
if 0 ≤ (w32 s.2) ∧ (w32 s.2) < 400 then
bnd (f_Row_at v1 s.2 I) fun x6 J5 =>
some (.inl ((s.1 + (if (w32 (I 18 3 (w32 s.2).toNat)) = (w32 x6) then 0 else 1)), (s.2 + 1)), J5)
else none
else
some (.inr s.1, I)

noncomputable def f_Sv_unlike (a1 : Nat) (I : Mem) : Option ((Int) × Mem) :=
if a1 < 516 then
bnd (whl (f_Sv_unlike_w29 a1 (imn (I 5 0 7) (I 2 a1 1))) (((imx (I 5 0 7) (I 2 a1 1)) - (imn (I 5 0 7) (I 2 a1 1))), 0) I) fun r24 J25 =>
some (r24, J25)
else none
set_option maxRecDepth 20000 in
theorem R_Sv_unlike (Z : ZT) (a1 : Nat) (I : Mem) (r : Int) (J : Mem) (hf : f_Sv_unlike a1 I = some (r, J)) : Runs Z yX10_unlike cX10_unlike 5 (some .int) 2 [vr Z 5 0, vr Z 2 a1] I (some (vi r), J) := by
  refine Runs.of (rv := fun x => some (vi x)) (by decide +kernel) (Nat.le_of_ble_eq_true rfl) hf (fun gr => ?_)
  unfold f_Sv_unlike
  refine WQ.loc [0, 1] (lv' := [(0, vr Z 5 0), (1, vr Z 2 a1)]) rfl ?_
  refine wq_grd (fun h1 => ?_)
  refine wq_aload_n dX10_unlike_0 0 rfl rfl ?_
  refine g_5_7 ln_RX10_82 dX10_unlike_1 ?_
  refine wq_aload_n dX10_unlike_4 1 rfl rfl ?_
  refine wq_pV (v := vi (I 2 a1 1)) M_Row_many (R_Row_many Z a1 _ _ _ (if_pos h1)) (ob_2 h1) rfl rfl (by decide) (by decide) (Nat.le_of_ble_eq_true rfl) ln_RX10_56 dX10_unlike_5 (fun gr1 => ?_)
  refine wq_min (by decide) (Nat.le_of_ble_eq_true rfl) ln_RX10_99 mt_min_s mt_i mt_min_c dX10_unlike_8 ?_
  refine wq_istore_n (lv' := [(2, vi (imn (I 5 0 7) (I 2 a1 1))), (0, vr Z 5 0), (1, vr Z 2 a1)]) dX10_unlike_11 rfl (by decide) rfl ?_
  refine wq_aload_n dX10_unlike_12 1 rfl rfl ?_
  refine g_5_7 ln_RX10_82 dX10_unlike_13 ?_
  refine wq_aload_n dX10_unlike_16 2 rfl rfl ?_
  refine wq_pV (v := vi (I 2 a1 1)) M_Row_many (R_Row_many Z a1 _ _ _ (if_pos h1)) (ob_2 h1) rfl rfl (by decide) (by decide) (Nat.le_of_ble_eq_true rfl) ln_RX10_56 dX10_unlike_17 (fun gr2 => ?_)
  refine wq_max (by decide) (Nat.le_of_ble_eq_true rfl) ln_RX10_69 mt_max_s mt_i mt_max_c dX10_unlike_20 ?_
  refine wq_iload_n dX10_unlike_23 0 rfl rfl ?_
  refine wq_isub dX10_unlike_24 ?_
  refine wq_istore_n (lv' := [(3, vi ((imx (I 5 0 7) (I 2 a1 1)) - (imn (I 5 0 7) (I 2 a1 1)))), (2, vi (imn (I 5 0 7) (I 2 a1 1))), (0, vr Z 5 0), (1, vr Z 2 a1)]) dX10_unlike_25 rfl (by decide) rfl ?_
  refine wq_iconst dX10_unlike_26 ?_
  refine wq_istore (lv' := [(4, vi 0), (3, vi ((imx (I 5 0 7) (I 2 a1 1)) - (imn (I 5 0 7) (I 2 a1 1)))), (2, vi (imn (I 5 0 7) (I 2 a1 1))), (0, vr Z 5 0), (1, vr Z 2 a1)]) dX10_unlike_27 (by decide) rfl ?_
  refine WQ.loc [3, 4, 2, 1, 0] (lv' := [(0, vr Z 5 0), (1, vr Z 2 a1), (2, vi (imn (I 5 0 7) (I 2 a1 1))), (3, vi ((imx (I 5 0 7) (I 2 a1 1)) - (imn (I 5 0 7) (I 2 a1 1)))), (4, vi 0)]) rfl ?_
  refine wq_loopS (fun s16 => [(0, vr Z 5 0), (1, vr Z 2 a1), (2, vi (imn (I 5 0 7) (I 2 a1 1))), (3, vi s16.1), (4, vi s16.2)]) 65 (fun r24 => [(3, vi r24)]) (fun κ10 bk11 ex12 gr15 s16 J14 => ?_) (fun gr26 r24 J25 => ?_) gr2 _ rfl
  · unfold f_Sv_unlike_w29
    refine wq_iload dX10_unlike_29 4 rfl ?_
    refine wq_iload_n dX10_unlike_31 2 rfl rfl ?_
    refine wq_icmp_ge 65 dX10_unlike_32 (by decide) rfl rfl (fun c23 => ?_) (fun c23 => ?_)
    · refine wq_iload_n dX10_unlike_35 3 rfl rfl ?_
      refine wq_aload_n dX10_unlike_36 0 rfl rfl ?_
      refine g_5_3 ln_RX10_21 dX10_unlike_37 ?_
      refine wq_iload dX10_unlike_40 4 rfl ?_
      refine wq_grd (fun g17 => ?_)
      refine wq_iald (k := 18) (i := 3) rfl (by decide) rfl rfl (m := 400) g17 (by decide) dX10_unlike_42 ?_
      refine wq_aload_n dX10_unlike_43 1 rfl rfl ?_
      refine wq_iload dX10_unlike_44 4 rfl ?_
      refine wq_cVi M_Row_at (R_Row_at Z a1 s16.2 _) (ob_2 h1) rfl rfl (by decide) (by decide) (Nat.le_of_ble_eq_true rfl) ln_RX10_62 dX10_unlike_46 (fun gr18 x20 J19 => ?_)
      refine WQ.via 57 [vi (if (w32 (J14 18 3 (w32 s16.2).toNat)) = (w32 x20) then 0 else 1), vi s16.1] (by
          refine wq_iadd dX10_unlike_57 ?_
          refine wq_istore_n (lv' := [(3, vi (s16.1 + (if (w32 (J14 18 3 (w32 s16.2).toNat)) = (w32 x20) then 0 else 1))), (0, vr Z 5 0), (1, vr Z 2 a1), (2, vi (imn (I 5 0 7) (I 2 a1 1))), (4, vi s16.2)]) dX10_unlike_58 rfl (by decide) rfl ?_
          refine wq_iinc (lv' := [(4, vi (s16.2 + 1)), (3, vi (s16.1 + (if (w32 (J14 18 3 (w32 s16.2).toNat)) = (w32 x20) then 0 else 1))), (0, vr Z 5 0), (1, vr Z 2 a1), (2, vi (imn (I 5 0 7) (I 2 a1 1)))]) dX10_unlike_59 4 rfl (by decide) rfl ?_
          refine wq_goto 29 dX10_unlike_62 (by decide) ?_
          exact WQ.loc [2, 3, 4, 1, 0] rfl (bk11 _ _ _)) (fun hj21 => ?_)
      refine WQ.both ((w32 (J14 18 3 (w32 s16.2).toNat)) = (w32 x20)) ?_
      refine wq_icmp_ne 56 dX10_unlike_49 (by decide) rfl rfl (fun c22 => ?_) (fun c22 => ?_)
      · refine wq_iconst dX10_unlike_52 ?_
        refine wq_goto 57 dX10_unlike_53 (by decide) ?_
        exact WQ.top (if_pos c22) hj21
      · refine wq_iconst dX10_unlike_56 ?_
        exact WQ.top (if_neg c22) hj21
    · exact WQ.loc [3] rfl (ex12 _ _ _)
  · refine wq_iload_n dX10_unlike_65 0 rfl rfl ?_
    exact wq_iret rfl rfl dX10_unlike_66

theorem ln_RX8_15 : Cond.fieldLink RX8 15 RX8 "many" "I" ∈ lw_good := li_1 178 (by decide +kernel) (by decide +kernel)
noncomputable def f_Src_many  (I : Mem) : Option ((Int) × Mem) :=
some ((I 6 0 1), I)
set_option maxRecDepth 20000 in
theorem R_Src_many (Z : ZT)  (I : Mem) (r : Int) (J : Mem) (hf : f_Src_many I = some (r, J)) : Runs Z yX8_many cX8_many 1 (some .int) 1 [vr Z 6 0] I (some (vi r), J) := by
  refine Runs.of (rv := fun x => some (vi x)) (by decide +kernel) (Nat.le_of_ble_eq_true rfl) hf (fun gr => ?_)
  unfold f_Src_many
  refine WQ.loc [0] (lv' := [(0, vr Z 6 0)]) rfl ?_
  refine wq_aload_n dX8_many_0 0 rfl rfl ?_
  refine g_6_1 ln_RX8_15 dX8_many_1 ?_
  exact wq_iret rfl rfl dX8_many_4

noncomputable def f_Src_dropAll  (I : Mem) : Option ((Unit) × Mem) :=
ltI (sI I 6 0 1 0) fun J1 =>
some ((), J1)
set_option maxRecDepth 20000 in
theorem R_Src_dropAll (Z : ZT)  (I : Mem) (r : Unit) (J : Mem) (hf : f_Src_dropAll I = some (r, J)) : Runs Z yX8_dropAll cX8_dropAll 1 (none) 1 [vr Z 6 0] I (none, J) := by
  refine Runs.of (rv := fun _ => none) (by decide +kernel) (Nat.le_of_ble_eq_true rfl) hf (fun gr => ?_)
  unfold f_Src_dropAll
  refine WQ.loc [0] (lv' := [(0, vr Z 6 0)]) rfl ?_
  refine wq_aload_n dX8_dropAll_0 0 rfl rfl ?_
  refine wq_iconst dX8_dropAll_1 ?_
  refine p_6_1 ln_RX8_15 dX8_dropAll_2 (fun J1 => ?_)
  exact wq_vret rfl rfl dX8_dropAll_5

noncomputable def f_Src_bytesIn_w5 (v1 : Int) (s : Int × Int) (I : Mem) : Option (((Int × Int) ⊕ (Int)) × Mem) :=
if (w32 s.2) < 0 then
some (.inr s.1, I)
else
some (.inl ((s.1 + (if (w32 (ian (ius v1 s.2) 255)) = 0 then 0 else 1)), (s.2 + (-8))), I)

noncomputable def f_Src_bytesIn (a1 : Int) (I : Mem) : Option ((Int) × Mem) :=
bnd (whl (f_Src_bytesIn_w5 a1) (0, 24) I) fun r14 J15 =>
some (r14, J15)
set_option maxRecDepth 20000 in
theorem R_Src_bytesIn (Z : ZT) (a1 : Int) (I : Mem) (r : Int) (J : Mem) (hf : f_Src_bytesIn a1 I = some (r, J)) : Runs Z yX8_bytesIn cX8_bytesIn 4 (some .int) 1 [vr Z 6 0, vi a1] I (some (vi r), J) := by
  refine Runs.of (rv := fun x => some (vi x)) (by decide +kernel) (Nat.le_of_ble_eq_true rfl) hf (fun gr => ?_)
  unfold f_Src_bytesIn
  refine WQ.loc [0, 1] (lv' := [(0, vr Z 6 0), (1, vi a1)]) rfl ?_
  refine wq_iconst dX8_bytesIn_0 ?_
  refine wq_istore_n (lv' := [(2, vi 0), (0, vr Z 6 0), (1, vi a1)]) dX8_bytesIn_1 rfl (by decide) rfl ?_
  refine wq_bipush dX8_bytesIn_2 (by decide) ?_
  refine wq_istore_n (lv' := [(3, vi 24), (2, vi 0), (0, vr Z 6 0), (1, vi a1)]) dX8_bytesIn_4 rfl (by decide) rfl ?_
  refine WQ.loc [3, 1, 0] (lv' := [(1, vi a1), (2, vi 0), (3, vi 24)]) rfl ?_
  refine wq_loopS (fun s10 => [(1, vi a1), (2, vi s10.1), (3, vi s10.2)]) 33 (fun r14 => [(2, vi r14)]) (fun κ4 bk5 ex6 gr9 s10 J8 => ?_) (fun gr16 r14 J15 => ?_) gr _ rfl
  · unfold f_Src_bytesIn_w5
    refine wq_iload_n dX8_bytesIn_5 2 rfl rfl ?_
    refine wq_if_lt 33 dX8_bytesIn_6 (by decide) rfl (fun c13 => ?_) (fun c13 => ?_)
    · exact WQ.loc [1] rfl (ex6 _ _ _)
    · refine wq_iload_n dX8_bytesIn_9 1 rfl rfl ?_
      refine wq_iload_n dX8_bytesIn_10 0 rfl rfl ?_
      refine wq_iload_n dX8_bytesIn_11 2 rfl rfl ?_
      refine wq_iushr dX8_bytesIn_12 ?_
      refine wq_sipush dX8_bytesIn_13 (by decide) ?_
      refine wq_iand dX8_bytesIn_16 ?_
      refine WQ.via 25 [vi (if (w32 (ian (ius a1 s10.2) 255)) = 0 then 0 else 1), vi s10.1] (by
          refine wq_iadd dX8_bytesIn_25 ?_
          refine wq_istore_n (lv' := [(2, vi (s10.1 + (if (w32 (ian (ius a1 s10.2) 255)) = 0 then 0 else 1))), (1, vi a1), (3, vi s10.2)]) dX8_bytesIn_26 rfl (by decide) rfl ?_
          refine wq_iinc (lv' := [(3, vi (s10.2 + (-8))), (2, vi (s10.1 + (if (w32 (ian (ius a1 s10.2) 255)) = 0 then 0 else 1))), (1, vi a1)]) dX8_bytesIn_27 2 rfl (by decide) rfl ?_
          refine wq_goto 5 dX8_bytesIn_30 (by decide) ?_
          exact WQ.loc [2, 1, 0] rfl (bk5 _ _ _)) (fun hj11 => ?_)
      refine WQ.both ((w32 (ian (ius a1 s10.2) 255)) = 0) ?_
      refine wq_if_eq 24 dX8_bytesIn_17 (by decide) rfl (fun c12 => ?_) (fun c12 => ?_)
      · refine wq_iconst dX8_bytesIn_24 ?_
        exact WQ.top (if_pos c12) hj11
      · refine wq_iconst dX8_bytesIn_20 ?_
        refine wq_goto 25 dX8_bytesIn_21 (by decide) ?_
        exact WQ.top (if_neg c12) hj11
  · refine wq_iload_n dX8_bytesIn_33 0 rfl rfl ?_
    exact wq_iret rfl rfl dX8_bytesIn_34

noncomputable def f_Src_hasRoomFor (a1 : Int) (I : Mem) : Option ((Int) × Mem) :=
if 600 < (w32 ((I 6 0 1) + a1)) then
some (0, I)
else
some (1, I)
set_option maxRecDepth 20000 in
theorem R_Src_hasRoomFor (Z : ZT) (a1 : Int) (I : Mem) (r : Int) (J : Mem) (hf : f_Src_hasRoomFor a1 I = some (r, J)) : Runs Z yX8_hasRoomFor cX8_hasRoomFor 2 (some .boolean) 1 [vr Z 6 0, vi a1] I (some (vi r), J) := by
  refine Runs.of (rv := fun x => some (vi x)) (by decide +kernel) (Nat.le_of_ble_eq_true rfl) hf (fun gr => ?_)
  unfold f_Src_hasRoomFor
  refine WQ.loc [0, 1] (lv' := [(0, vr Z 6 0), (1, vi a1)]) rfl ?_
  refine wq_aload_n dX8_hasRoomFor_0 0 rfl rfl ?_
  refine g_6_1 ln_RX8_15 dX8_hasRoomFor_1 ?_
  refine wq_iload_n dX8_hasRoomFor_4 1 rfl rfl ?_
  refine wq_iadd dX8_hasRoomFor_5 ?_
  refine wq_sipush dX8_hasRoomFor_6 (by decide) ?_
  refine wq_icmp_gt 16 dX8_hasRoomFor_9 (by decide) rfl rfl (fun c1 => ?_) (fun c1 => ?_)
  · refine wq_iconst dX8_hasRoomFor_16 ?_
    exact wq_zret rfl (by decide) rfl dX8_hasRoomFor_17
  · refine wq_iconst dX8_hasRoomFor_12 ?_
    refine wq_goto 17 dX8_hasRoomFor_13 (by decide) ?_
    exact wq_zret rfl (by decide) rfl dX8_hasRoomFor_17

theorem ln_RX8_9 : Cond.fieldLink RX8 9 RX8 "bytes" "[I" ∈ lw_good := li_1 177 (by decide +kernel) (by decide +kernel)
noncomputable def f_Src_take_w3 (v1 : Int) (s : Int) (I : Mem) : Option (((Int) ⊕ (Unit)) × Mem) :=
if (w32 s) < 0 then
some (.inr (), I)
else
if (w32 (ian (ius v1 s) 255)) = 0 then
some (.inl (s + (-8)), I)
else
if (w32 (I 6 0 1)) < 600 then
if 0 ≤ (w32 (I 6 0 1)) ∧ (w32 (I 6 0 1)) < 600 then
ltI (sI I 19 0 (w32 (I 6 0 1)).toNat (ian (ius v1 s) 255)) fun J2 =>
ltI (sI J2 6 0 1 ((J2 6 0 1) + 1)) fun J3 =>
some (.inl (s + (-8)), J3)
else none
else
some (.inl (s + (-8)), I)

noncomputable def f_Src_take (a1 : Int) (I : Mem) : Option ((Unit) × Mem) :=
bnd (whl (f_Src_take_w3 a1) 24 I) fun r20 J21 =>
some ((), J21)
set_option maxRecDepth 20000 in
theorem R_Src_take (Z : ZT) (a1 : Int) (I : Mem) (r : Unit) (J : Mem) (hf : f_Src_take a1 I = some (r, J)) : Runs Z yX8_take cX8_take 4 (none) 1 [vr Z 6 0, vi a1] I (none, J) := by
  refine Runs.of (rv := fun _ => none) (by decide +kernel) (Nat.le_of_ble_eq_true rfl) hf (fun gr => ?_)
  unfold f_Src_take
  refine WQ.loc [0, 1] (lv' := [(0, vr Z 6 0), (1, vi a1)]) rfl ?_
  refine wq_bipush dX8_take_0 (by decide) ?_
  refine wq_istore_n (lv' := [(2, vi 24), (0, vr Z 6 0), (1, vi a1)]) dX8_take_2 rfl (by decide) rfl ?_
  refine WQ.loc [1, 2, 0] (lv' := [(0, vr Z 6 0), (1, vi a1), (2, vi 24)]) rfl ?_
  refine wq_loopS (fun s13 => [(0, vr Z 6 0), (1, vi a1), (2, vi s13)]) 55 (fun _ => []) (fun κ7 bk8 ex9 gr12 s13 J11 => ?_) (fun gr22 r20 J21 => ?_) gr _ rfl
  · unfold f_Src_take_w3
    refine wq_iload_n dX8_take_3 2 rfl rfl ?_
    refine wq_if_lt 55 dX8_take_4 (by decide) rfl (fun c19 => ?_) (fun c19 => ?_)
    · exact WQ.loc [] rfl (ex9 _ _ _)
    · refine wq_iload_n dX8_take_7 1 rfl rfl ?_
      refine wq_iload_n dX8_take_8 2 rfl rfl ?_
      refine wq_iushr dX8_take_9 ?_
      refine wq_sipush dX8_take_10 (by decide) ?_
      refine wq_iand dX8_take_13 ?_
      refine wq_istore_n (lv' := [(3, vi (ian (ius a1 s13) 255)), (0, vr Z 6 0), (1, vi a1), (2, vi s13)]) dX8_take_14 rfl (by decide) rfl ?_
      refine wq_iload_n dX8_take_15 0 rfl rfl ?_
      refine wq_if_eq 49 dX8_take_16 (by decide) rfl (fun c18 => ?_) (fun c18 => ?_)
      · refine wq_iinc (lv' := [(2, vi (s13 + (-8))), (3, vi (ian (ius a1 s13) 255)), (0, vr Z 6 0), (1, vi a1)]) dX8_take_49 3 rfl (by decide) rfl ?_
        refine wq_goto 3 dX8_take_52 (by decide) ?_
        exact WQ.loc [2, 3, 0] rfl (bk8 _ _ _)
      · refine wq_aload_n dX8_take_19 1 rfl rfl ?_
        refine g_6_1 ln_RX8_15 dX8_take_20 ?_
        refine wq_sipush dX8_take_23 (by decide) ?_
        refine wq_icmp_ge 49 dX8_take_26 (by decide) rfl rfl (fun c17 => ?_) (fun c17 => ?_)
        · refine wq_aload_n dX8_take_29 1 rfl rfl ?_
          refine g_6_0 ln_RX8_9 dX8_take_30 ?_
          refine wq_aload_n dX8_take_33 1 rfl rfl ?_
          refine g_6_1 ln_RX8_15 dX8_take_34 ?_
          refine wq_iload_n dX8_take_37 0 rfl rfl ?_
          refine wq_grd (fun g14 => ?_)
          refine wq_iast (k := 19) (i := 0) (fun _ _ => rfl) (by decide) rfl rfl (m := 600) g14 (Nat.le_refl _) (by decide) (by decide) (by decide) dX8_take_38 (fun J15 => ?_)
          refine wq_aload_n dX8_take_39 1 rfl rfl ?_
          refine wq_dup dX8_take_40 rfl ?_
          refine g_6_1 ln_RX8_15 dX8_take_41 ?_
          refine wq_iconst dX8_take_44 ?_
          refine wq_iadd dX8_take_45 ?_
          refine p_6_1 ln_RX8_15 dX8_take_46 (fun J16 => ?_)
          refine wq_iinc (lv' := [(2, vi (s13 + (-8))), (3, vi (ian (ius a1 s13) 255)), (0, vr Z 6 0), (1, vi a1)]) dX8_take_49 3 rfl (by decide) rfl ?_
          refine wq_goto 3 dX8_take_52 (by decide) ?_
          exact WQ.loc [2, 3, 0] rfl (bk8 _ _ _)
        · refine wq_iinc (lv' := [(2, vi (s13 + (-8))), (3, vi (ian (ius a1 s13) 255)), (0, vr Z 6 0), (1, vi a1)]) dX8_take_49 3 rfl (by decide) rfl ?_
          refine wq_goto 3 dX8_take_52 (by decide) ?_
          exact WQ.loc [2, 3, 0] rfl (bk8 _ _ _)
  · exact wq_vret rfl rfl dX8_take_55

noncomputable def f_Src_byteAt (a1 : Int) (I : Mem) : Option ((Int) × Mem) :=
if (w32 a1) < 0 then
some (0, I)
else
if (w32 a1) < 600 then
if 0 ≤ (w32 a1) ∧ (w32 a1) < 600 then
some ((I 19 0 (w32 a1).toNat), I)
else none
else
some (0, I)
set_option maxRecDepth 20000 in
theorem R_Src_byteAt (Z : ZT) (a1 : Int) (I : Mem) (r : Int) (J : Mem) (hf : f_Src_byteAt a1 I = some (r, J)) : Runs Z yX8_byteAt cX8_byteAt 2 (some .int) 1 [vr Z 6 0, vi a1] I (some (vi r), J) := by
  refine Runs.of (rv := fun x => some (vi x)) (by decide +kernel) (Nat.le_of_ble_eq_true rfl) hf (fun gr => ?_)
  unfold f_Src_byteAt
  refine WQ.loc [0, 1] (lv' := [(0, vr Z 6 0), (1, vi a1)]) rfl ?_
  refine wq_iload_n dX8_byteAt_0 1 rfl rfl ?_
  refine wq_if_lt 20 dX8_byteAt_1 (by decide) rfl (fun c3 => ?_) (fun c3 => ?_)
  · refine wq_iconst dX8_byteAt_20 ?_
    exact wq_iret rfl rfl dX8_byteAt_21
  · refine wq_iload_n dX8_byteAt_4 1 rfl rfl ?_
    refine wq_sipush dX8_byteAt_5 (by decide) ?_
    refine wq_icmp_ge 20 dX8_byteAt_8 (by decide) rfl rfl (fun c2 => ?_) (fun c2 => ?_)
    · refine wq_aload_n dX8_byteAt_11 0 rfl rfl ?_
      refine g_6_0 ln_RX8_9 dX8_byteAt_12 ?_
      refine wq_iload_n dX8_byteAt_15 1 rfl rfl ?_
      refine wq_grd (fun g1 => ?_)
      refine wq_iald (k := 19) (i := 0) rfl (by decide) rfl rfl (m := 600) g1 (Nat.le_refl _) dX8_byteAt_16 ?_
      refine wq_goto 21 dX8_byteAt_17 (by decide) ?_
      exact wq_iret rfl rfl dX8_byteAt_21
    · refine wq_iconst dX8_byteAt_20 ?_
      exact wq_iret rfl rfl dX8_byteAt_21

noncomputable def f_Src_kindOf_j28 (v1 : Int)   (I : Mem) : Option ((Int) × Mem) :=
if (w32 v1) = 40 then
some (4, I)
else if (w32 v1) = 41 then
some (5, I)
else if (w32 v1) = 59 then
some (3, I)
else some (6, I)

noncomputable def f_Src_kindOf_j14 (v1 : Int)   (I : Mem) : Option ((Int) × Mem) :=
if (w32 v1) < 48 then
f_Src_kindOf_j28 v1 I
else
if 57 < (w32 v1) then
f_Src_kindOf_j28 v1 I
else
some (2, I)

noncomputable def f_Src_kindOf (a1 : Int) (I : Mem) : Option ((Int) × Mem) :=
if (w32 a1) < 97 then
f_Src_kindOf_j14 a1 I
else
if 122 < (w32 a1) then
f_Src_kindOf_j14 a1 I
else
some (1, I)
set_option maxRecDepth 20000 in
theorem R_Src_kindOf (Z : ZT) (a1 : Int) (I : Mem) (r : Int) (J : Mem) (hf : f_Src_kindOf a1 I = some (r, J)) : Runs Z yX8_kindOf cX8_kindOf 2 (some .int) 1 [vr Z 6 0, vi a1] I (some (vi r), J) := by
  refine Runs.of (rv := fun x => some (vi x)) (by decide +kernel) (Nat.le_of_ble_eq_true rfl) hf (fun gr => ?_)
  unfold f_Src_kindOf
  refine WQ.loc [0, 1] (lv' := [(0, vr Z 6 0), (1, vi a1)]) rfl ?_
  refine wq_iload_n dX8_kindOf_0 1 rfl rfl ?_
  refine wq_bipush dX8_kindOf_1 (by decide) ?_
  have hj1 : ∀ (gr16 : Nat → Nat)   (J15 : Mem), WQ Z (yX8_kindOf, cX8_kindOf, 2, some .int, 1) I gr16 14 [(1, vi a1)] [] J15 (f_Src_kindOf_j14 a1 J15) (fun b K => some (.inl ((fun x => some (vi x)) b), K)) := by
    intro gr16 J15
    unfold f_Src_kindOf_j14
    refine wq_iload_n dX8_kindOf_14 0 rfl rfl ?_
    refine wq_bipush dX8_kindOf_15 (by decide) ?_
    have hj17 : ∀ (gr21 : Nat → Nat)   (J20 : Mem), WQ Z (yX8_kindOf, cX8_kindOf, 2, some .int, 1) I gr21 28 [(1, vi a1)] [] J20 (f_Src_kindOf_j28 a1 J20) (fun b K => some (.inl ((fun x => some (vi x)) b), K)) := by
      intro gr21 J20
      unfold f_Src_kindOf_j28
      refine wq_iload_n dX8_kindOf_28 0 rfl rfl ?_
      refine WQ.split (fun c22 => ?_) (fun c22 => ?_)
      · refine wq_look (off := 37) 66 dX8_kindOf_29 rfl (by decide) (by generalize (w32 a1) = z at c22 ⊢; simp [Op.lookupswitch.offset, c22]) (by decide) ?_
        refine wq_iconst dX8_kindOf_66 ?_
        exact wq_iret rfl rfl dX8_kindOf_67
      · skip
        refine WQ.split (fun c23 => ?_) (fun c23 => ?_)
        · refine wq_look (off := 39) 68 dX8_kindOf_29 rfl (by decide) (by generalize (w32 a1) = z at c23 ⊢; simp [Op.lookupswitch.offset, c23]) (by decide) ?_
          refine wq_iconst dX8_kindOf_68 ?_
          exact wq_iret rfl rfl dX8_kindOf_69
        · skip
          refine WQ.split (fun c24 => ?_) (fun c24 => ?_)
          · refine wq_look (off := 35) 64 dX8_kindOf_29 rfl (by decide) (by generalize (w32 a1) = z at c24 ⊢; simp [Op.lookupswitch.offset, c24]) (by decide) ?_
            refine wq_iconst dX8_kindOf_64 ?_
            exact wq_iret rfl rfl dX8_kindOf_65
          · skip
            refine wq_look (off := 41) 70 dX8_kindOf_29 rfl (by decide) (by generalize (w32 a1) = z at c22 c23 c24 ⊢; simp [Op.lookupswitch.offset, Ne.symm c22, Ne.symm c23, Ne.symm c24]) (by decide) ?_
            refine wq_bipush dX8_kindOf_70 (by decide) ?_
            exact wq_iret rfl rfl dX8_kindOf_72
    refine wq_icmp_lt 28 dX8_kindOf_17 (by decide) rfl rfl (fun c19 => ?_) (fun c19 => ?_)
    · exact WQ.loc [0] rfl (hj17 _   _)
    · refine wq_iload_n dX8_kindOf_20 0 rfl rfl ?_
      refine wq_bipush dX8_kindOf_21 (by decide) ?_
      refine wq_icmp_gt 28 dX8_kindOf_23 (by decide) rfl rfl (fun c18 => ?_) (fun c18 => ?_)
      · exact WQ.loc [0] rfl (hj17 _   _)
      · refine wq_iconst dX8_kindOf_26 ?_
        exact wq_iret rfl rfl dX8_kindOf_27
  refine wq_icmp_lt 14 dX8_kindOf_3 (by decide) rfl rfl (fun c3 => ?_) (fun c3 => ?_)
  · exact WQ.loc [1] rfl (hj1 _   _)
  · refine wq_iload_n dX8_kindOf_6 1 rfl rfl ?_
    refine wq_bipush dX8_kindOf_7 (by decide) ?_
    refine wq_icmp_gt 14 dX8_kindOf_9 (by decide) rfl rfl (fun c2 => ?_) (fun c2 => ?_)
    · exact WQ.loc [1] rfl (hj1 _   _)
    · refine wq_iconst dX8_kindOf_12 ?_
      exact wq_iret rfl rfl dX8_kindOf_13

theorem ln_RX8_38 : Cond.fieldLink RX8 38 RX8 "kind" "I" ∈ lw_good := li_1 179 (by decide +kernel) (by decide +kernel)
noncomputable def f_Src_is (a1 : Int) (I : Mem) : Option ((Int) × Mem) :=
if (w32 (I 6 0 2)) = (w32 a1) then
some (1, I)
else
some (0, I)
set_option maxRecDepth 20000 in
theorem R_Src_is (Z : ZT) (a1 : Int) (I : Mem) (r : Int) (J : Mem) (hf : f_Src_is a1 I = some (r, J)) : Runs Z yX8_is cX8_is 2 (some .boolean) 1 [vr Z 6 0, vi a1] I (some (vi r), J) := by
  refine Runs.of (rv := fun x => some (vi x)) (by decide +kernel) (Nat.le_of_ble_eq_true rfl) hf (fun gr => ?_)
  unfold f_Src_is
  refine WQ.loc [0, 1] (lv' := [(0, vr Z 6 0), (1, vi a1)]) rfl ?_
  refine wq_aload_n dX8_is_0 0 rfl rfl ?_
  refine g_6_2 ln_RX8_38 dX8_is_1 ?_
  refine wq_iload_n dX8_is_4 1 rfl rfl ?_
  refine wq_icmp_ne 12 dX8_is_5 (by decide) rfl rfl (fun c1 => ?_) (fun c1 => ?_)
  · refine wq_iconst dX8_is_8 ?_
    refine wq_goto 13 dX8_is_9 (by decide) ?_
    exact wq_zret rfl (by decide) rfl dX8_is_13
  · refine wq_iconst dX8_is_12 ?_
    exact wq_zret rfl (by decide) rfl dX8_is_13

theorem ln_RX8_31 : Cond.fieldLink RX8 31 RX8 "from" "I" ∈ lw_good := li_1 180 (by decide +kernel) (by decide +kernel)
noncomputable def f_Src_from  (I : Mem) : Option ((Int) × Mem) :=
some ((I 6 0 3), I)
set_option maxRecDepth 20000 in
theorem R_Src_from (Z : ZT)  (I : Mem) (r : Int) (J : Mem) (hf : f_Src_from I = some (r, J)) : Runs Z yX8_from cX8_from 1 (some .int) 1 [vr Z 6 0] I (some (vi r), J) := by
  refine Runs.of (rv := fun x => some (vi x)) (by decide +kernel) (Nat.le_of_ble_eq_true rfl) hf (fun gr => ?_)
  unfold f_Src_from
  refine WQ.loc [0] (lv' := [(0, vr Z 6 0)]) rfl ?_
  refine wq_aload_n dX8_from_0 0 rfl rfl ?_
  refine g_6_3 ln_RX8_31 dX8_from_1 ?_
  exact wq_iret rfl rfl dX8_from_4

theorem ln_RX8_19 : Cond.fieldLink RX8 19 RX8 "to" "I" ∈ lw_good := li_1 181 (by decide +kernel) (by decide +kernel)
noncomputable def f_Src_manyInToken  (I : Mem) : Option ((Int) × Mem) :=
some (((I 6 0 4) - (I 6 0 3)), I)
set_option maxRecDepth 20000 in
theorem R_Src_manyInToken (Z : ZT)  (I : Mem) (r : Int) (J : Mem) (hf : f_Src_manyInToken I = some (r, J)) : Runs Z yX8_manyInToken cX8_manyInToken 1 (some .int) 1 [vr Z 6 0] I (some (vi r), J) := by
  refine Runs.of (rv := fun x => some (vi x)) (by decide +kernel) (Nat.le_of_ble_eq_true rfl) hf (fun gr => ?_)
  unfold f_Src_manyInToken
  refine WQ.loc [0] (lv' := [(0, vr Z 6 0)]) rfl ?_
  refine wq_aload_n dX8_manyInToken_0 0 rfl rfl ?_
  refine g_6_4 ln_RX8_19 dX8_manyInToken_1 ?_
  refine wq_aload_n dX8_manyInToken_4 0 rfl rfl ?_
  refine g_6_3 ln_RX8_31 dX8_manyInToken_5 ?_
  refine wq_isub dX8_manyInToken_8 ?_
  exact wq_iret rfl rfl dX8_manyInToken_9

theorem ln_RX8_59 : Cond.methodLink RX8 59 yJ0_length_8abf5 ∈ lw_good := li_2 186 (by decide +kernel) (by decide +kernel)
theorem M_Src_byteAt : MwV yX8_byteAt cX8_byteAt 2 (some .int) 1 := ⟨li_2 199 (by decide +kernel) (by decide +kernel), li_2 197 (by decide +kernel) (by decide +kernel), li_2 198 (by decide +kernel) (by decide +kernel), li_1 7 (by decide +kernel) (by decide +kernel), by decide +kernel⟩
theorem ln_RX8_68 : Cond.methodLink RX8 68 yJ0_charAt_5068e ∈ lw_good := li_2 200 (by decide +kernel) (by decide +kernel)
theorem ln_RX8_65 : Cond.methodLink RX8 65 yX8_byteAt ∈ lw_good := li_2 196 (by decide +kernel) (by decide +kernel)
noncomputable def f_Src_spells_w20 (v1 : Nat) (s : Int) (I : Mem) : Option (((Int) ⊕ (Int)) × Mem) :=
if (w32 s) < (w32 (wLen v1)) then
bnd (f_Src_byteAt ((I 6 0 3) + s) I) fun x5 J4 =>
if 0 ≤ (w32 s) ∧ (w32 s) < wLen v1 then
if (w32 x5) = (w32 (wAt v1 (w32 s).toNat)) then
some (.inl (s + 1), J4)
else
some (.inr (0), J4)
else none
else
some (.inr (1), I)

noncomputable def f_Src_spells (a1 : Nat) (I : Mem) : Option ((Int) × Mem) :=
if a1 < 15 then
if (w32 (wLen a1)) = (w32 ((I 6 0 4) - (I 6 0 3))) then
whl (f_Src_spells_w20 a1) 0 I
else
some (0, I)
else none
set_option maxRecDepth 20000 in
theorem R_Src_spells (Z : ZT) (a1 : Nat) (I : Mem) (r : Int) (J : Mem) (hf : f_Src_spells a1 I = some (r, J)) : Runs Z yX8_spells cX8_spells 3 (some .boolean) 5 [vr Z 6 0, vr Z 34 a1] I (some (vi r), J) := by
  refine Runs.of (rv := fun x => some (vi x)) (by decide +kernel) (Nat.le_of_ble_eq_true rfl) hf (fun gr => ?_)
  unfold f_Src_spells
  refine WQ.loc [0, 1] (lv' := [(0, vr Z 6 0), (1, vr Z 34 a1)]) rfl ?_
  refine wq_grd (fun h1 => ?_)
  refine wq_aload_n dX8_spells_0 1 rfl rfl ?_
  refine wq_strlen h1 (by decide) (Nat.le_of_ble_eq_true rfl) ln_RX8_59 dX8_spells_1 (fun gr1 => ?_)
  refine wq_aload_n dX8_spells_4 0 rfl rfl ?_
  refine g_6_4 ln_RX8_19 dX8_spells_5 ?_
  refine wq_aload_n dX8_spells_8 0 rfl rfl ?_
  refine g_6_3 ln_RX8_31 dX8_spells_9 ?_
  refine wq_isub dX8_spells_12 ?_
  refine wq_icmp_eq 18 dX8_spells_13 (by decide) rfl rfl (fun c25 => ?_) (fun c25 => ?_)
  · refine wq_iconst dX8_spells_18 ?_
    refine wq_istore_n (lv' := [(2, vi 0), (0, vr Z 6 0), (1, vr Z 34 a1)]) dX8_spells_19 rfl (by decide) rfl ?_
    refine WQ.loc [1, 2, 0] (lv' := [(0, vr Z 6 0), (1, vr Z 34 a1), (2, vi 0)]) rfl ?_
    refine wq_loop (fun s16 => [(0, vr Z 6 0), (1, vr Z 34 a1), (2, vi s16)]) (fun κ10 bk11 hr13 gr15 s16 J14 => ?_) gr1 _ rfl
    unfold f_Src_spells_w20
    refine wq_iload_n dX8_spells_20 2 rfl rfl ?_
    refine wq_aload_n dX8_spells_21 1 rfl rfl ?_
    refine wq_strlen h1 (by decide) (Nat.le_of_ble_eq_true rfl) ln_RX8_59 dX8_spells_22 (fun gr17 => ?_)
    refine wq_icmp_ge 54 dX8_spells_25 (by decide) rfl rfl (fun c24 => ?_) (fun c24 => ?_)
    · refine wq_aload_n dX8_spells_28 0 rfl rfl ?_
      refine wq_aload_n dX8_spells_29 0 rfl rfl ?_
      refine g_6_3 ln_RX8_31 dX8_spells_30 ?_
      refine wq_iload_n dX8_spells_33 2 rfl rfl ?_
      refine wq_iadd dX8_spells_34 ?_
      refine wq_cVi M_Src_byteAt (R_Src_byteAt Z ((J14 6 0 3) + s16) _) ob_6 rfl rfl (by decide) (by decide) (Nat.le_of_ble_eq_true rfl) ln_RX8_65 dX8_spells_35 (fun gr18 x20 J19 => ?_)
      refine wq_aload_n dX8_spells_38 1 rfl rfl ?_
      refine wq_iload_n dX8_spells_39 2 rfl rfl ?_
      refine wq_grd (fun g22 => ?_)
      refine wq_charAt h1 rfl g22 (by decide) (Nat.le_of_ble_eq_true rfl) ln_RX8_68 dX8_spells_40 (fun gr21 => ?_)
      refine wq_icmp_eq 48 dX8_spells_43 (by decide) rfl rfl (fun c23 => ?_) (fun c23 => ?_)
      · refine wq_iinc (lv' := [(2, vi (s16 + 1)), (0, vr Z 6 0), (1, vr Z 34 a1)]) dX8_spells_48 2 rfl (by decide) rfl ?_
        refine wq_goto 20 dX8_spells_51 (by decide) ?_
        exact WQ.loc [1, 2, 0] rfl (bk11 _ _ _)
      · refine wq_iconst dX8_spells_46 ?_
        exact wq_zret rfl (by decide) ((hr13 _ _).trans rfl) dX8_spells_47
    · refine wq_iconst dX8_spells_54 ?_
      exact wq_zret rfl (by decide) ((hr13 _ _).trans rfl) dX8_spells_55
  · refine wq_iconst dX8_spells_16 ?_
    exact wq_zret rfl (by decide) rfl dX8_spells_17

theorem ln_RX8_76 : Cond.fieldLink RX8 76 RX8 "value" "I" ∈ lw_good := li_1 182 (by decide +kernel) (by decide +kernel)
noncomputable def f_Src_value  (I : Mem) : Option ((Int) × Mem) :=
some ((I 6 0 5), I)
set_option maxRecDepth 20000 in
theorem R_Src_value (Z : ZT)  (I : Mem) (r : Int) (J : Mem) (hf : f_Src_value I = some (r, J)) : Runs Z yX8_value cX8_value 1 (some .int) 1 [vr Z 6 0] I (some (vi r), J) := by
  refine Runs.of (rv := fun x => some (vi x)) (by decide +kernel) (Nat.le_of_ble_eq_true rfl) hf (fun gr => ?_)
  unfold f_Src_value
  refine WQ.loc [0] (lv' := [(0, vr Z 6 0)]) rfl ?_
  refine wq_aload_n dX8_value_0 0 rfl rfl ?_
  refine g_6_5 ln_RX8_76 dX8_value_1 ?_
  exact wq_iret rfl rfl dX8_value_4

theorem ln_RX8_22 : Cond.fieldLink RX8 22 RX8 "errorCode" "I" ∈ lw_good := li_1 183 (by decide +kernel) (by decide +kernel)
theorem ln_RX8_25 : Cond.fieldLink RX8 25 RX8 "errorAt" "I" ∈ lw_good := li_1 184 (by decide +kernel) (by decide +kernel)
noncomputable def f_Src_failAt (a1 : Int) (a2 : Int) (I : Mem) : Option ((Int) × Mem) :=
ltI (sI I 6 0 6 a1) fun J1 =>
ltI (sI J1 6 0 7 a2) fun J2 =>
some (0, J2)
set_option maxRecDepth 20000 in
theorem R_Src_failAt (Z : ZT) (a1 : Int) (a2 : Int) (I : Mem) (r : Int) (J : Mem) (hf : f_Src_failAt a1 a2 I = some (r, J)) : Runs Z yX8_failAt cX8_failAt 3 (some .boolean) 1 [vr Z 6 0, vi a1, vi a2] I (some (vi r), J) := by
  refine Runs.of (rv := fun x => some (vi x)) (by decide +kernel) (Nat.le_of_ble_eq_true rfl) hf (fun gr => ?_)
  unfold f_Src_failAt
  refine WQ.loc [0, 1, 2] (lv' := [(0, vr Z 6 0), (1, vi a1), (2, vi a2)]) rfl ?_
  refine wq_aload_n dX8_failAt_0 0 rfl rfl ?_
  refine wq_iload_n dX8_failAt_1 1 rfl rfl ?_
  refine p_6_6 ln_RX8_22 dX8_failAt_2 (fun J1 => ?_)
  refine wq_aload_n dX8_failAt_5 0 rfl rfl ?_
  refine wq_iload_n dX8_failAt_6 2 rfl rfl ?_
  refine p_6_7 ln_RX8_25 dX8_failAt_7 (fun J2 => ?_)
  refine wq_iconst dX8_failAt_10 ?_
  exact wq_zret rfl (by decide) rfl dX8_failAt_11

noncomputable def f_Src_errorCode  (I : Mem) : Option ((Int) × Mem) :=
some ((I 6 0 6), I)
set_option maxRecDepth 20000 in
theorem R_Src_errorCode (Z : ZT)  (I : Mem) (r : Int) (J : Mem) (hf : f_Src_errorCode I = some (r, J)) : Runs Z yX8_errorCode cX8_errorCode 1 (some .int) 1 [vr Z 6 0] I (some (vi r), J) := by
  refine Runs.of (rv := fun x => some (vi x)) (by decide +kernel) (Nat.le_of_ble_eq_true rfl) hf (fun gr => ?_)
  unfold f_Src_errorCode
  refine WQ.loc [0] (lv' := [(0, vr Z 6 0)]) rfl ?_
  refine wq_aload_n dX8_errorCode_0 0 rfl rfl ?_
  refine g_6_6 ln_RX8_22 dX8_errorCode_1 ?_
  exact wq_iret rfl rfl dX8_errorCode_4

noncomputable def f_Src_errorAt  (I : Mem) : Option ((Int) × Mem) :=
some ((I 6 0 7), I)
set_option maxRecDepth 20000 in
theorem R_Src_errorAt (Z : ZT)  (I : Mem) (r : Int) (J : Mem) (hf : f_Src_errorAt I = some (r, J)) : Runs Z yX8_errorAt cX8_errorAt 1 (some .int) 1 [vr Z 6 0] I (some (vi r), J) := by
  refine Runs.of (rv := fun x => some (vi x)) (by decide +kernel) (Nat.le_of_ble_eq_true rfl) hf (fun gr => ?_)
  unfold f_Src_errorAt
  refine WQ.loc [0] (lv' := [(0, vr Z 6 0)]) rfl ?_
  refine wq_aload_n dX8_errorAt_0 0 rfl rfl ?_
  refine g_6_7 ln_RX8_25 dX8_errorAt_1 ?_
  exact wq_iret rfl rfl dX8_errorAt_4

theorem ln_RX7_163 : Cond.fieldLink RX7 163 RX0 "$SwitchMap$PairRules$Word" "[I" ∈ lw_good := li_3 94 (by decide +kernel) (by decide +kernel)
theorem ln_RX7_169 : Cond.methodLink RX7 169 yWordOrd ∈ lw_good := li_3 96 (by decide +kernel) (by decide +kernel)
theorem ln_RX7_28 : Cond.fieldLink RX7 28 RX7 "leastTold" "Z" ∈ lw_good := li_1 212 (by decide +kernel) (by decide +kernel)
theorem ln_RX7_32 : Cond.fieldLink RX7 32 RX7 "tieTold" "Z" ∈ lw_good := li_1 213 (by decide +kernel) (by decide +kernel)
theorem ln_RX7_35 : Cond.fieldLink RX7 35 RX7 "inlineTold" "Z" ∈ lw_good := li_1 214 (by decide +kernel) (by decide +kernel)
noncomputable def f_Set_isTold (a1 : Nat) (I : Mem) : Option ((Int) × Mem) :=
if a1 < 15 then
if 0 ≤ (w32 ((a1 : Nat) : Int)) ∧ (w32 ((a1 : Nat) : Int)) < 15 then
if (w32 (wSm.getD (w32 ((a1 : Nat) : Int)).toNat 0)) = 7 then
if (I 7 0 4) = 0 ∨ (I 7 0 4) = 1 then
some ((I 7 0 4), I)
else none
else if (w32 (wSm.getD (w32 ((a1 : Nat) : Int)).toNat 0)) = 8 then
if (I 7 0 5) = 0 ∨ (I 7 0 5) = 1 then
some ((I 7 0 5), I)
else none
else if (I 7 0 6) = 0 ∨ (I 7 0 6) = 1 then
some ((I 7 0 6), I)
else none
else none
else none
set_option maxRecDepth 20000 in
theorem R_Set_isTold (Z : ZT) (a1 : Nat) (I : Mem) (r : Int) (J : Mem) (hf : f_Set_isTold a1 I = some (r, J)) : Runs Z yX7_isTold cX7_isTold 2 (some .boolean) 2 [vr Z 7 0, vr Z 11 a1] I (some (vi r), J) := by
  refine Runs.of (rv := fun x => some (vi x)) (by decide +kernel) (Nat.le_of_ble_eq_true rfl) hf (fun gr => ?_)
  unfold f_Set_isTold
  refine WQ.loc [0, 1] (lv' := [(0, vr Z 7 0), (1, vr Z 11 a1)]) rfl ?_
  refine wq_grd (fun h1 => ?_)
  refine wq_gets sta_smap ln_RX7_163 dX7_isTold_0 ?_
  refine wq_aload_n dX7_isTold_3 1 rfl rfl ?_
  refine wq_ordinal h1 (by decide) (Nat.le_of_ble_eq_true rfl) ln_RX7_169 dX7_isTold_4 (fun gr1 => ?_)
  refine wq_grd (fun g2 => ?_)
  refine wq_smap rfl g2 dX7_isTold_7 ?_
  refine WQ.split (fun c4 => ?_) (fun c4 => ?_)
  · refine wq_look (off := 28) 36 dX7_isTold_8 rfl (by decide) (by generalize (w32 (wSm.getD (w32 ((a1 : Nat) : Int)).toNat 0)) = z at c4 ⊢; simp [Op.lookupswitch.offset, c4]) (by decide) ?_
    refine wq_aload_n dX7_isTold_36 0 rfl rfl ?_
    refine g_7_4 ln_RX7_28 dX7_isTold_37 ?_
    refine wq_grd (fun g3 => ?_)
    exact wq_zret rfl g3 rfl dX7_isTold_40
  · skip
    refine WQ.split (fun c6 => ?_) (fun c6 => ?_)
    · refine wq_look (off := 33) 41 dX7_isTold_8 rfl (by decide) (by generalize (w32 (wSm.getD (w32 ((a1 : Nat) : Int)).toNat 0)) = z at c6 ⊢; simp [Op.lookupswitch.offset, c6]) (by decide) ?_
      refine wq_aload_n dX7_isTold_41 0 rfl rfl ?_
      refine g_7_5 ln_RX7_32 dX7_isTold_42 ?_
      refine wq_grd (fun g5 => ?_)
      exact wq_zret rfl g5 rfl dX7_isTold_45
    · skip
      refine wq_look (off := 38) 46 dX7_isTold_8 rfl (by decide) (by generalize (w32 (wSm.getD (w32 ((a1 : Nat) : Int)).toNat 0)) = z at c4 c6 ⊢; simp [Op.lookupswitch.offset, Ne.symm c4, Ne.symm c6]) (by decide) ?_
      refine wq_aload_n dX7_isTold_46 0 rfl rfl ?_
      refine g_7_6 ln_RX7_35 dX7_isTold_47 ?_
      refine wq_grd (fun g7 => ?_)
      exact wq_zret rfl g7 rfl dX7_isTold_50

theorem ln_RX7_15 : Cond.fieldLink RX7 15 RX7 "goal" "LPairRules$Grammar;" ∈ lw_good := li_1 209 (by decide +kernel) (by decide +kernel)
theorem M_G_putNumber : MwV yX1_putNumber cX1_putNumber 3 (none) 2 := ⟨li_3 109 (by decide +kernel) (by decide +kernel), li_3 107 (by decide +kernel) (by decide +kernel), li_3 108 (by decide +kernel) (by decide +kernel), li_1 2 (by decide +kernel) (by decide +kernel), by decide +kernel⟩
theorem ln_RX7_172 : Cond.methodLink RX7 172 yX1_putNumber ∈ lw_good := li_3 106 (by decide +kernel) (by decide +kernel)
noncomputable def f_Set_noteTold (a1 : Nat) (a2 : Int) (I : Mem) : Option ((Unit) × Mem) :=
if a1 < 15 then
if 0 ≤ (w32 ((a1 : Nat) : Int)) ∧ (w32 ((a1 : Nat) : Int)) < 15 then
if (w32 (wSm.getD (w32 ((a1 : Nat) : Int)).toNat 0)) = 7 then
ltI (sI I 7 0 4 1) fun J3 =>
bnd (f_G_putNumber 1 4 a2 J3) fun _ J5 =>
some ((), J5)
else if (w32 (wSm.getD (w32 ((a1 : Nat) : Int)).toNat 0)) = 8 then
ltI (sI I 7 0 5 1) fun J8 =>
bnd (f_G_putNumber 1 5 a2 J8) fun _ J10 =>
some ((), J10)
else ltI (sI I 7 0 6 1) fun J13 =>
bnd (f_G_putNumber 1 6 a2 J13) fun _ J15 =>
some ((), J15)
else none
else none
set_option maxRecDepth 20000 in
theorem R_Set_noteTold (Z : ZT) (a1 : Nat) (a2 : Int) (I : Mem) (r : Unit) (J : Mem) (hf : f_Set_noteTold a1 a2 I = some (r, J)) : Runs Z yX7_noteTold cX7_noteTold 3 (none) 2 [vr Z 7 0, vr Z 11 a1, vi a2] I (none, J) := by
  refine Runs.of (rv := fun _ => none) (by decide +kernel) (Nat.le_of_ble_eq_true rfl) hf (fun gr => ?_)
  unfold f_Set_noteTold
  refine WQ.loc [0, 1, 2] (lv' := [(0, vr Z 7 0), (1, vr Z 11 a1), (2, vi a2)]) rfl ?_
  refine wq_grd (fun h1 => ?_)
  refine wq_gets sta_smap ln_RX7_163 dX7_noteTold_0 ?_
  refine wq_aload_n dX7_noteTold_3 1 rfl rfl ?_
  refine wq_ordinal h1 (by decide) (Nat.le_of_ble_eq_true rfl) ln_RX7_169 dX7_noteTold_4 (fun gr1 => ?_)
  refine wq_grd (fun g2 => ?_)
  refine wq_smap rfl g2 dX7_noteTold_7 ?_
  refine WQ.split (fun c7 => ?_) (fun c7 => ?_)
  · refine wq_look (off := 28) 36 dX7_noteTold_8 rfl (by decide) (by generalize (w32 (wSm.getD (w32 ((a1 : Nat) : Int)).toNat 0)) = z at c7 ⊢; simp [Op.lookupswitch.offset, c7]) (by decide) ?_
    refine wq_aload_n dX7_noteTold_36 0 rfl rfl ?_
    refine wq_iconst dX7_noteTold_37 ?_
    refine p_7_4 (by decide) ln_RX7_28 dX7_noteTold_38 (fun J3 => ?_)
    refine wq_aload_n dX7_noteTold_41 0 rfl rfl ?_
    refine g_7_1 ln_RX7_15 dX7_noteTold_42 ?_
    refine wq_iconst dX7_noteTold_45 ?_
    refine wq_iload_n dX7_noteTold_46 2 rfl rfl ?_
    refine wq_cVv M_G_putNumber (R_G_putNumber Z 1 4 a2 _) (ob_1 (by decide)) rfl rfl (by decide) (by decide) (Nat.le_of_ble_eq_true rfl) ln_RX7_172 dX7_noteTold_47 (fun gr4 _ J5 => ?_)
    refine wq_goto 85 dX7_noteTold_50 (by decide) ?_
    exact wq_vret rfl rfl dX7_noteTold_85
  · skip
    refine WQ.split (fun c12 => ?_) (fun c12 => ?_)
    · refine wq_look (off := 45) 53 dX7_noteTold_8 rfl (by decide) (by generalize (w32 (wSm.getD (w32 ((a1 : Nat) : Int)).toNat 0)) = z at c12 ⊢; simp [Op.lookupswitch.offset, c12]) (by decide) ?_
      refine wq_aload_n dX7_noteTold_53 0 rfl rfl ?_
      refine wq_iconst dX7_noteTold_54 ?_
      refine p_7_5 (by decide) ln_RX7_32 dX7_noteTold_55 (fun J8 => ?_)
      refine wq_aload_n dX7_noteTold_58 0 rfl rfl ?_
      refine g_7_1 ln_RX7_15 dX7_noteTold_59 ?_
      refine wq_iconst dX7_noteTold_62 ?_
      refine wq_iload_n dX7_noteTold_63 2 rfl rfl ?_
      refine wq_cVv M_G_putNumber (R_G_putNumber Z 1 5 a2 _) (ob_1 (by decide)) rfl rfl (by decide) (by decide) (Nat.le_of_ble_eq_true rfl) ln_RX7_172 dX7_noteTold_64 (fun gr9 _ J10 => ?_)
      refine wq_goto 85 dX7_noteTold_67 (by decide) ?_
      exact wq_vret rfl rfl dX7_noteTold_85
    · skip
      refine wq_look (off := 62) 70 dX7_noteTold_8 rfl (by decide) (by generalize (w32 (wSm.getD (w32 ((a1 : Nat) : Int)).toNat 0)) = z at c7 c12 ⊢; simp [Op.lookupswitch.offset, Ne.symm c7, Ne.symm c12]) (by decide) ?_
      refine wq_aload_n dX7_noteTold_70 0 rfl rfl ?_
      refine wq_iconst dX7_noteTold_71 ?_
      refine p_7_6 (by decide) ln_RX7_35 dX7_noteTold_72 (fun J13 => ?_)
      refine wq_aload_n dX7_noteTold_75 0 rfl rfl ?_
      refine g_7_1 ln_RX7_15 dX7_noteTold_76 ?_
      refine wq_bipush dX7_noteTold_79 (by decide) ?_
      refine wq_iload_n dX7_noteTold_81 2 rfl rfl ?_
      refine wq_cVv M_G_putNumber (R_G_putNumber Z 1 6 a2 _) (ob_1 (by decide)) rfl rfl (by decide) (by decide) (Nat.le_of_ble_eq_true rfl) ln_RX7_172 dX7_noteTold_82 (fun gr14 _ J15 => ?_)
      exact wq_vret rfl rfl dX7_noteTold_85

theorem ln_RX6_44 : Cond.fieldLink RX6 44 RX6 "many" "I" ∈ lw_good := li_2 8 (by decide +kernel) (by decide +kernel)
theorem ln_RX6_111 : Cond.methodLink RX6 111 Lib.Math.min.name ∈ lw_good := li_3 202 (by decide +kernel) (by decide +kernel)
theorem ln_RX6_13 : Cond.fieldLink RX6 13 RX6 "words" "[LPairRules$Word;" ∈ lw_good := li_2 1 (by decide +kernel) (by decide +kernel)
noncomputable def f_Scr_addEntry (a1 : Nat) (I : Mem) : Option ((Int) × Mem) :=
if a1 < 15 then
if 0 ≤ (w32 (imn (I 8 0 8) 59)) ∧ (w32 (imn (I 8 0 8) 59)) < 60 then
ltI (sI I 20 0 (w32 (imn (I 8 0 8) 59)).toNat ((a1 : Nat) : Int)) fun J2 =>
ltI (sI J2 8 0 8 ((imn (I 8 0 8) 59) + 1)) fun J3 =>
some ((imn (I 8 0 8) 59), J3)
else none
else none
set_option maxRecDepth 20000 in
theorem R_Scr_addEntry (Z : ZT) (a1 : Nat) (I : Mem) (r : Int) (J : Mem) (hf : f_Scr_addEntry a1 I = some (r, J)) : Runs Z yX6_addEntry cX6_addEntry 3 (some .int) 1 [vr Z 8 0, vr Z 11 a1] I (some (vi r), J) := by
  refine Runs.of (rv := fun x => some (vi x)) (by decide +kernel) (Nat.le_of_ble_eq_true rfl) hf (fun gr => ?_)
  unfold f_Scr_addEntry
  refine WQ.loc [0, 1] (lv' := [(0, vr Z 8 0), (1, vr Z 11 a1)]) rfl ?_
  refine wq_grd (fun h1 => ?_)
  refine wq_aload_n dX6_addEntry_0 0 rfl rfl ?_
  refine g_8_8 ln_RX6_44 dX6_addEntry_1 ?_
  refine wq_bipush dX6_addEntry_4 (by decide) ?_
  refine wq_min (by decide) (Nat.le_of_ble_eq_true rfl) ln_RX6_111 mt_min_s mt_i mt_min_c dX6_addEntry_6 ?_
  refine wq_istore_n (lv' := [(2, vi (imn (I 8 0 8) 59)), (0, vr Z 8 0), (1, vr Z 11 a1)]) dX6_addEntry_9 rfl (by decide) rfl ?_
  refine wq_aload_n dX6_addEntry_10 1 rfl rfl ?_
  refine g_8_1 ln_RX6_13 dX6_addEntry_11 ?_
  refine wq_iload_n dX6_addEntry_14 0 rfl rfl ?_
  refine wq_aload_n dX6_addEntry_15 2 rfl rfl ?_
  refine wq_grd (fun g1 => ?_)
  refine wq_wast h1 rfl g1 dX6_addEntry_16 (fun J2 => ?_)
  refine wq_aload_n dX6_addEntry_17 1 rfl rfl ?_
  refine wq_iload_n dX6_addEntry_18 0 rfl rfl ?_
  refine wq_iconst dX6_addEntry_19 ?_
  refine wq_iadd dX6_addEntry_20 ?_
  refine p_8_8 ln_RX6_44 dX6_addEntry_21 (fun J3 => ?_)
  refine wq_iload_n dX6_addEntry_24 0 rfl rfl ?_
  exact wq_iret rfl rfl dX6_addEntry_25

noncomputable def f_Scr_isEntry (a1 : Int) (I : Mem) : Option ((Int) × Mem) :=
if (w32 a1) < 0 then
some (0, I)
else
if (w32 a1) < (w32 (I 8 0 8)) then
some (1, I)
else
some (0, I)
set_option maxRecDepth 20000 in
theorem R_Scr_isEntry (Z : ZT) (a1 : Int) (I : Mem) (r : Int) (J : Mem) (hf : f_Scr_isEntry a1 I = some (r, J)) : Runs Z yX6_isEntry cX6_isEntry 2 (some .boolean) 1 [vr Z 8 0, vi a1] I (some (vi r), J) := by
  refine Runs.of (rv := fun x => some (vi x)) (by decide +kernel) (Nat.le_of_ble_eq_true rfl) hf (fun gr => ?_)
  unfold f_Scr_isEntry
  refine WQ.loc [0, 1] (lv' := [(0, vr Z 8 0), (1, vi a1)]) rfl ?_
  refine wq_iload_n dX6_isEntry_0 1 rfl rfl ?_
  refine wq_if_lt 16 dX6_isEntry_1 (by decide) rfl (fun c2 => ?_) (fun c2 => ?_)
  · refine wq_iconst dX6_isEntry_16 ?_
    exact wq_zret rfl (by decide) rfl dX6_isEntry_17
  · refine wq_iload_n dX6_isEntry_4 1 rfl rfl ?_
    refine wq_aload_n dX6_isEntry_5 0 rfl rfl ?_
    refine g_8_8 ln_RX6_44 dX6_isEntry_6 ?_
    refine wq_icmp_ge 16 dX6_isEntry_9 (by decide) rfl rfl (fun c1 => ?_) (fun c1 => ?_)
    · refine wq_iconst dX6_isEntry_12 ?_
      refine wq_goto 17 dX6_isEntry_13 (by decide) ?_
      exact wq_zret rfl (by decide) rfl dX6_isEntry_17
    · refine wq_iconst dX6_isEntry_16 ?_
      exact wq_zret rfl (by decide) rfl dX6_isEntry_17

theorem M_Scr_isEntry : MwV yX6_isEntry cX6_isEntry 2 (some .boolean) 1 := ⟨li_4 9 (by decide +kernel) (by decide +kernel), li_4 8 (by decide +kernel) (by decide +kernel), lw_in 21 (by decide +kernel) (by decide +kernel), li_1 9 (by decide +kernel) (by decide +kernel), by decide +kernel⟩
theorem ln_RX6_40 : Cond.fieldLink RX6 40 RX11 "OTHER" "LPairRules$Word;" ∈ lw_good := li_1 238 (by decide +kernel) (by decide +kernel)
theorem ln_RX6_138 : Cond.methodLink RX6 138 yX6_isEntry ∈ lw_good := li_4 6 (by decide +kernel) (by decide +kernel)
noncomputable def f_Scr_word (a1 : Int) (I : Mem) : Option ((Nat) × Mem) :=
bnd (f_Scr_isEntry a1 I) fun x3 J2 =>
if (w32 x3) = 0 then
some (14, J2)
else
if 0 ≤ (w32 a1) ∧ (w32 a1) < 60 then
if (J2 20 0 (w32 a1).toNat).toNat < 15 then
some ((J2 20 0 (w32 a1).toNat).toNat, J2)
else none
else none
set_option maxRecDepth 20000 in
theorem R_Scr_word (Z : ZT) (a1 : Int) (I : Mem) (r : Nat) (J : Mem) (hf : f_Scr_word a1 I = some (r, J)) : Runs Z yX6_word cX6_word 2 (some (.object RX11)) 2 [vr Z 8 0, vi a1] I (some (vr Z 11 r), J) := by
  refine Runs.of (rv := fun x => some (vr Z 11 x)) (by decide +kernel) (Nat.le_of_ble_eq_true rfl) hf (fun gr => ?_)
  unfold f_Scr_word
  refine WQ.loc [0, 1] (lv' := [(0, vr Z 8 0), (1, vi a1)]) rfl ?_
  refine wq_aload_n dX6_word_0 0 rfl rfl ?_
  refine wq_iload_n dX6_word_1 1 rfl rfl ?_
  refine wq_cVi M_Scr_isEntry (R_Scr_isEntry Z a1 _) ob_8 rfl rfl (by decide) (by decide) (Nat.le_of_ble_eq_true rfl) ln_RX6_138 dX6_word_2 (fun gr1 x3 J2 => ?_)
  refine wq_if_eq 17 dX6_word_5 (by decide) rfl (fun c7 => ?_) (fun c7 => ?_)
  · refine wq_gets (sta_word 14 (by decide)) ln_RX6_40 dX6_word_17 ?_
    exact wq_aret rfl (Or.inl ⟨_, rfl⟩) rfl dX6_word_20
  · refine wq_aload_n dX6_word_8 0 rfl rfl ?_
    refine g_8_1 ln_RX6_13 dX6_word_9 ?_
    refine wq_iload_n dX6_word_12 1 rfl rfl ?_
    refine wq_grd (fun g4 => ?_)
    refine wq_aald (k := 20) (i := 0) (t0 := 6) rfl rfl (by decide) rfl rfl (m := 60) g4 (Nat.le_refl _) dX6_word_13 ?_
    refine wq_grd (fun g5 => ?_)
    refine wq_goto 20 dX6_word_14 (by decide) ?_
    exact wq_aret rfl (Or.inl ⟨_, rfl⟩) rfl dX6_word_20

theorem ln_RX6_17 : Cond.fieldLink RX6 17 RX6 "numbers" "[I" ∈ lw_good := li_2 2 (by decide +kernel) (by decide +kernel)
noncomputable def f_Scr_number (a1 : Int) (I : Mem) : Option ((Int) × Mem) :=
bnd (f_Scr_isEntry a1 I) fun x3 J2 =>
if (w32 x3) = 0 then
some (0, J2)
else
if 0 ≤ (w32 a1) ∧ (w32 a1) < 60 then
some ((J2 21 0 (w32 a1).toNat), J2)
else none
set_option maxRecDepth 20000 in
theorem R_Scr_number (Z : ZT) (a1 : Int) (I : Mem) (r : Int) (J : Mem) (hf : f_Scr_number a1 I = some (r, J)) : Runs Z yX6_number cX6_number 2 (some .int) 2 [vr Z 8 0, vi a1] I (some (vi r), J) := by
  refine Runs.of (rv := fun x => some (vi x)) (by decide +kernel) (Nat.le_of_ble_eq_true rfl) hf (fun gr => ?_)
  unfold f_Scr_number
  refine WQ.loc [0, 1] (lv' := [(0, vr Z 8 0), (1, vi a1)]) rfl ?_
  refine wq_aload_n dX6_number_0 0 rfl rfl ?_
  refine wq_iload_n dX6_number_1 1 rfl rfl ?_
  refine wq_cVi M_Scr_isEntry (R_Scr_isEntry Z a1 _) ob_8 rfl rfl (by decide) (by decide) (Nat.le_of_ble_eq_true rfl) ln_RX6_138 dX6_number_2 (fun gr1 x3 J2 => ?_)
  refine wq_if_eq 17 dX6_number_5 (by decide) rfl (fun c5 => ?_) (fun c5 => ?_)
  · refine wq_iconst dX6_number_17 ?_
    exact wq_iret rfl rfl dX6_number_18
  · refine wq_aload_n dX6_number_8 0 rfl rfl ?_
    refine g_8_2 ln_RX6_17 dX6_number_9 ?_
    refine wq_iload_n dX6_number_12 1 rfl rfl ?_
    refine wq_grd (fun g4 => ?_)
    refine wq_iald (k := 21) (i := 0) rfl (by decide) rfl rfl (m := 60) g4 (by decide) dX6_number_13 ?_
    refine wq_goto 18 dX6_number_14 (by decide) ?_
    exact wq_iret rfl rfl dX6_number_18

theorem ln_RX6_24 : Cond.fieldLink RX6 24 RX6 "lettersMany" "[I" ∈ lw_good := li_2 4 (by decide +kernel) (by decide +kernel)
noncomputable def f_Scr_manyLetters (a1 : Int) (I : Mem) : Option ((Int) × Mem) :=
bnd (f_Scr_isEntry a1 I) fun x3 J2 =>
if (w32 x3) = 0 then
some (0, J2)
else
if 0 ≤ (w32 a1) ∧ (w32 a1) < 60 then
some ((J2 21 2 (w32 a1).toNat), J2)
else none
set_option maxRecDepth 20000 in
theorem R_Scr_manyLetters (Z : ZT) (a1 : Int) (I : Mem) (r : Int) (J : Mem) (hf : f_Scr_manyLetters a1 I = some (r, J)) : Runs Z yX6_manyLetters cX6_manyLetters 2 (some .int) 2 [vr Z 8 0, vi a1] I (some (vi r), J) := by
  refine Runs.of (rv := fun x => some (vi x)) (by decide +kernel) (Nat.le_of_ble_eq_true rfl) hf (fun gr => ?_)
  unfold f_Scr_manyLetters
  refine WQ.loc [0, 1] (lv' := [(0, vr Z 8 0), (1, vi a1)]) rfl ?_
  refine wq_aload_n dX6_manyLetters_0 0 rfl rfl ?_
  refine wq_iload_n dX6_manyLetters_1 1 rfl rfl ?_
  refine wq_cVi M_Scr_isEntry (R_Scr_isEntry Z a1 _) ob_8 rfl rfl (by decide) (by decide) (Nat.le_of_ble_eq_true rfl) ln_RX6_138 dX6_manyLetters_2 (fun gr1 x3 J2 => ?_)
  refine wq_if_eq 17 dX6_manyLetters_5 (by decide) rfl (fun c5 => ?_) (fun c5 => ?_)
  · refine wq_iconst dX6_manyLetters_17 ?_
    exact wq_iret rfl rfl dX6_manyLetters_18
  · refine wq_aload_n dX6_manyLetters_8 0 rfl rfl ?_
    refine g_8_4 ln_RX6_24 dX6_manyLetters_9 ?_
    refine wq_iload_n dX6_manyLetters_12 1 rfl rfl ?_
    refine wq_grd (fun g4 => ?_)
    refine wq_iald (k := 21) (i := 2) rfl (by decide) rfl rfl (m := 60) g4 (by decide) dX6_manyLetters_13 ?_
    refine wq_goto 18 dX6_manyLetters_14 (by decide) ?_
    exact wq_iret rfl rfl dX6_manyLetters_18

theorem ln_RX6_36 : Cond.fieldLink RX6 36 RX6 "source" "LPairRules$Source;" ∈ lw_good := li_2 0 (by decide +kernel) (by decide +kernel)
theorem ln_RX6_21 : Cond.fieldLink RX6 21 RX6 "lettersFrom" "[I" ∈ lw_good := li_2 3 (by decide +kernel) (by decide +kernel)
theorem ln_RX6_141 : Cond.methodLink RX6 141 yX8_byteAt ∈ lw_good := li_4 178 (by decide +kernel) (by decide +kernel)
noncomputable def f_Scr_letter (a1 : Int) (a2 : Int) (I : Mem) : Option ((Int) × Mem) :=
bnd (f_Scr_isEntry a1 I) fun x3 J2 =>
if (w32 x3) = 0 then
some (0, J2)
else
if 0 ≤ (w32 a1) ∧ (w32 a1) < 60 then
bnd (f_Src_byteAt ((J2 21 1 (w32 a1).toNat) + a2) J2) fun x7 J6 =>
some ((x7 - 97), J6)
else none
set_option maxRecDepth 20000 in
theorem R_Scr_letter (Z : ZT) (a1 : Int) (a2 : Int) (I : Mem) (r : Int) (J : Mem) (hf : f_Scr_letter a1 a2 I = some (r, J)) : Runs Z yX6_letter cX6_letter 3 (some .int) 2 [vr Z 8 0, vi a1, vi a2] I (some (vi r), J) := by
  refine Runs.of (rv := fun x => some (vi x)) (by decide +kernel) (Nat.le_of_ble_eq_true rfl) hf (fun gr => ?_)
  unfold f_Scr_letter
  refine WQ.loc [0, 1, 2] (lv' := [(0, vr Z 8 0), (1, vi a1), (2, vi a2)]) rfl ?_
  refine wq_aload_n dX6_letter_0 0 rfl rfl ?_
  refine wq_iload_n dX6_letter_1 1 rfl rfl ?_
  refine wq_cVi M_Scr_isEntry (R_Scr_isEntry Z a1 _) ob_8 rfl rfl (by decide) (by decide) (Nat.le_of_ble_eq_true rfl) ln_RX6_138 dX6_letter_2 (fun gr1 x3 J2 => ?_)
  refine wq_if_eq 29 dX6_letter_5 (by decide) rfl (fun c8 => ?_) (fun c8 => ?_)
  · refine wq_iconst dX6_letter_29 ?_
    exact wq_iret rfl rfl dX6_letter_30
  · refine wq_aload_n dX6_letter_8 0 rfl rfl ?_
    refine g_8_0 ln_RX6_36 dX6_letter_9 ?_
    refine wq_aload_n dX6_letter_12 0 rfl rfl ?_
    refine g_8_3 ln_RX6_21 dX6_letter_13 ?_
    refine wq_iload_n dX6_letter_16 1 rfl rfl ?_
    refine wq_grd (fun g4 => ?_)
    refine wq_iald (k := 21) (i := 1) rfl (by decide) rfl rfl (m := 60) g4 (by decide) dX6_letter_17 ?_
    refine wq_iload_n dX6_letter_18 2 rfl rfl ?_
    refine wq_iadd dX6_letter_19 ?_
    refine wq_cVi M_Src_byteAt (R_Src_byteAt Z ((J2 21 1 (w32 a1).toNat) + a2) _) ob_6 rfl rfl (by decide) (by decide) (Nat.le_of_ble_eq_true rfl) ln_RX6_141 dX6_letter_20 (fun gr5 x7 J6 => ?_)
    refine wq_bipush dX6_letter_23 (by decide) ?_
    refine wq_isub dX6_letter_25 ?_
    refine wq_goto 30 dX6_letter_26 (by decide) ?_
    exact wq_iret rfl rfl dX6_letter_30

theorem ln_RX6_30 : Cond.fieldLink RX6 30 RX6 "timesLeft" "[I" ∈ lw_good := li_2 6 (by decide +kernel) (by decide +kernel)
noncomputable def f_Scr_turn (a1 : Int) (a2 : Int) (I : Mem) : Option ((Int) × Mem) :=
if 0 ≤ (w32 a1) ∧ (w32 a1) < 60 then
if 0 < (w32 (I 21 4 (w32 a1).toNat)) then
some ((a1 + 1), I)
else
some ((a2 + 1), I)
else none
set_option maxRecDepth 20000 in
theorem R_Scr_turn (Z : ZT) (a1 : Int) (a2 : Int) (I : Mem) (r : Int) (J : Mem) (hf : f_Scr_turn a1 a2 I = some (r, J)) : Runs Z yX6_turn cX6_turn 3 (some .int) 1 [vr Z 8 0, vi a1, vi a2] I (some (vi r), J) := by
  refine Runs.of (rv := fun x => some (vi x)) (by decide +kernel) (Nat.le_of_ble_eq_true rfl) hf (fun gr => ?_)
  unfold f_Scr_turn
  refine WQ.loc [0, 1, 2] (lv' := [(0, vr Z 8 0), (1, vi a1), (2, vi a2)]) rfl ?_
  refine wq_aload_n dX6_turn_0 0 rfl rfl ?_
  refine g_8_6 ln_RX6_30 dX6_turn_1 ?_
  refine wq_iload_n dX6_turn_4 1 rfl rfl ?_
  refine wq_grd (fun g1 => ?_)
  refine wq_iald (k := 21) (i := 4) rfl (by decide) rfl rfl (m := 60) g1 (by decide) dX6_turn_5 ?_
  refine wq_if_le 13 dX6_turn_6 (by decide) rfl (fun c2 => ?_) (fun c2 => ?_)
  · refine wq_iload_n dX6_turn_9 1 rfl rfl ?_
    refine wq_goto 14 dX6_turn_10 (by decide) ?_
    refine wq_iconst dX6_turn_14 ?_
    refine wq_iadd dX6_turn_15 ?_
    exact wq_iret rfl rfl dX6_turn_16
  · refine wq_iload_n dX6_turn_13 2 rfl rfl ?_
    refine wq_iconst dX6_turn_14 ?_
    refine wq_iadd dX6_turn_15 ?_
    exact wq_iret rfl rfl dX6_turn_16

theorem ln_RX2_23 : Cond.fieldLink RX2 23 RX2 "many" "I" ∈ lw_good := li_2 47 (by decide +kernel) (by decide +kernel)
noncomputable def f_His_manyPast  (I : Mem) : Option ((Int) × Mem) :=
some ((I 9 0 4), I)
set_option maxRecDepth 20000 in
theorem R_His_manyPast (Z : ZT)  (I : Mem) (r : Int) (J : Mem) (hf : f_His_manyPast I = some (r, J)) : Runs Z yX2_manyPast cX2_manyPast 1 (some .int) 1 [vr Z 9 0] I (some (vi r), J) := by
  refine Runs.of (rv := fun x => some (vi x)) (by decide +kernel) (Nat.le_of_ble_eq_true rfl) hf (fun gr => ?_)
  unfold f_His_manyPast
  refine WQ.loc [0] (lv' := [(0, vr Z 9 0)]) rfl ?_
  refine wq_aload_n dX2_manyPast_0 0 rfl rfl ?_
  refine g_9_4 ln_RX2_23 dX2_manyPast_1 ?_
  exact wq_iret rfl rfl dX2_manyPast_4

noncomputable def f_His_forgetPast  (I : Mem) : Option ((Unit) × Mem) :=
ltI (sI I 9 0 4 0) fun J1 =>
some ((), J1)
set_option maxRecDepth 20000 in
theorem R_His_forgetPast (Z : ZT)  (I : Mem) (r : Unit) (J : Mem) (hf : f_His_forgetPast I = some (r, J)) : Runs Z yX2_forgetPast cX2_forgetPast 1 (none) 1 [vr Z 9 0] I (none, J) := by
  refine Runs.of (rv := fun _ => none) (by decide +kernel) (Nat.le_of_ble_eq_true rfl) hf (fun gr => ?_)
  unfold f_His_forgetPast
  refine WQ.loc [0] (lv' := [(0, vr Z 9 0)]) rfl ?_
  refine wq_aload_n dX2_forgetPast_0 0 rfl rfl ?_
  refine wq_iconst dX2_forgetPast_1 ?_
  refine p_9_4 ln_RX2_23 dX2_forgetPast_2 (fun J1 => ?_)
  exact wq_vret rfl rfl dX2_forgetPast_5

theorem ln_RX2_18 : Cond.fieldLink RX2 18 RX2 "isKept" "[Z" ∈ lw_good := li_2 45 (by decide +kernel) (by decide +kernel)
noncomputable def f_His_hasKept (a1 : Int) (I : Mem) : Option ((Int) × Mem) :=
if (w32 a1) < 0 then
some (0, I)
else
if (w32 a1) < 2 then
if 0 ≤ (w32 a1) ∧ (w32 a1) < 2 then
if (w32 (I 24 0 (w32 a1).toNat)) = 0 then
some (0, I)
else
some (1, I)
else none
else
some (0, I)
set_option maxRecDepth 20000 in
theorem R_His_hasKept (Z : ZT) (a1 : Int) (I : Mem) (r : Int) (J : Mem) (hf : f_His_hasKept a1 I = some (r, J)) : Runs Z yX2_hasKept cX2_hasKept 2 (some .boolean) 1 [vr Z 9 0, vi a1] I (some (vi r), J) := by
  refine Runs.of (rv := fun x => some (vi x)) (by decide +kernel) (Nat.le_of_ble_eq_true rfl) hf (fun gr => ?_)
  unfold f_His_hasKept
  refine WQ.loc [0, 1] (lv' := [(0, vr Z 9 0), (1, vi a1)]) rfl ?_
  refine wq_iload_n dX2_hasKept_0 1 rfl rfl ?_
  refine wq_if_lt 22 dX2_hasKept_1 (by decide) rfl (fun c4 => ?_) (fun c4 => ?_)
  · refine wq_iconst dX2_hasKept_22 ?_
    exact wq_zret rfl (by decide) rfl dX2_hasKept_23
  · refine wq_iload_n dX2_hasKept_4 1 rfl rfl ?_
    refine wq_iconst dX2_hasKept_5 ?_
    refine wq_icmp_ge 22 dX2_hasKept_6 (by decide) rfl rfl (fun c3 => ?_) (fun c3 => ?_)
    · refine wq_aload_n dX2_hasKept_9 0 rfl rfl ?_
      refine g_9_2 ln_RX2_18 dX2_hasKept_10 ?_
      refine wq_iload_n dX2_hasKept_13 1 rfl rfl ?_
      refine wq_grd (fun g1 => ?_)
      refine wq_zald (k := 24) (i := 0) rfl (by decide) rfl rfl (m := 2) g1 (Nat.le_refl _) dX2_hasKept_14 ?_
      refine wq_if_eq 22 dX2_hasKept_15 (by decide) rfl (fun c2 => ?_) (fun c2 => ?_)
      · refine wq_iconst dX2_hasKept_22 ?_
        exact wq_zret rfl (by decide) rfl dX2_hasKept_23
      · refine wq_iconst dX2_hasKept_18 ?_
        refine wq_goto 23 dX2_hasKept_19 (by decide) ?_
        exact wq_zret rfl (by decide) rfl dX2_hasKept_23
    · refine wq_iconst dX2_hasKept_22 ?_
      exact wq_zret rfl (by decide) rfl dX2_hasKept_23

noncomputable def f_His_forgetSaved_w2  (s : Int) (I : Mem) : Option (((Int) ⊕ (Unit)) × Mem) :=
if (w32 s) < 2 then
if 0 ≤ (w32 s) ∧ (w32 s) < 2 then
ltI (sI I 24 0 (w32 s).toNat 0) fun J2 =>
some (.inl (s + 1), J2)
else none
else
some (.inr (), I)

noncomputable def f_His_forgetSaved  (I : Mem) : Option ((Unit) × Mem) :=
bnd (whl (f_His_forgetSaved_w2) 0 I) fun r14 J15 =>
some ((), J15)
set_option maxRecDepth 20000 in
theorem R_His_forgetSaved (Z : ZT)  (I : Mem) (r : Unit) (J : Mem) (hf : f_His_forgetSaved I = some (r, J)) : Runs Z yX2_forgetSaved cX2_forgetSaved 2 (none) 1 [vr Z 9 0] I (none, J) := by
  refine Runs.of (rv := fun _ => none) (by decide +kernel) (Nat.le_of_ble_eq_true rfl) hf (fun gr => ?_)
  unfold f_His_forgetSaved
  refine WQ.loc [0] (lv' := [(0, vr Z 9 0)]) rfl ?_
  refine wq_iconst dX2_forgetSaved_0 ?_
  refine wq_istore_n (lv' := [(1, vi 0), (0, vr Z 9 0)]) dX2_forgetSaved_1 rfl (by decide) rfl ?_
  refine WQ.loc [1, 0] (lv' := [(0, vr Z 9 0), (1, vi 0)]) rfl ?_
  refine wq_loopS (fun s10 => [(0, vr Z 9 0), (1, vi s10)]) 20 (fun _ => []) (fun κ4 bk5 ex6 gr9 s10 J8 => ?_) (fun gr16 r14 J15 => ?_) gr _ rfl
  · unfold f_His_forgetSaved_w2
    refine wq_iload_n dX2_forgetSaved_2 1 rfl rfl ?_
    refine wq_iconst dX2_forgetSaved_3 ?_
    refine wq_icmp_ge 20 dX2_forgetSaved_4 (by decide) rfl rfl (fun c13 => ?_) (fun c13 => ?_)
    · refine wq_aload_n dX2_forgetSaved_7 0 rfl rfl ?_
      refine g_9_2 ln_RX2_18 dX2_forgetSaved_8 ?_
      refine wq_iload_n dX2_forgetSaved_11 1 rfl rfl ?_
      refine wq_iconst dX2_forgetSaved_12 ?_
      refine wq_grd (fun g11 => ?_)
      refine wq_zast (k := 24) (i := 0) (fun _ => rfl) (by decide) rfl rfl (m := 2) g11 (Nat.le_refl _) rfl (by decide) (by decide) (by decide) dX2_forgetSaved_13 (fun J12 => ?_)
      refine wq_iinc (lv' := [(1, vi (s10 + 1)), (0, vr Z 9 0)]) dX2_forgetSaved_14 1 rfl (by decide) rfl ?_
      refine wq_goto 2 dX2_forgetSaved_17 (by decide) ?_
      exact WQ.loc [1, 0] rfl (bk5 _ _ _)
    · exact WQ.loc [] rfl (ex6 _ _ _)
  · exact wq_vret rfl rfl dX2_forgetSaved_20

noncomputable def f_Rep_many  (I : Mem) : Option ((Int) × Mem) :=
some ((I 10 0 1), I)
set_option maxRecDepth 20000 in
theorem R_Rep_many (Z : ZT)  (I : Mem) (r : Int) (J : Mem) (hf : f_Rep_many I = some (r, J)) : Runs Z yX4_many cX4_many 1 (some .int) 1 [vr Z 10 0] I (some (vi r), J) := by
  refine Runs.of (rv := fun x => some (vi x)) (by decide +kernel) (Nat.le_of_ble_eq_true rfl) hf (fun gr => ?_)
  unfold f_Rep_many
  refine WQ.loc [0] (lv' := [(0, vr Z 10 0)]) rfl ?_
  refine wq_aload_n dX4_many_0 0 rfl rfl ?_
  refine g_10_1 ln_RX4_15 dX4_many_1 ?_
  exact wq_iret rfl rfl dX4_many_4

noncomputable def f_Rep_at (a1 : Int) (I : Mem) : Option ((Int) × Mem) :=
if (w32 a1) < 0 then
some ((-1), I)
else
if (w32 a1) < (w32 (I 10 0 1)) then
if 0 ≤ (w32 a1) ∧ (w32 a1) < (I 10 0 2) then
some ((I 25 0 (w32 a1).toNat), I)
else none
else
some ((-1), I)
set_option maxRecDepth 20000 in
theorem R_Rep_at (Z : ZT) (a1 : Int) (I : Mem) (r : Int) (J : Mem) (hf : f_Rep_at a1 I = some (r, J)) : Runs Z yX4_at cX4_at 2 (some .int) 1 [vr Z 10 0, vi a1] I (some (vi r), J) := by
  refine Runs.of (rv := fun x => some (vi x)) (by decide +kernel) (Nat.le_of_ble_eq_true rfl) hf (fun gr => ?_)
  unfold f_Rep_at
  refine WQ.loc [0, 1] (lv' := [(0, vr Z 10 0), (1, vi a1)]) rfl ?_
  refine wq_iload_n dX4_at_0 1 rfl rfl ?_
  refine wq_if_lt 21 dX4_at_1 (by decide) rfl (fun c3 => ?_) (fun c3 => ?_)
  · refine wq_iconst dX4_at_21 ?_
    exact wq_iret rfl rfl dX4_at_22
  · refine wq_iload_n dX4_at_4 1 rfl rfl ?_
    refine wq_aload_n dX4_at_5 0 rfl rfl ?_
    refine g_10_1 ln_RX4_15 dX4_at_6 ?_
    refine wq_icmp_ge 21 dX4_at_9 (by decide) rfl rfl (fun c2 => ?_) (fun c2 => ?_)
    · refine wq_aload_n dX4_at_12 0 rfl rfl ?_
      refine g_10_0 ln_RX4_9 dX4_at_13 ?_
      refine wq_iload_n dX4_at_16 1 rfl rfl ?_
      refine wq_grd (fun g1 => ?_)
      refine wq_bald (k := 25) (i := 0) rfl (by decide) rfl rfl (m := (I 10 0 2)) g1 (Nat.le_refl _) dX4_at_17 ?_
      refine wq_goto 22 dX4_at_18 (by decide) ?_
      exact wq_iret rfl rfl dX4_at_22
    · refine wq_iconst dX4_at_21 ?_
      exact wq_iret rfl rfl dX4_at_22

theorem ln_RX4_53 : Cond.constant RX4 53 (Int32.ofInt 131072) ∈ lw_good := li_5 114 (by decide +kernel) (by decide +kernel)
noncomputable def f_Rep_put_j51 (v1 : Int)   (I : Mem) : Option ((Unit) × Mem) :=
if 0 ≤ (I 10 0 2) then
if (w32 (I 10 0 1)) < (w32 (I 10 0 2)) then
if 0 ≤ (w32 (I 10 0 1)) ∧ (w32 (I 10 0 1)) < (I 10 0 2) then
ltI (sI I 25 0 (w32 (I 10 0 1)).toNat (i2b v1)) fun J10 =>
ltI (sI J10 10 0 1 ((J10 10 0 1) + 1)) fun J11 =>
some ((), J11)
else none
else
some ((), I)
else none

noncomputable def f_Rep_put (a1 : Int) (I : Mem) : Option ((Unit) × Mem) :=
if 0 ≤ (I 10 0 2) then
if (w32 (I 10 0 1)) < (w32 (I 10 0 2)) then
f_Rep_put_j51 a1 I
else
if (w32 (I 10 0 2)) < 131072 then
if 0 ≤ (w32 (2 * (I 10 0 2))) ∧ (w32 (2 * (I 10 0 2))) ≤ 262144 ∧ 0 ≤ (w32 (I 10 0 1)) ∧ (w32 (I 10 0 1)) ≤ (I 10 0 2) ∧ (w32 (I 10 0 1)) ≤ (w32 (2 * (I 10 0 2))) ∧ ∀ s : Nat, s < (w32 (I 10 0 1)).toNat → -128 ≤ I 25 0 s ∧ I 25 0 s < 128 then
ltI (grw I 25 10 0 (w32 (2 * (I 10 0 2))) (w32 (I 10 0 1))) fun J4 =>
f_Rep_put_j51 a1 J4
else none
else
f_Rep_put_j51 a1 I
else none
set_option maxRecDepth 20000 in
theorem R_Rep_put (Z : ZT) (a1 : Int) (I : Mem) (r : Unit) (J : Mem) (hf : f_Rep_put a1 I = some (r, J)) : Runs Z yX4_put cX4_put 3 (none) 1 [vr Z 10 0, vi a1] I (none, J) := by
  refine Runs.of (rv := fun _ => none) (by decide +kernel) (Nat.le_of_ble_eq_true rfl) hf (fun gr => ?_)
  unfold f_Rep_put
  refine WQ.loc [0, 1] (lv' := [(0, vr Z 10 0), (1, vi a1)]) rfl ?_
  refine wq_aload_n dX4_put_0 0 rfl rfl ?_
  refine g_10_1 ln_RX4_15 dX4_put_1 ?_
  refine wq_aload_n dX4_put_4 0 rfl rfl ?_
  refine g_10_0 ln_RX4_9 dX4_put_5 ?_
  refine wq_grd (fun g1 => ?_)
  refine wq_alen (k := 25) (i := 0) (t0 := 2) rfl rfl (by decide) rfl (alen_ok g1) dX4_put_8 ?_
  have hj2 : ∀ (gr14 : Nat → Nat)   (J13 : Mem), WQ Z (yX4_put, cX4_put, 3, none, 1) I gr14 51 [(0, vr Z 10 0), (1, vi a1)] [] J13 (f_Rep_put_j51 a1 J13) (fun b K => some (.inl ((fun _ => none) b), K)) := by
    intro gr14 J13
    unfold f_Rep_put_j51
    refine wq_aload_n dX4_put_51 0 rfl rfl ?_
    refine g_10_1 ln_RX4_15 dX4_put_52 ?_
    refine wq_aload_n dX4_put_55 0 rfl rfl ?_
    refine g_10_0 ln_RX4_9 dX4_put_56 ?_
    refine wq_grd (fun g15 => ?_)
    refine wq_alen (k := 25) (i := 0) (t0 := 2) rfl rfl (by decide) rfl (alen_ok g15) dX4_put_59 ?_
    refine wq_icmp_ge 84 dX4_put_60 (by decide) rfl rfl (fun c19 => ?_) (fun c19 => ?_)
    · refine wq_aload_n dX4_put_63 0 rfl rfl ?_
      refine g_10_0 ln_RX4_9 dX4_put_64 ?_
      refine wq_aload_n dX4_put_67 0 rfl rfl ?_
      refine g_10_1 ln_RX4_15 dX4_put_68 ?_
      refine wq_iload_n dX4_put_71 1 rfl rfl ?_
      refine wq_i2b dX4_put_72 ?_
      refine wq_grd (fun g16 => ?_)
      refine wq_bast (fun K hK => by show arI _ (K 10 0 2).toNat _ = _; rw [hK]) rfl g16 (Nat.le_refl _) (i2b_nar _) dX4_put_73 (fun J17 => ?_)
      refine wq_aload_n dX4_put_74 0 rfl rfl ?_
      refine wq_dup dX4_put_75 rfl ?_
      refine g_10_1 ln_RX4_15 dX4_put_76 ?_
      refine wq_iconst dX4_put_79 ?_
      refine wq_iadd dX4_put_80 ?_
      refine p_10_1 ln_RX4_15 dX4_put_81 (fun J18 => ?_)
      exact wq_vret rfl rfl dX4_put_84
    · exact wq_vret rfl rfl dX4_put_84
  refine wq_icmp_lt 51 dX4_put_9 (by decide) rfl rfl (fun c7 => ?_) (fun c7 => ?_)
  · exact WQ.loc [0, 1] rfl (hj2 _   _)
  · refine wq_aload_n dX4_put_12 0 rfl rfl ?_
    refine g_10_0 ln_RX4_9 dX4_put_13 ?_
    refine wq_alen (k := 25) (i := 0) (t0 := 2) rfl rfl (by decide) rfl (alen_ok g1) dX4_put_16 ?_
    refine wq_ldc ln_RX4_53 dX4_put_17 ?_
    refine wq_icmp_ge 51 dX4_put_19 (by decide) rfl rfl (fun c6 => ?_) (fun c6 => ?_)
    · refine wq_iconst dX4_put_22 ?_
      refine wq_aload_n dX4_put_23 0 rfl rfl ?_
      refine g_10_0 ln_RX4_9 dX4_put_24 ?_
      refine wq_alen (k := 25) (i := 0) (t0 := 2) rfl rfl (by decide) rfl (alen_ok g1) dX4_put_27 ?_
      refine wq_imul dX4_put_28 ?_
      refine WQ.loc [0, 1] (lv' := [(0, vr Z 10 0), (1, vi a1)]) rfl ?_
      refine wq_grd (fun g3 => ?_)
      refine wq_growB (lv' := [(0, vr Z 10 0), (1, vi a1)]) rfl (by decide) rfl rfl rfl rfl rfl g3 (fun gr5 J4 => ?_)
      exact WQ.loc [0, 1] rfl (hj2 _   _)
    · exact WQ.loc [0, 1] rfl (hj2 _   _)

theorem ln_RX12_36 : Cond.fieldLink RX12 36 RX12 "source" "LPairRules$Source;" ∈ lw_good := li_2 104 (by decide +kernel) (by decide +kernel)
theorem M_Src_bytesIn : MwV yX8_bytesIn cX8_bytesIn 4 (some .int) 1 := ⟨li_2 138 (by decide +kernel) (by decide +kernel), li_2 136 (by decide +kernel) (by decide +kernel), li_2 137 (by decide +kernel) (by decide +kernel), li_1 7 (by decide +kernel) (by decide +kernel), by decide +kernel⟩
theorem M_Src_hasRoomFor : MwV yX8_hasRoomFor cX8_hasRoomFor 2 (some .boolean) 1 := ⟨li_2 142 (by decide +kernel) (by decide +kernel), li_2 140 (by decide +kernel) (by decide +kernel), li_2 141 (by decide +kernel) (by decide +kernel), li_1 7 (by decide +kernel) (by decide +kernel), by decide +kernel⟩
theorem M_Src_take : MwV yX8_take cX8_take 4 (none) 1 := ⟨li_2 146 (by decide +kernel) (by decide +kernel), li_2 144 (by decide +kernel) (by decide +kernel), li_2 145 (by decide +kernel) (by decide +kernel), li_1 7 (by decide +kernel) (by decide +kernel), by decide +kernel⟩
theorem M_Src_many : MwV yX8_many cX8_many 1 (some .int) 0 := ⟨li_2 150 (by decide +kernel) (by decide +kernel), li_2 148 (by decide +kernel) (by decide +kernel), li_2 149 (by decide +kernel) (by decide +kernel), li_1 7 (by decide +kernel) (by decide +kernel), by decide +kernel⟩
theorem ln_RX12_91 : Cond.methodLink RX12 91 yX8_many ∈ lw_good := li_2 147 (by decide +kernel) (by decide +kernel)
theorem ln_RX12_87 : Cond.methodLink RX12 87 yX8_take ∈ lw_good := li_2 143 (by decide +kernel) (by decide +kernel)
theorem ln_RX12_83 : Cond.methodLink RX12 83 yX8_hasRoomFor ∈ lw_good := li_2 139 (by decide +kernel) (by decide +kernel)
theorem ln_RX12_79 : Cond.methodLink RX12 79 yX8_bytesIn ∈ lw_good := li_2 135 (by decide +kernel) (by decide +kernel)
noncomputable def f_PR_feed (a1 : Int) (a2 : Int) (a3 : Int) (a4 : Int) (a5 : Int) (I : Mem) : Option ((Int) × Mem) :=
bnd (f_Src_bytesIn a1 I) fun x3 J2 =>
bnd (f_Src_bytesIn a2 J2) fun x6 J5 =>
bnd (f_Src_bytesIn a3 J5) fun x9 J8 =>
bnd (f_Src_bytesIn a4 J8) fun x12 J11 =>
bnd (f_Src_bytesIn a5 J11) fun x15 J14 =>
bnd (f_Src_hasRoomFor ((((x3 + x6) + x9) + x12) + x15) J14) fun x18 J17 =>
if (w32 x18) = 0 then
some ((-1), J17)
else
bnd (f_Src_take a1 J17) fun _ J20 =>
bnd (f_Src_take a2 J20) fun _ J23 =>
bnd (f_Src_take a3 J23) fun _ J26 =>
bnd (f_Src_take a4 J26) fun _ J29 =>
bnd (f_Src_take a5 J29) fun _ J32 =>
some ((J32 6 0 1), J32)
set_option maxRecDepth 20000 in
theorem R_PR_feed (Z : ZT) (a1 : Int) (a2 : Int) (a3 : Int) (a4 : Int) (a5 : Int) (I : Mem) (r : Int) (J : Mem) (hf : f_PR_feed a1 a2 a3 a4 a5 I = some (r, J)) : Runs Z yX12_feed cX12_feed 7 (some .int) 2 [vr Z 0 0, vi a1, vi a2, vi a3, vi a4, vi a5] I (some (vi r), J) := by
  refine Runs.of (rv := fun x => some (vi x)) (by decide +kernel) (Nat.le_of_ble_eq_true rfl) hf (fun gr => ?_)
  unfold f_PR_feed
  refine WQ.loc [0, 1, 2, 3, 4, 5] (lv' := [(0, vr Z 0 0), (1, vi a1), (2, vi a2), (3, vi a3), (4, vi a4), (5, vi a5)]) rfl ?_
  refine wq_aload_n dX12_feed_0 0 rfl rfl ?_
  refine g_0_4 ln_RX12_36 dX12_feed_1 ?_
  refine wq_iload_n dX12_feed_4 1 rfl rfl ?_
  refine wq_cVi M_Src_bytesIn (R_Src_bytesIn Z a1 _) ob_6 rfl rfl (by decide) (by decide) (Nat.le_of_ble_eq_true rfl) ln_RX12_79 dX12_feed_5 (fun gr1 x3 J2 => ?_)
  refine wq_aload_n dX12_feed_8 0 rfl rfl ?_
  refine g_0_4 ln_RX12_36 dX12_feed_9 ?_
  refine wq_iload_n dX12_feed_12 2 rfl rfl ?_
  refine wq_cVi M_Src_bytesIn (R_Src_bytesIn Z a2 _) ob_6 rfl rfl (by decide) (by decide) (Nat.le_of_ble_eq_true rfl) ln_RX12_79 dX12_feed_13 (fun gr4 x6 J5 => ?_)
  refine wq_iadd dX12_feed_16 ?_
  refine wq_aload_n dX12_feed_17 0 rfl rfl ?_
  refine g_0_4 ln_RX12_36 dX12_feed_18 ?_
  refine wq_iload_n dX12_feed_21 3 rfl rfl ?_
  refine wq_cVi M_Src_bytesIn (R_Src_bytesIn Z a3 _) ob_6 rfl rfl (by decide) (by decide) (Nat.le_of_ble_eq_true rfl) ln_RX12_79 dX12_feed_22 (fun gr7 x9 J8 => ?_)
  refine wq_iadd dX12_feed_25 ?_
  refine wq_aload_n dX12_feed_26 0 rfl rfl ?_
  refine g_0_4 ln_RX12_36 dX12_feed_27 ?_
  refine wq_iload dX12_feed_30 4 rfl ?_
  refine wq_cVi M_Src_bytesIn (R_Src_bytesIn Z a4 _) ob_6 rfl rfl (by decide) (by decide) (Nat.le_of_ble_eq_true rfl) ln_RX12_79 dX12_feed_32 (fun gr10 x12 J11 => ?_)
  refine wq_iadd dX12_feed_35 ?_
  refine wq_aload_n dX12_feed_36 0 rfl rfl ?_
  refine g_0_4 ln_RX12_36 dX12_feed_37 ?_
  refine wq_iload dX12_feed_40 5 rfl ?_
  refine wq_cVi M_Src_bytesIn (R_Src_bytesIn Z a5 _) ob_6 rfl rfl (by decide) (by decide) (Nat.le_of_ble_eq_true rfl) ln_RX12_79 dX12_feed_42 (fun gr13 x15 J14 => ?_)
  refine wq_iadd dX12_feed_45 ?_
  refine wq_istore (lv' := [(6, vi ((((x3 + x6) + x9) + x12) + x15)), (0, vr Z 0 0), (1, vi a1), (2, vi a2), (3, vi a3), (4, vi a4), (5, vi a5)]) dX12_feed_46 (by decide) rfl ?_
  refine wq_aload_n dX12_feed_48 1 rfl rfl ?_
  refine g_0_4 ln_RX12_36 dX12_feed_49 ?_
  refine wq_iload dX12_feed_52 0 rfl ?_
  refine wq_cVi M_Src_hasRoomFor (R_Src_hasRoomFor Z ((((x3 + x6) + x9) + x12) + x15) _) ob_6 rfl rfl (by decide) (by decide) (Nat.le_of_ble_eq_true rfl) ln_RX12_83 dX12_feed_54 (fun gr16 x18 J17 => ?_)
  refine wq_if_ne 62 dX12_feed_57 (by decide) rfl (fun c35 => ?_) (fun c35 => ?_)
  · refine wq_iconst dX12_feed_60 ?_
    exact wq_iret rfl rfl dX12_feed_61
  · refine wq_aload_n dX12_feed_62 1 rfl rfl ?_
    refine g_0_4 ln_RX12_36 dX12_feed_63 ?_
    refine wq_iload_n dX12_feed_66 2 rfl rfl ?_
    refine wq_cVv M_Src_take (R_Src_take Z a1 _) ob_6 rfl rfl (by decide) (by decide) (Nat.le_of_ble_eq_true rfl) ln_RX12_87 dX12_feed_67 (fun gr19 _ J20 => ?_)
    refine wq_aload_n dX12_feed_70 1 rfl rfl ?_
    refine g_0_4 ln_RX12_36 dX12_feed_71 ?_
    refine wq_iload_n dX12_feed_74 3 rfl rfl ?_
    refine wq_cVv M_Src_take (R_Src_take Z a2 _) ob_6 rfl rfl (by decide) (by decide) (Nat.le_of_ble_eq_true rfl) ln_RX12_87 dX12_feed_75 (fun gr22 _ J23 => ?_)
    refine wq_aload_n dX12_feed_78 1 rfl rfl ?_
    refine g_0_4 ln_RX12_36 dX12_feed_79 ?_
    refine wq_iload_n dX12_feed_82 4 rfl rfl ?_
    refine wq_cVv M_Src_take (R_Src_take Z a3 _) ob_6 rfl rfl (by decide) (by decide) (Nat.le_of_ble_eq_true rfl) ln_RX12_87 dX12_feed_83 (fun gr25 _ J26 => ?_)
    refine wq_aload_n dX12_feed_86 1 rfl rfl ?_
    refine g_0_4 ln_RX12_36 dX12_feed_87 ?_
    refine wq_iload dX12_feed_90 5 rfl ?_
    refine wq_cVv M_Src_take (R_Src_take Z a4 _) ob_6 rfl rfl (by decide) (by decide) (Nat.le_of_ble_eq_true rfl) ln_RX12_87 dX12_feed_92 (fun gr28 _ J29 => ?_)
    refine wq_aload_n dX12_feed_95 1 rfl rfl ?_
    refine g_0_4 ln_RX12_36 dX12_feed_96 ?_
    refine wq_iload dX12_feed_99 6 rfl ?_
    refine wq_cVv M_Src_take (R_Src_take Z a5 _) ob_6 rfl rfl (by decide) (by decide) (Nat.le_of_ble_eq_true rfl) ln_RX12_87 dX12_feed_101 (fun gr31 _ J32 => ?_)
    refine wq_aload_n dX12_feed_104 1 rfl rfl ?_
    refine g_0_4 ln_RX12_36 dX12_feed_105 ?_
    refine wq_pV (v := vi (J32 6 0 1)) M_Src_many (R_Src_many Z  _ _ _ rfl) ob_6 rfl rfl (by decide) (by decide) (Nat.le_of_ble_eq_true rfl) ln_RX12_91 dX12_feed_108 (fun gr34 => ?_)
    exact wq_iret rfl rfl dX12_feed_111

theorem ln_RX12_12 : Cond.fieldLink RX12 12 RX12 "now" "LPairRules$Grammar;" ∈ lw_good := li_2 100 (by decide +kernel) (by decide +kernel)
theorem M_G_body : MwV yX1_body cX1_body 2 (some (.object RX5)) 1 := ⟨li_3 13 (by decide +kernel) (by decide +kernel), li_3 11 (by decide +kernel) (by decide +kernel), li_3 12 (by decide +kernel) (by decide +kernel), li_1 2 (by decide +kernel) (by decide +kernel), by decide +kernel⟩
theorem ln_RX12_207 : Cond.methodLink RX12 207 yX5_at ∈ lw_good := li_6 59 (by decide +kernel) (by decide +kernel)
theorem ln_RX12_191 : Cond.methodLink RX12 191 yX1_body ∈ lw_good := li_6 40 (by decide +kernel) (by decide +kernel)
noncomputable def f_PR_bodyAt (a1 : Int) (a2 : Int) (I : Mem) : Option ((Int ⊕ String) × Mem) :=
bnd (f_G_body 0 a1 I) fun x3 J2 =>
if x3 < 516 then
bnd (f_Row_at x3 a2 J2) fun x7 J6 =>
if (w32 x7) = (-1) then
ltI (thrw J6) fun J8 =>
some (.inr xIO, J8)
else
some (.inl x7, J6)
else none
set_option maxRecDepth 20000 in
theorem R_PR_bodyAt (Z : ZT) (a1 : Int) (a2 : Int) (I : Mem) : RX Z yX12_bodyAt cX12_bodyAt 4 (some .int) 6 [vr Z 0 0, vi a1, vi a2] I (fun x => some (vi x)) (f_PR_bodyAt a1 a2 I) := by
  refine RX.of (by decide +kernel) (Nat.le_of_ble_eq_true rfl) (fun gr => ?_)
  unfold f_PR_bodyAt
  refine WQ.loc [0, 1, 2] (lv' := [(0, vr Z 0 0), (1, vi a1), (2, vi a2)]) rfl ?_
  refine wq_aload_n dX12_bodyAt_0 0 rfl rfl ?_
  refine g_0_0 ln_RX12_12 dX12_bodyAt_1 ?_
  refine wq_iload_n dX12_bodyAt_4 1 rfl rfl ?_
  refine wq_cVr 2 M_G_body (R_G_body Z 0 a1 _) (ob_1 (by decide)) rfl rfl (by decide) (by decide) (Nat.le_of_ble_eq_true rfl) ln_RX12_191 dX12_bodyAt_5 (fun gr1 x3 J2 => ?_)
  refine wq_grd (fun g4 => ?_)
  refine wq_iload_n dX12_bodyAt_8 2 rfl rfl ?_
  refine wq_cVi M_Row_at (R_Row_at Z x3 a2 _) (ob_2 g4) rfl rfl (by decide) (by decide) (Nat.le_of_ble_eq_true rfl) ln_RX12_207 dX12_bodyAt_9 (fun gr5 x7 J6 => ?_)
  refine wq_istore_n (lv' := [(3, vi x7), (0, vr Z 0 0), (1, vi a1), (2, vi a2)]) dX12_bodyAt_12 rfl (by decide) rfl ?_
  refine wq_iload_n dX12_bodyAt_13 0 rfl rfl ?_
  refine wq_iconst dX12_bodyAt_14 ?_
  refine wq_icmp_ne 26 dX12_bodyAt_15 (by decide) rfl rfl (fun c9 => ?_) (fun c9 => ?_)
  · exact wq_throw thr_IO (Nat.le_of_ble_eq_true rfl) (by decide +kernel) rfl dX12_bodyAt_18 dX12_bodyAt_21 dX12_bodyAt_22 dX12_bodyAt_25
  · refine wq_iload_n dX12_bodyAt_26 0 rfl rfl ?_
    exact wq_iret rfl rfl dX12_bodyAt_27

theorem M_G_startRow : MwV yX1_startRow cX1_startRow 1 (some (.object RX5)) 0 := ⟨li_3 75 (by decide +kernel) (by decide +kernel), li_3 73 (by decide +kernel) (by decide +kernel), li_3 74 (by decide +kernel) (by decide +kernel), li_1 2 (by decide +kernel) (by decide +kernel), by decide +kernel⟩
theorem ln_RX12_138 : Cond.methodLink RX12 138 yX1_startRow ∈ lw_good := li_5 48 (by decide +kernel) (by decide +kernel)
noncomputable def f_PR_startAt (a1 : Int) (I : Mem) : Option ((Int ⊕ String) × Mem) :=
bnd (f_Row_at (43 * 0) a1 I) fun x4 J3 =>
if (w32 x4) = (-1) then
ltI (thrw J3) fun J5 =>
some (.inr xIO, J5)
else
some (.inl x4, J3)
set_option maxRecDepth 20000 in
theorem R_PR_startAt (Z : ZT) (a1 : Int) (I : Mem) : RX Z yX12_startAt cX12_startAt 3 (some .int) 6 [vr Z 0 0, vi a1] I (fun x => some (vi x)) (f_PR_startAt a1 I) := by
  refine RX.of (by decide +kernel) (Nat.le_of_ble_eq_true rfl) (fun gr => ?_)
  unfold f_PR_startAt
  refine WQ.loc [0, 1] (lv' := [(0, vr Z 0 0), (1, vi a1)]) rfl ?_
  refine wq_aload_n dX12_startAt_0 0 rfl rfl ?_
  refine g_0_0 ln_RX12_12 dX12_startAt_1 ?_
  refine wq_pV (v := vr Z 2 (43 * 0)) M_G_startRow (R_G_startRow Z 0 _ _ _ (if_pos (by decide))) (ob_1 (by decide)) rfl rfl (by decide) (by decide) (Nat.le_of_ble_eq_true rfl) ln_RX12_138 dX12_startAt_4 (fun gr1 => ?_)
  refine wq_iload_n dX12_startAt_7 1 rfl rfl ?_
  refine wq_cVi M_Row_at (R_Row_at Z (43 * 0) a1 _) (ob_2 (by omega)) rfl rfl (by decide) (by decide) (Nat.le_of_ble_eq_true rfl) ln_RX12_207 dX12_startAt_8 (fun gr2 x4 J3 => ?_)
  refine wq_istore_n (lv' := [(2, vi x4), (0, vr Z 0 0), (1, vi a1)]) dX12_startAt_11 rfl (by decide) rfl ?_
  refine wq_iload_n dX12_startAt_12 0 rfl rfl ?_
  refine wq_iconst dX12_startAt_13 ?_
  refine wq_icmp_ne 25 dX12_startAt_14 (by decide) rfl rfl (fun c6 => ?_) (fun c6 => ?_)
  · exact wq_throw thr_IO (Nat.le_of_ble_eq_true rfl) (by decide +kernel) rfl dX12_startAt_17 dX12_startAt_20 dX12_startAt_21 dX12_startAt_24
  · refine wq_iload_n dX12_startAt_25 0 rfl rfl ?_
    exact wq_iret rfl rfl dX12_startAt_26

theorem M_G_accountOf : MwV yX1_accountOf cX1_accountOf 2 (some .int) 1 := ⟨li_5 34 (by decide +kernel) (by decide +kernel), li_5 32 (by decide +kernel) (by decide +kernel), li_5 33 (by decide +kernel) (by decide +kernel), li_1 2 (by decide +kernel) (by decide +kernel), by decide +kernel⟩
theorem ln_RX12_223 : Cond.methodLink RX12 223 yX1_accountOf ∈ lw_good := li_5 31 (by decide +kernel) (by decide +kernel)
noncomputable def f_PR_account (a1 : Int) (I : Mem) : Option ((Int ⊕ String) × Mem) :=
if (w32 a1) < 0 then
ltI (thrw I) fun J1 =>
some (.inr xIA, J1)
else
if (w32 a1) < 9 then
bnd (f_G_accountOf 0 a1 I) fun x4 J3 =>
some (.inl x4, J3)
else
ltI (thrw I) fun J5 =>
some (.inr xIA, J5)
set_option maxRecDepth 20000 in
theorem R_PR_account (Z : ZT) (a1 : Int) (I : Mem) : RX Z yX12_account cX12_account 2 (some .int) 6 [vr Z 0 0, vi a1] I (fun x => some (vi x)) (f_PR_account a1 I) := by
  refine RX.of (by decide +kernel) (Nat.le_of_ble_eq_true rfl) (fun gr => ?_)
  unfold f_PR_account
  refine WQ.loc [0, 1] (lv' := [(0, vr Z 0 0), (1, vi a1)]) rfl ?_
  refine wq_iload_n dX12_account_0 1 rfl rfl ?_
  refine wq_if_lt 10 dX12_account_1 (by decide) rfl (fun c7 => ?_) (fun c7 => ?_)
  · exact wq_throw thr_IA (Nat.le_of_ble_eq_true rfl) (by decide +kernel) rfl dX12_account_10 dX12_account_13 dX12_account_14 dX12_account_17
  · refine wq_iload_n dX12_account_4 1 rfl rfl ?_
    refine wq_bipush dX12_account_5 (by decide) ?_
    refine wq_icmp_lt 18 dX12_account_7 (by decide) rfl rfl (fun c6 => ?_) (fun c6 => ?_)
    · refine wq_aload_n dX12_account_18 0 rfl rfl ?_
      refine g_0_0 ln_RX12_12 dX12_account_19 ?_
      refine wq_iload_n dX12_account_22 1 rfl rfl ?_
      refine wq_cVi M_G_accountOf (R_G_accountOf Z 0 a1 _) (ob_1 (by decide)) rfl rfl (by decide) (by decide) (Nat.le_of_ble_eq_true rfl) ln_RX12_223 dX12_account_23 (fun gr2 x4 J3 => ?_)
      exact wq_iret rfl rfl dX12_account_26
    · exact wq_throw thr_IA (Nat.le_of_ble_eq_true rfl) (by decide +kernel) rfl dX12_account_10 dX12_account_13 dX12_account_14 dX12_account_17

theorem ln_RX12_68 : Cond.fieldLink RX12 68 RX12 "written" "LPairRules$Report;" ∈ lw_good := li_2 108 (by decide +kernel) (by decide +kernel)
theorem M_Rep_at : MwV yX4_at cX4_at 2 (some .int) 1 := ⟨li_5 133 (by decide +kernel) (by decide +kernel), li_5 131 (by decide +kernel) (by decide +kernel), li_5 132 (by decide +kernel) (by decide +kernel), li_1 13 (by decide +kernel) (by decide +kernel), by decide +kernel⟩
theorem ln_RX12_312 : Cond.methodLink RX12 312 yX4_at ∈ lw_good := li_5 130 (by decide +kernel) (by decide +kernel)
noncomputable def f_PR_reportByte (a1 : Int) (I : Mem) : Option ((Int) × Mem) :=
bnd (f_Rep_at a1 I) fun x3 J2 =>
some (x3, J2)
set_option maxRecDepth 20000 in
theorem R_PR_reportByte (Z : ZT) (a1 : Int) (I : Mem) (r : Int) (J : Mem) (hf : f_PR_reportByte a1 I = some (r, J)) : Runs Z yX12_reportByte cX12_reportByte 2 (some .int) 2 [vr Z 0 0, vi a1] I (some (vi r), J) := by
  refine Runs.of (rv := fun x => some (vi x)) (by decide +kernel) (Nat.le_of_ble_eq_true rfl) hf (fun gr => ?_)
  unfold f_PR_reportByte
  refine WQ.loc [0, 1] (lv' := [(0, vr Z 0 0), (1, vi a1)]) rfl ?_
  refine wq_aload_n dX12_reportByte_0 0 rfl rfl ?_
  refine g_0_8 ln_RX12_68 dX12_reportByte_1 ?_
  refine wq_iload_n dX12_reportByte_4 1 rfl rfl ?_
  refine wq_cVi M_Rep_at (R_Rep_at Z a1 _) ob_10 rfl rfl (by decide) (by decide) (Nat.le_of_ble_eq_true rfl) ln_RX12_312 dX12_reportByte_5 (fun gr1 x3 J2 => ?_)
  exact wq_iret rfl rfl dX12_reportByte_8

theorem M_Src_errorAt : MwV yX8_errorAt cX8_errorAt 1 (some .int) 0 := ⟨li_3 121 (by decide +kernel) (by decide +kernel), li_3 119 (by decide +kernel) (by decide +kernel), li_3 120 (by decide +kernel) (by decide +kernel), li_1 7 (by decide +kernel) (by decide +kernel), by decide +kernel⟩
theorem ln_RX12_331 : Cond.methodLink RX12 331 yX8_errorAt ∈ lw_good := li_3 118 (by decide +kernel) (by decide +kernel)
theorem M_Src_errorCode : MwV yX8_errorCode cX8_errorCode 1 (some .int) 0 := ⟨li_3 125 (by decide +kernel) (by decide +kernel), li_3 123 (by decide +kernel) (by decide +kernel), li_3 124 (by decide +kernel) (by decide +kernel), li_1 7 (by decide +kernel) (by decide +kernel), by decide +kernel⟩
theorem ln_RX12_333 : Cond.methodLink RX12 333 yX8_errorCode ∈ lw_good := li_3 122 (by decide +kernel) (by decide +kernel)
noncomputable def f_PR_failure  (I : Mem) : Option ((Int) × Mem) :=
ltI (sI I 0 0 9 (I 6 0 7)) fun J2 =>
some (((-10) - (J2 6 0 6)), J2)
set_option maxRecDepth 20000 in
theorem R_PR_failure (Z : ZT)  (I : Mem) (r : Int) (J : Mem) (hf : f_PR_failure I = some (r, J)) : Runs Z yX12_failure cX12_failure 1 (some .int) 2 [vr Z 0 0] I (some (vi r), J) := by
  refine Runs.of (rv := fun x => some (vi x)) (by decide +kernel) (Nat.le_of_ble_eq_true rfl) hf (fun gr => ?_)
  unfold f_PR_failure
  refine WQ.loc [0] (lv' := [(0, vr Z 0 0)]) rfl ?_
  refine wq_aload_n dX12_failure_0 0 rfl rfl ?_
  refine wq_aload_n dX12_failure_1 0 rfl rfl ?_
  refine g_0_4 ln_RX12_36 dX12_failure_2 ?_
  refine wq_pV (v := vi (I 6 0 7)) M_Src_errorAt (R_Src_errorAt Z  _ _ _ rfl) ob_6 rfl rfl (by decide) (by decide) (Nat.le_of_ble_eq_true rfl) ln_RX12_331 dX12_failure_5 (fun gr1 => ?_)
  refine p_0_9 ln_RX12_72 dX12_failure_8 (fun J2 => ?_)
  refine wq_bipush dX12_failure_11 (by decide) ?_
  refine wq_aload_n dX12_failure_13 0 rfl rfl ?_
  refine g_0_4 ln_RX12_36 dX12_failure_14 ?_
  refine wq_pV (v := vi (J2 6 0 6)) M_Src_errorCode (R_Src_errorCode Z  _ _ _ rfl) ob_6 rfl rfl (by decide) (by decide) (Nat.le_of_ble_eq_true rfl) ln_RX12_333 dX12_failure_17 (fun gr3 => ?_)
  refine wq_isub dX12_failure_20 ?_
  exact wq_iret rfl rfl dX12_failure_21

theorem M_Row_clear : MwV yX5_clear cX5_clear 1 (none) 0 := ⟨li_2 85 (by decide +kernel) (by decide +kernel), li_2 83 (by decide +kernel) (by decide +kernel), li_2 84 (by decide +kernel) (by decide +kernel), li_1 3 (by decide +kernel) (by decide +kernel), by decide +kernel⟩
theorem ln_RX1_42 : Cond.methodLink RX1 42 yX5_clear ∈ lw_good := li_2 82 (by decide +kernel) (by decide +kernel)
noncomputable def f_G_clear_w16 (v0 : Nat) (s : Int) (I : Mem) : Option (((Int) ⊕ (Unit)) × Mem) :=
if (w32 s) < 40 then
if 0 ≤ (w32 s) ∧ (w32 s) < 40 then
bnd (f_Row_clear (43 * v0 + 3 + (w32 s).toNat) I) fun _ J10 =>
ltI (sI J10 14 v0 (w32 s).toNat 0) fun J12 =>
some (.inl (s + 1), J12)
else none
else
some (.inr (), I)

noncomputable def f_G_clear_w46 (v0 : Nat) (s : Int) (I : Mem) : Option (((Int) ⊕ (Unit)) × Mem) :=
if (w32 s) < 9 then
if 0 ≤ (w32 s) ∧ (w32 s) < 9 then
ltI (sI I 15 v0 (w32 s).toNat 0) fun J32 =>
some (.inl (s + 1), J32)
else none
else
some (.inr (), I)

noncomputable def f_G_clear (t : Nat) (I : Mem) : Option ((Unit) × Mem) :=
if t < 12 then
bnd (f_Row_clear (43 * t) I) fun _ J2 =>
bnd (f_Row_clear (43 * t + 1) J2) fun _ J5 =>
bnd (whl (f_G_clear_w16 t) 0 J5) fun r28 J29 =>
bnd (whl (f_G_clear_w46 t) 0 J29) fun r44 J45 =>
ltI (sI J45 1 t 6 2) fun J47 =>
ltI (sI J47 1 t 7 0) fun J48 =>
ltI (sI J48 1 t 8 1) fun J49 =>
ltI (sI J49 1 t 9 0) fun J50 =>
some ((), J50)
else none
set_option maxRecDepth 20000 in
theorem R_G_clear (Z : ZT) (t : Nat) (I : Mem) (r : Unit) (J : Mem) (hf : f_G_clear t I = some (r, J)) : Runs Z yX1_clear cX1_clear 2 (none) 2 [vr Z 1 t] I (none, J) := by
  refine Runs.of (rv := fun _ => none) (by decide +kernel) (Nat.le_of_ble_eq_true rfl) hf (fun gr => ?_)
  unfold f_G_clear
  refine WQ.loc [0] (lv' := [(0, vr Z 1 t)]) rfl ?_
  refine wq_grd (fun ht => ?_)
  refine wq_aload_n dX1_clear_0 0 rfl rfl ?_
  refine g_1_0 ht ln_RX1_12 dX1_clear_1 ?_
  refine wq_cVv M_Row_clear (R_Row_clear Z (43 * t) _) (ob_2 (by omega)) rfl rfl (by decide) (by decide) (Nat.le_of_ble_eq_true rfl) ln_RX1_42 dX1_clear_4 (fun gr1 _ J2 => ?_)
  refine wq_aload_n dX1_clear_7 0 rfl rfl ?_
  refine g_1_1 ht ln_RX1_18 dX1_clear_8 ?_
  refine wq_cVv M_Row_clear (R_Row_clear Z (43 * t + 1) _) (ob_2 (by omega)) rfl rfl (by decide) (by decide) (Nat.le_of_ble_eq_true rfl) ln_RX1_42 dX1_clear_11 (fun gr4 _ J5 => ?_)
  refine wq_iconst dX1_clear_14 ?_
  refine wq_istore_n (lv' := [(1, vi 0), (0, vr Z 1 t)]) dX1_clear_15 rfl (by decide) rfl ?_
  refine WQ.loc [1, 0] (lv' := [(0, vr Z 1 t), (1, vi 0)]) rfl ?_
  refine wq_loopS (fun s20 => [(0, vr Z 1 t), (1, vi s20)]) 44 (fun _ => [(0, vr Z 1 t)]) (fun κ14 bk15 ex16 gr19 s20 J18 => ?_) (fun gr30 r28 J29 => ?_) gr4 _ rfl
  · unfold f_G_clear_w16
    refine wq_iload_n dX1_clear_16 1 rfl rfl ?_
    refine wq_bipush dX1_clear_17 (by decide) ?_
    refine wq_icmp_ge 44 dX1_clear_19 (by decide) rfl rfl (fun c27 => ?_) (fun c27 => ?_)
    · refine wq_aload_n dX1_clear_22 0 rfl rfl ?_
      refine g_1_2 ht ln_RX1_21 dX1_clear_23 ?_
      refine wq_iload_n dX1_clear_26 1 rfl rfl ?_
      refine wq_grd (fun g21 => ?_)
      refine wq_aald (k := 13) (i := t) (t0 := 4) rfl rfl ht rfl rfl (m := 40) g21 (Nat.le_refl _) dX1_clear_27 ?_
      have hb22 : (43 * t + 3 + (w32 s20).toNat) < 516 := by omega
      refine wq_cVv M_Row_clear (R_Row_clear Z (43 * t + 3 + (w32 s20).toNat) _) (ob_2 hb22) rfl rfl (by decide) (by decide) (Nat.le_of_ble_eq_true rfl) ln_RX1_42 dX1_clear_28 (fun gr23 _ J24 => ?_)
      refine wq_aload_n dX1_clear_31 0 rfl rfl ?_
      refine g_1_4 ht ln_RX1_28 dX1_clear_32 ?_
      refine wq_iload_n dX1_clear_35 1 rfl rfl ?_
      refine wq_iconst dX1_clear_36 ?_
      refine wq_iast (k := 14) (i := t) (fun _ _ => rfl) ht rfl rfl (m := 40) g21 (Nat.le_refl _) (by decide) (by decide) (by decide) dX1_clear_37 (fun J26 => ?_)
      refine wq_iinc (lv' := [(1, vi (s20 + 1)), (0, vr Z 1 t)]) dX1_clear_38 1 rfl (by decide) rfl ?_
      refine wq_goto 16 dX1_clear_41 (by decide) ?_
      exact WQ.loc [1, 0] rfl (bk15 _ _ _)
    · exact WQ.loc [0] rfl (ex16 _ _ _)
  · refine wq_iconst dX1_clear_44 ?_
    refine wq_istore_n (lv' := [(1, vi 0), (0, vr Z 1 t)]) dX1_clear_45 rfl (by decide) rfl ?_
    refine WQ.loc [1, 0] (lv' := [(0, vr Z 1 t), (1, vi 0)]) rfl ?_
    refine wq_loopS (fun s40 => [(0, vr Z 1 t), (1, vi s40)]) 65 (fun _ => [(0, vr Z 1 t)]) (fun κ34 bk35 ex36 gr39 s40 J38 => ?_) (fun gr46 r44 J45 => ?_) gr30 _ rfl
    · unfold f_G_clear_w46
      refine wq_iload_n dX1_clear_46 1 rfl rfl ?_
      refine wq_bipush dX1_clear_47 (by decide) ?_
      refine wq_icmp_ge 65 dX1_clear_49 (by decide) rfl rfl (fun c43 => ?_) (fun c43 => ?_)
      · refine wq_aload_n dX1_clear_52 0 rfl rfl ?_
        refine g_1_5 ht ln_RX1_32 dX1_clear_53 ?_
        refine wq_iload_n dX1_clear_56 1 rfl rfl ?_
        refine wq_iconst dX1_clear_57 ?_
        refine wq_grd (fun g41 => ?_)
        refine wq_iast (k := 15) (i := t) (fun _ _ => rfl) ht rfl rfl (m := 9) g41 (Nat.le_refl _) (by decide) (by decide) (by decide) dX1_clear_58 (fun J42 => ?_)
        refine wq_iinc (lv' := [(1, vi (s40 + 1)), (0, vr Z 1 t)]) dX1_clear_59 1 rfl (by decide) rfl ?_
        refine wq_goto 46 dX1_clear_62 (by decide) ?_
        exact WQ.loc [1, 0] rfl (bk35 _ _ _)
      · exact WQ.loc [0] rfl (ex36 _ _ _)
    · refine wq_aload_n dX1_clear_65 0 rfl rfl ?_
      refine wq_iconst dX1_clear_66 ?_
      refine p_1_6 ht ln_RX1_35 dX1_clear_67 (fun J47 => ?_)
      refine wq_aload_n dX1_clear_70 0 rfl rfl ?_
      refine wq_iconst dX1_clear_71 ?_
      refine p_1_7 ht ln_RX1_45 dX1_clear_72 (fun J48 => ?_)
      refine wq_aload_n dX1_clear_75 0 rfl rfl ?_
      refine wq_iconst dX1_clear_76 ?_
      refine p_1_8 ht ln_RX1_39 dX1_clear_77 (fun J49 => ?_)
      refine wq_aload_n dX1_clear_80 0 rfl rfl ?_
      refine wq_iconst dX1_clear_81 ?_
      refine p_1_9 ht ln_RX1_48 dX1_clear_82 (fun J50 => ?_)
      exact wq_vret rfl rfl dX1_clear_85
