theorem ln_RX1_73 : Cond.methodLink RX1 73 yX5_many ∈ lw_good := li_3 155 (by decide +kernel) (by decide +kernel)
theorem ln_RX1_69 : Cond.methodLink RX1 69 yX1_body ∈ lw_good := li_4 159 (by decide +kernel) (by decide +kernel)
noncomputable def f_G_hasRule (t : Nat) (a1 : Int) (I : Mem) : Option ((Int) × Mem) :=
if t < 12 then
bnd (f_G_body t a1 I) fun x3 J2 =>
if x3 < 516 then
if 0 < (w32 (J2 2 x3 1)) then
some (1, J2)
else
some (0, J2)
else none
else none
set_option maxRecDepth 20000 in
theorem R_G_hasRule (Z : ZT) (t : Nat) (a1 : Int) (I : Mem) (r : Int) (J : Mem) (hf : f_G_hasRule t a1 I = some (r, J)) : Runs Z yX1_hasRule cX1_hasRule 2 (some .boolean) 2 [vr Z 1 t, vi a1] I (some (vi r), J) := by
  refine Runs.of (rv := fun x => some (vi x)) (by decide +kernel) (Nat.le_of_ble_eq_true rfl) hf (fun gr => ?_)
  unfold f_G_hasRule
  refine WQ.loc [0, 1] (lv' := [(0, vr Z 1 t), (1, vi a1)]) rfl ?_
  refine wq_grd (fun ht => ?_)
  refine wq_aload_n dX1_hasRule_0 0 rfl rfl ?_
  refine wq_iload_n dX1_hasRule_1 1 rfl rfl ?_
  refine wq_cVr 2 M_G_body (R_G_body Z t a1 _) (ob_1 ht) rfl rfl (by decide) (by decide) (Nat.le_of_ble_eq_true rfl) ln_RX1_69 dX1_hasRule_2 (fun gr1 x3 J2 => ?_)
  refine wq_grd (fun g4 => ?_)
  refine wq_pV (v := vi (J2 2 x3 1)) M_Row_many (R_Row_many Z x3 _ _ _ (if_pos g4)) (ob_2 g4) rfl rfl (by decide) (by decide) (Nat.le_of_ble_eq_true rfl) ln_RX1_73 dX1_hasRule_5 (fun gr5 => ?_)
  refine wq_if_le 15 dX1_hasRule_8 (by decide) rfl (fun c6 => ?_) (fun c6 => ?_)
  · refine wq_iconst dX1_hasRule_11 ?_
    refine wq_goto 16 dX1_hasRule_12 (by decide) ?_
    exact wq_zret rfl (by decide) rfl dX1_hasRule_16
  · refine wq_iconst dX1_hasRule_15 ?_
    exact wq_zret rfl (by decide) rfl dX1_hasRule_16

theorem M_PR_isLetter : MwS yX12_isLetter cX12_isLetter 1 (some .boolean) 1 := ⟨li_4 193 (by decide +kernel) (by decide +kernel), li_4 192 (by decide +kernel) (by decide +kernel), li_1 1 (by decide +kernel) (by decide +kernel), by decide +kernel⟩
theorem M_G_hasRule : MwV yX1_hasRule cX1_hasRule 2 (some .boolean) 1 := ⟨li_4 158 (by decide +kernel) (by decide +kernel), li_4 156 (by decide +kernel) (by decide +kernel), li_4 157 (by decide +kernel) (by decide +kernel), li_1 2 (by decide +kernel) (by decide +kernel), by decide +kernel⟩
theorem ln_RX1_80 : Cond.methodLink RX1 80 yX1_hasRule ∈ lw_good := li_4 194 (by decide +kernel) (by decide +kernel)
theorem ln_RX1_76 : Cond.methodLinkNest RX1 76 yX12_isLetter RX12 ∈ lw_nw := nw_in 1048 (by decide +kernel) (by decide +kernel)
noncomputable def f_G_hasSymbol (t : Nat) (a1 : Int) (I : Mem) : Option ((Int) × Mem) :=
if t < 12 then
bnd (f_PR_isLetter a1 I) fun x3 J2 =>
if (w32 x3) = 0 then
bnd (f_G_hasRule t (a1 - 26) J2) fun x6 J5 =>
if (w32 x6) = 0 then
some (0, J5)
else
some (1, J5)
else
some (1, J2)
else none
set_option maxRecDepth 20000 in
theorem R_G_hasSymbol (Z : ZT) (t : Nat) (a1 : Int) (I : Mem) (r : Int) (J : Mem) (hf : f_G_hasSymbol t a1 I = some (r, J)) : Runs Z yX1_hasSymbol cX1_hasSymbol 2 (some .boolean) 3 [vr Z 1 t, vi a1] I (some (vi r), J) := by
  refine Runs.of (rv := fun x => some (vi x)) (by decide +kernel) (Nat.le_of_ble_eq_true rfl) hf (fun gr => ?_)
  unfold f_G_hasSymbol
  refine WQ.loc [0, 1] (lv' := [(0, vr Z 1 t), (1, vi a1)]) rfl ?_
  refine wq_grd (fun ht => ?_)
  refine wq_iload_n dX1_hasSymbol_0 1 rfl rfl ?_
  refine wq_cNi M_PR_isLetter (R_PR_isLetter Z a1 _) rfl rfl (by decide) (by decide) (Nat.le_of_ble_eq_true rfl) ln_RX1_76 dX1_hasSymbol_1 (fun gr1 x3 J2 => ?_)
  refine wq_if_ne 18 dX1_hasSymbol_4 (by decide) rfl (fun c8 => ?_) (fun c8 => ?_)
  · refine wq_aload_n dX1_hasSymbol_7 0 rfl rfl ?_
    refine wq_iload_n dX1_hasSymbol_8 1 rfl rfl ?_
    refine wq_bipush dX1_hasSymbol_9 (by decide) ?_
    refine wq_isub dX1_hasSymbol_11 ?_
    refine wq_cVi M_G_hasRule (R_G_hasRule Z t (a1 - 26) _) (ob_1 ht) rfl rfl (by decide) (by decide) (Nat.le_of_ble_eq_true rfl) ln_RX1_80 dX1_hasSymbol_12 (fun gr4 x6 J5 => ?_)
    refine wq_if_eq 22 dX1_hasSymbol_15 (by decide) rfl (fun c7 => ?_) (fun c7 => ?_)
    · refine wq_iconst dX1_hasSymbol_22 ?_
      exact wq_zret rfl (by decide) rfl dX1_hasSymbol_23
    · refine wq_iconst dX1_hasSymbol_18 ?_
      refine wq_goto 23 dX1_hasSymbol_19 (by decide) ?_
      exact wq_zret rfl (by decide) rfl dX1_hasSymbol_23
  · refine wq_iconst dX1_hasSymbol_18 ?_
    refine wq_goto 23 dX1_hasSymbol_19 (by decide) ?_
    exact wq_zret rfl (by decide) rfl dX1_hasSymbol_23

noncomputable def f_G_manyRules_w4 (v0 : Nat) (s : Int × Int) (I : Mem) : Option (((Int × Int) ⊕ (Int)) × Mem) :=
if (w32 s.2) < 40 then
if 0 ≤ (w32 s.2) ∧ (w32 s.2) < 40 then
some (.inl ((s.1 + (if 0 < (w32 (I 2 (43 * v0 + 3 + (w32 s.2).toNat) 1)) then 1 else 0)), (s.2 + 1)), I)
else none
else
some (.inr s.1, I)

noncomputable def f_G_manyRules (t : Nat) (I : Mem) : Option ((Int) × Mem) :=
if t < 12 then
bnd (whl (f_G_manyRules_w4 t) (0, 0) I) fun r20 J21 =>
some (r20, J21)
else none
set_option maxRecDepth 20000 in
theorem R_G_manyRules (Z : ZT) (t : Nat) (I : Mem) (r : Int) (J : Mem) (hf : f_G_manyRules t I = some (r, J)) : Runs Z yX1_manyRules cX1_manyRules 3 (some .int) 2 [vr Z 1 t] I (some (vi r), J) := by
  refine Runs.of (rv := fun x => some (vi x)) (by decide +kernel) (Nat.le_of_ble_eq_true rfl) hf (fun gr => ?_)
  unfold f_G_manyRules
  refine WQ.loc [0] (lv' := [(0, vr Z 1 t)]) rfl ?_
  refine wq_grd (fun ht => ?_)
  refine wq_iconst dX1_manyRules_0 ?_
  refine wq_istore_n (lv' := [(1, vi 0), (0, vr Z 1 t)]) dX1_manyRules_1 rfl (by decide) rfl ?_
  refine wq_iconst dX1_manyRules_2 ?_
  refine wq_istore_n (lv' := [(2, vi 0), (1, vi 0), (0, vr Z 1 t)]) dX1_manyRules_3 rfl (by decide) rfl ?_
  refine WQ.loc [2, 1, 0] (lv' := [(0, vr Z 1 t), (1, vi 0), (2, vi 0)]) rfl ?_
  refine wq_loopS (fun s13 => [(0, vr Z 1 t), (1, vi s13.1), (2, vi s13.2)]) 36 (fun r20 => [(1, vi r20)]) (fun κ7 bk8 ex9 gr12 s13 J11 => ?_) (fun gr22 r20 J21 => ?_) gr _ rfl
  · unfold f_G_manyRules_w4
    refine wq_iload_n dX1_manyRules_4 2 rfl rfl ?_
    refine wq_bipush dX1_manyRules_5 (by decide) ?_
    refine wq_icmp_ge 36 dX1_manyRules_7 (by decide) rfl rfl (fun c19 => ?_) (fun c19 => ?_)
    · refine wq_iload_n dX1_manyRules_10 1 rfl rfl ?_
      refine wq_aload_n dX1_manyRules_11 0 rfl rfl ?_
      refine g_1_2 ht ln_RX1_21 dX1_manyRules_12 ?_
      refine wq_iload_n dX1_manyRules_15 2 rfl rfl ?_
      refine wq_grd (fun g14 => ?_)
      refine wq_aald (k := 13) (i := t) (t0 := 4) rfl rfl ht rfl rfl (m := 40) g14 (Nat.le_refl _) dX1_manyRules_16 ?_
      have hb15 : (43 * t + 3 + (w32 s13.2).toNat) < 516 := by omega
      refine wq_pV (v := vi (J11 2 (43 * t + 3 + (w32 s13.2).toNat) 1)) M_Row_many (R_Row_many Z (43 * t + 3 + (w32 s13.2).toNat) _ _ _ (if_pos hb15)) (ob_2 hb15) rfl rfl (by decide) (by decide) (Nat.le_of_ble_eq_true rfl) ln_RX1_73 dX1_manyRules_17 (fun gr16 => ?_)
      refine WQ.via 28 [vi (if 0 < (w32 (J11 2 (43 * t + 3 + (w32 s13.2).toNat) 1)) then 1 else 0), vi s13.1] (by
          refine wq_iadd dX1_manyRules_28 ?_
          refine wq_istore_n (lv' := [(1, vi (s13.1 + (if 0 < (w32 (J11 2 (43 * t + 3 + (w32 s13.2).toNat) 1)) then 1 else 0))), (0, vr Z 1 t), (2, vi s13.2)]) dX1_manyRules_29 rfl (by decide) rfl ?_
          refine wq_iinc (lv' := [(2, vi (s13.2 + 1)), (1, vi (s13.1 + (if 0 < (w32 (J11 2 (43 * t + 3 + (w32 s13.2).toNat) 1)) then 1 else 0))), (0, vr Z 1 t)]) dX1_manyRules_30 2 rfl (by decide) rfl ?_
          refine wq_goto 4 dX1_manyRules_33 (by decide) ?_
          exact WQ.loc [2, 1, 0] rfl (bk8 _ _ _)) (fun hj17 => ?_)
      refine WQ.both (0 < (w32 (J11 2 (43 * t + 3 + (w32 s13.2).toNat) 1))) ?_
      refine wq_if_le 27 dX1_manyRules_20 (by decide) rfl (fun c18 => ?_) (fun c18 => ?_)
      · refine wq_iconst dX1_manyRules_23 ?_
        refine wq_goto 28 dX1_manyRules_24 (by decide) ?_
        exact WQ.top (if_pos c18) hj17
      · refine wq_iconst dX1_manyRules_27 ?_
        exact WQ.top (if_neg c18) hj17
    · exact WQ.loc [1] rfl (ex9 _ _ _)
  · refine wq_iload_n dX1_manyRules_36 0 rfl rfl ?_
    exact wq_iret rfl rfl dX1_manyRules_37

noncomputable def f_G_totalSize_w10 (v0 : Nat) (s : Int × Int) (I : Mem) : Option (((Int × Int) ⊕ (Int)) × Mem) :=
if (w32 s.2) < 40 then
if 0 ≤ (w32 s.2) ∧ (w32 s.2) < 40 then
some (.inl ((s.1 + (I 2 (43 * v0 + 3 + (w32 s.2).toNat) 1)), (s.2 + 1)), I)
else none
else
some (.inr s.1, I)

noncomputable def f_G_totalSize (t : Nat) (I : Mem) : Option ((Int) × Mem) :=
if t < 12 then
bnd (whl (f_G_totalSize_w10 t) ((I 2 (43 * t) 1), 0) I) fun r17 J18 =>
some (r17, J18)
else none
set_option maxRecDepth 20000 in
theorem R_G_totalSize (Z : ZT) (t : Nat) (I : Mem) (r : Int) (J : Mem) (hf : f_G_totalSize t I = some (r, J)) : Runs Z yX1_totalSize cX1_totalSize 3 (some .int) 2 [vr Z 1 t] I (some (vi r), J) := by
  refine Runs.of (rv := fun x => some (vi x)) (by decide +kernel) (Nat.le_of_ble_eq_true rfl) hf (fun gr => ?_)
  unfold f_G_totalSize
  refine WQ.loc [0] (lv' := [(0, vr Z 1 t)]) rfl ?_
  refine wq_grd (fun ht => ?_)
  refine wq_aload_n dX1_totalSize_0 0 rfl rfl ?_
  refine g_1_0 ht ln_RX1_12 dX1_totalSize_1 ?_
  refine wq_pV (v := vi (I 2 (43 * t) 1)) M_Row_many (R_Row_many Z (43 * t) _ _ _ (if_pos (by omega))) (ob_2 (by omega)) rfl rfl (by decide) (by decide) (Nat.le_of_ble_eq_true rfl) ln_RX1_73 dX1_totalSize_4 (fun gr1 => ?_)
  refine wq_istore_n (lv' := [(1, vi (I 2 (43 * t) 1)), (0, vr Z 1 t)]) dX1_totalSize_7 rfl (by decide) rfl ?_
  refine wq_iconst dX1_totalSize_8 ?_
  refine wq_istore_n (lv' := [(2, vi 0), (1, vi (I 2 (43 * t) 1)), (0, vr Z 1 t)]) dX1_totalSize_9 rfl (by decide) rfl ?_
  refine WQ.loc [2, 1, 0] (lv' := [(0, vr Z 1 t), (1, vi (I 2 (43 * t) 1)), (2, vi 0)]) rfl ?_
  refine wq_loopS (fun s12 => [(0, vr Z 1 t), (1, vi s12.1), (2, vi s12.2)]) 34 (fun r17 => [(1, vi r17)]) (fun κ6 bk7 ex8 gr11 s12 J10 => ?_) (fun gr19 r17 J18 => ?_) gr1 _ rfl
  · unfold f_G_totalSize_w10
    refine wq_iload_n dX1_totalSize_10 2 rfl rfl ?_
    refine wq_bipush dX1_totalSize_11 (by decide) ?_
    refine wq_icmp_ge 34 dX1_totalSize_13 (by decide) rfl rfl (fun c16 => ?_) (fun c16 => ?_)
    · refine wq_iload_n dX1_totalSize_16 1 rfl rfl ?_
      refine wq_aload_n dX1_totalSize_17 0 rfl rfl ?_
      refine g_1_2 ht ln_RX1_21 dX1_totalSize_18 ?_
      refine wq_iload_n dX1_totalSize_21 2 rfl rfl ?_
      refine wq_grd (fun g13 => ?_)
      refine wq_aald (k := 13) (i := t) (t0 := 4) rfl rfl ht rfl rfl (m := 40) g13 (Nat.le_refl _) dX1_totalSize_22 ?_
      have hb14 : (43 * t + 3 + (w32 s12.2).toNat) < 516 := by omega
      refine wq_pV (v := vi (J10 2 (43 * t + 3 + (w32 s12.2).toNat) 1)) M_Row_many (R_Row_many Z (43 * t + 3 + (w32 s12.2).toNat) _ _ _ (if_pos hb14)) (ob_2 hb14) rfl rfl (by decide) (by decide) (Nat.le_of_ble_eq_true rfl) ln_RX1_73 dX1_totalSize_23 (fun gr15 => ?_)
      refine wq_iadd dX1_totalSize_26 ?_
      refine wq_istore_n (lv' := [(1, vi (s12.1 + (J10 2 (43 * t + 3 + (w32 s12.2).toNat) 1))), (0, vr Z 1 t), (2, vi s12.2)]) dX1_totalSize_27 rfl (by decide) rfl ?_
      refine wq_iinc (lv' := [(2, vi (s12.2 + 1)), (1, vi (s12.1 + (J10 2 (43 * t + 3 + (w32 s12.2).toNat) 1))), (0, vr Z 1 t)]) dX1_totalSize_28 2 rfl (by decide) rfl ?_
      refine wq_goto 10 dX1_totalSize_31 (by decide) ?_
      exact WQ.loc [2, 1, 0] rfl (bk7 _ _ _)
    · exact WQ.loc [1] rfl (ex8 _ _ _)
  · refine wq_iload_n dX1_totalSize_34 0 rfl rfl ?_
    exact wq_iret rfl rfl dX1_totalSize_35

theorem ln_RX1_83 : Cond.methodLink RX1 83 Lib.Math.max.name ∈ lw_good := li_5 147 (by decide +kernel) (by decide +kernel)
noncomputable def f_G_longestBody_w4 (v0 : Nat) (s : Int × Int) (I : Mem) : Option (((Int × Int) ⊕ (Int)) × Mem) :=
if (w32 s.2) < 40 then
if 0 ≤ (w32 s.2) ∧ (w32 s.2) < 40 then
some (.inl ((imx s.1 (I 2 (43 * v0 + 3 + (w32 s.2).toNat) 1)), (s.2 + 1)), I)
else none
else
some (.inr s.1, I)

noncomputable def f_G_longestBody (t : Nat) (I : Mem) : Option ((Int) × Mem) :=
if t < 12 then
bnd (whl (f_G_longestBody_w4 t) (0, 0) I) fun r16 J17 =>
some (r16, J17)
else none
set_option maxRecDepth 20000 in
theorem R_G_longestBody (Z : ZT) (t : Nat) (I : Mem) (r : Int) (J : Mem) (hf : f_G_longestBody t I = some (r, J)) : Runs Z yX1_longestBody cX1_longestBody 3 (some .int) 2 [vr Z 1 t] I (some (vi r), J) := by
  refine Runs.of (rv := fun x => some (vi x)) (by decide +kernel) (Nat.le_of_ble_eq_true rfl) hf (fun gr => ?_)
  unfold f_G_longestBody
  refine WQ.loc [0] (lv' := [(0, vr Z 1 t)]) rfl ?_
  refine wq_grd (fun ht => ?_)
  refine wq_iconst dX1_longestBody_0 ?_
  refine wq_istore_n (lv' := [(1, vi 0), (0, vr Z 1 t)]) dX1_longestBody_1 rfl (by decide) rfl ?_
  refine wq_iconst dX1_longestBody_2 ?_
  refine wq_istore_n (lv' := [(2, vi 0), (1, vi 0), (0, vr Z 1 t)]) dX1_longestBody_3 rfl (by decide) rfl ?_
  refine WQ.loc [2, 1, 0] (lv' := [(0, vr Z 1 t), (1, vi 0), (2, vi 0)]) rfl ?_
  refine wq_loopS (fun s11 => [(0, vr Z 1 t), (1, vi s11.1), (2, vi s11.2)]) 30 (fun r16 => [(1, vi r16)]) (fun κ5 bk6 ex7 gr10 s11 J9 => ?_) (fun gr18 r16 J17 => ?_) gr _ rfl
  · unfold f_G_longestBody_w4
    refine wq_iload_n dX1_longestBody_4 2 rfl rfl ?_
    refine wq_bipush dX1_longestBody_5 (by decide) ?_
    refine wq_icmp_ge 30 dX1_longestBody_7 (by decide) rfl rfl (fun c15 => ?_) (fun c15 => ?_)
    · refine wq_iload_n dX1_longestBody_10 1 rfl rfl ?_
      refine wq_aload_n dX1_longestBody_11 0 rfl rfl ?_
      refine g_1_2 ht ln_RX1_21 dX1_longestBody_12 ?_
      refine wq_iload_n dX1_longestBody_15 2 rfl rfl ?_
      refine wq_grd (fun g12 => ?_)
      refine wq_aald (k := 13) (i := t) (t0 := 4) rfl rfl ht rfl rfl (m := 40) g12 (Nat.le_refl _) dX1_longestBody_16 ?_
      have hb13 : (43 * t + 3 + (w32 s11.2).toNat) < 516 := by omega
      refine wq_pV (v := vi (J9 2 (43 * t + 3 + (w32 s11.2).toNat) 1)) M_Row_many (R_Row_many Z (43 * t + 3 + (w32 s11.2).toNat) _ _ _ (if_pos hb13)) (ob_2 hb13) rfl rfl (by decide) (by decide) (Nat.le_of_ble_eq_true rfl) ln_RX1_73 dX1_longestBody_17 (fun gr14 => ?_)
      refine wq_max (by decide) (Nat.le_of_ble_eq_true rfl) ln_RX1_83 mt_max_s mt_i mt_max_c dX1_longestBody_20 ?_
      refine wq_istore_n (lv' := [(1, vi (imx s11.1 (J9 2 (43 * t + 3 + (w32 s11.2).toNat) 1))), (0, vr Z 1 t), (2, vi s11.2)]) dX1_longestBody_23 rfl (by decide) rfl ?_
      refine wq_iinc (lv' := [(2, vi (s11.2 + 1)), (1, vi (imx s11.1 (J9 2 (43 * t + 3 + (w32 s11.2).toNat) 1))), (0, vr Z 1 t)]) dX1_longestBody_24 2 rfl (by decide) rfl ?_
      refine wq_goto 4 dX1_longestBody_27 (by decide) ?_
      exact WQ.loc [2, 1, 0] rfl (bk6 _ _ _)
    · exact WQ.loc [1] rfl (ex7 _ _ _)
  · refine wq_iload_n dX1_longestBody_30 0 rfl rfl ?_
    exact wq_iret rfl rfl dX1_longestBody_31

theorem ln_RX1_93 : Cond.methodLink RX1 93 yX1_lengthOf ∈ lw_good := li_3 181 (by decide +kernel) (by decide +kernel)
theorem ln_RX1_89 : Cond.methodLink RX1 89 yX5_at ∈ lw_good := li_3 180 (by decide +kernel) (by decide +kernel)
noncomputable def f_G_textLength_w4 (v0 : Nat) (s : Int × Int) (I : Mem) : Option (((Int × Int) ⊕ (Int)) × Mem) :=
if (w32 s.2) < (w32 (I 2 (43 * v0) 1)) then
bnd (f_Row_at (43 * v0) s.2 I) fun x4 J3 =>
bnd (f_G_lengthOf v0 x4 J3) fun x7 J6 =>
some (.inl ((s.1 + x7), (s.2 + 1)), J6)
else
some (.inr s.1, I)

noncomputable def f_G_textLength (t : Nat) (I : Mem) : Option ((Int) × Mem) :=
if t < 12 then
bnd (whl (f_G_textLength_w4 t) (0, 0) I) fun r24 J25 =>
some (r24, J25)
else none
set_option maxRecDepth 20000 in
theorem R_G_textLength (Z : ZT) (t : Nat) (I : Mem) (r : Int) (J : Mem) (hf : f_G_textLength t I = some (r, J)) : Runs Z yX1_textLength cX1_textLength 3 (some .int) 2 [vr Z 1 t] I (some (vi r), J) := by
  refine Runs.of (rv := fun x => some (vi x)) (by decide +kernel) (Nat.le_of_ble_eq_true rfl) hf (fun gr => ?_)
  unfold f_G_textLength
  refine WQ.loc [0] (lv' := [(0, vr Z 1 t)]) rfl ?_
  refine wq_grd (fun ht => ?_)
  refine wq_iconst dX1_textLength_0 ?_
  refine wq_istore_n (lv' := [(1, vi 0), (0, vr Z 1 t)]) dX1_textLength_1 rfl (by decide) rfl ?_
  refine wq_iconst dX1_textLength_2 ?_
  refine wq_istore_n (lv' := [(2, vi 0), (1, vi 0), (0, vr Z 1 t)]) dX1_textLength_3 rfl (by decide) rfl ?_
  refine WQ.loc [2, 1, 0] (lv' := [(0, vr Z 1 t), (1, vi 0), (2, vi 0)]) rfl ?_
  refine wq_loopS (fun s15 => [(0, vr Z 1 t), (1, vi s15.1), (2, vi s15.2)]) 36 (fun r24 => [(1, vi r24)]) (fun κ9 bk10 ex11 gr14 s15 J13 => ?_) (fun gr26 r24 J25 => ?_) gr _ rfl
  · unfold f_G_textLength_w4
    refine wq_iload_n dX1_textLength_4 2 rfl rfl ?_
    refine wq_aload_n dX1_textLength_5 0 rfl rfl ?_
    refine g_1_0 ht ln_RX1_12 dX1_textLength_6 ?_
    refine wq_pV (v := vi (J13 2 (43 * t) 1)) M_Row_many (R_Row_many Z (43 * t) _ _ _ (if_pos (by omega))) (ob_2 (by omega)) rfl rfl (by decide) (by decide) (Nat.le_of_ble_eq_true rfl) ln_RX1_73 dX1_textLength_9 (fun gr16 => ?_)
    refine wq_icmp_ge 36 dX1_textLength_12 (by decide) rfl rfl (fun c23 => ?_) (fun c23 => ?_)
    · refine wq_iload_n dX1_textLength_15 1 rfl rfl ?_
      refine wq_aload_n dX1_textLength_16 0 rfl rfl ?_
      refine wq_aload_n dX1_textLength_17 0 rfl rfl ?_
      refine g_1_0 ht ln_RX1_12 dX1_textLength_18 ?_
      refine wq_iload_n dX1_textLength_21 2 rfl rfl ?_
      refine wq_cVi M_Row_at (R_Row_at Z (43 * t) s15.2 _) (ob_2 (by omega)) rfl rfl (by decide) (by decide) (Nat.le_of_ble_eq_true rfl) ln_RX1_89 dX1_textLength_22 (fun gr17 x19 J18 => ?_)
      refine wq_cVi M_G_lengthOf (R_G_lengthOf Z t x19 _) (ob_1 ht) rfl rfl (by decide) (by decide) (Nat.le_of_ble_eq_true rfl) ln_RX1_93 dX1_textLength_25 (fun gr20 x22 J21 => ?_)
      refine wq_iadd dX1_textLength_28 ?_
      refine wq_istore_n (lv' := [(1, vi (s15.1 + x22)), (0, vr Z 1 t), (2, vi s15.2)]) dX1_textLength_29 rfl (by decide) rfl ?_
      refine wq_iinc (lv' := [(2, vi (s15.2 + 1)), (1, vi (s15.1 + x22)), (0, vr Z 1 t)]) dX1_textLength_30 2 rfl (by decide) rfl ?_
      refine wq_goto 4 dX1_textLength_33 (by decide) ?_
      exact WQ.loc [2, 1, 0] rfl (bk10 _ _ _)
    · exact WQ.loc [1] rfl (ex11 _ _ _)
  · refine wq_iload_n dX1_textLength_36 0 rfl rfl ?_
    exact wq_iret rfl rfl dX1_textLength_37

theorem M_Row_timesOf : MwV yX5_timesOf cX5_timesOf 4 (some .int) 1 := ⟨li_4 171 (by decide +kernel) (by decide +kernel), li_4 169 (by decide +kernel) (by decide +kernel), li_4 170 (by decide +kernel) (by decide +kernel), li_1 3 (by decide +kernel) (by decide +kernel), by decide +kernel⟩
theorem ln_RX1_96 : Cond.methodLink RX1 96 yX5_timesOf ∈ lw_good := li_6 45 (by decide +kernel) (by decide +kernel)
noncomputable def f_G_usesOf_w14 (v0 : Nat) (v1 : Int) (s : Int × Int) (I : Mem) : Option (((Int × Int) ⊕ (Int)) × Mem) :=
if (w32 s.2) < 40 then
if 0 ≤ (w32 s.2) ∧ (w32 s.2) < 40 then
bnd (f_Row_timesOf (43 * v0 + 3 + (w32 s.2).toNat) (26 + v1) I) fun x8 J7 =>
some (.inl ((s.1 + x8), (s.2 + 1)), J7)
else none
else
some (.inr s.1, I)

noncomputable def f_G_usesOf (t : Nat) (a1 : Int) (I : Mem) : Option ((Int) × Mem) :=
if t < 12 then
bnd (f_Row_timesOf (43 * t) (26 + a1) I) fun x3 J2 =>
bnd (whl (f_G_usesOf_w14 t a1) (x3, 0) J2) fun r23 J24 =>
some (r23, J24)
else none
set_option maxRecDepth 20000 in
theorem R_G_usesOf (Z : ZT) (t : Nat) (a1 : Int) (I : Mem) (r : Int) (J : Mem) (hf : f_G_usesOf t a1 I = some (r, J)) : Runs Z yX1_usesOf cX1_usesOf 4 (some .int) 2 [vr Z 1 t, vi a1] I (some (vi r), J) := by
  refine Runs.of (rv := fun x => some (vi x)) (by decide +kernel) (Nat.le_of_ble_eq_true rfl) hf (fun gr => ?_)
  unfold f_G_usesOf
  refine WQ.loc [0, 1] (lv' := [(0, vr Z 1 t), (1, vi a1)]) rfl ?_
  refine wq_grd (fun ht => ?_)
  refine wq_aload_n dX1_usesOf_0 0 rfl rfl ?_
  refine g_1_0 ht ln_RX1_12 dX1_usesOf_1 ?_
  refine wq_bipush dX1_usesOf_4 (by decide) ?_
  refine wq_iload_n dX1_usesOf_6 1 rfl rfl ?_
  refine wq_iadd dX1_usesOf_7 ?_
  refine wq_cVi M_Row_timesOf (R_Row_timesOf Z (43 * t) (26 + a1) _) (ob_2 (by omega)) rfl rfl (by decide) (by decide) (Nat.le_of_ble_eq_true rfl) ln_RX1_96 dX1_usesOf_8 (fun gr1 x3 J2 => ?_)
  refine wq_istore_n (lv' := [(2, vi x3), (0, vr Z 1 t), (1, vi a1)]) dX1_usesOf_11 rfl (by decide) rfl ?_
  refine wq_iconst dX1_usesOf_12 ?_
  refine wq_istore_n (lv' := [(3, vi 0), (2, vi x3), (0, vr Z 1 t), (1, vi a1)]) dX1_usesOf_13 rfl (by decide) rfl ?_
  refine WQ.loc [2, 3, 1, 0] (lv' := [(0, vr Z 1 t), (1, vi a1), (2, vi x3), (3, vi 0)]) rfl ?_
  refine wq_loopS (fun s16 => [(0, vr Z 1 t), (1, vi a1), (2, vi s16.1), (3, vi s16.2)]) 42 (fun r23 => [(2, vi r23)]) (fun κ10 bk11 ex12 gr15 s16 J14 => ?_) (fun gr25 r23 J24 => ?_) gr1 _ rfl
  · unfold f_G_usesOf_w14
    refine wq_iload_n dX1_usesOf_14 3 rfl rfl ?_
    refine wq_bipush dX1_usesOf_15 (by decide) ?_
    refine wq_icmp_ge 42 dX1_usesOf_17 (by decide) rfl rfl (fun c22 => ?_) (fun c22 => ?_)
    · refine wq_iload_n dX1_usesOf_20 2 rfl rfl ?_
      refine wq_aload_n dX1_usesOf_21 0 rfl rfl ?_
      refine g_1_2 ht ln_RX1_21 dX1_usesOf_22 ?_
      refine wq_iload_n dX1_usesOf_25 3 rfl rfl ?_
      refine wq_grd (fun g17 => ?_)
      refine wq_aald (k := 13) (i := t) (t0 := 4) rfl rfl ht rfl rfl (m := 40) g17 (Nat.le_refl _) dX1_usesOf_26 ?_
      have hb18 : (43 * t + 3 + (w32 s16.2).toNat) < 516 := by omega
      refine wq_bipush dX1_usesOf_27 (by decide) ?_
      refine wq_iload_n dX1_usesOf_29 1 rfl rfl ?_
      refine wq_iadd dX1_usesOf_30 ?_
      refine wq_cVi M_Row_timesOf (R_Row_timesOf Z (43 * t + 3 + (w32 s16.2).toNat) (26 + a1) _) (ob_2 hb18) rfl rfl (by decide) (by decide) (Nat.le_of_ble_eq_true rfl) ln_RX1_96 dX1_usesOf_31 (fun gr19 x21 J20 => ?_)
      refine wq_iadd dX1_usesOf_34 ?_
      refine wq_istore_n (lv' := [(2, vi (s16.1 + x21)), (0, vr Z 1 t), (1, vi a1), (3, vi s16.2)]) dX1_usesOf_35 rfl (by decide) rfl ?_
      refine wq_iinc (lv' := [(3, vi (s16.2 + 1)), (2, vi (s16.1 + x21)), (0, vr Z 1 t), (1, vi a1)]) dX1_usesOf_36 3 rfl (by decide) rfl ?_
      refine wq_goto 14 dX1_usesOf_39 (by decide) ?_
      exact WQ.loc [2, 3, 1, 0] rfl (bk11 _ _ _)
    · exact WQ.loc [2] rfl (ex12 _ _ _)
  · refine wq_iload_n dX1_usesOf_42 0 rfl rfl ?_
    exact wq_iret rfl rfl dX1_usesOf_43

noncomputable def f_G_lowestFree_w2 (v0 : Nat) (s : Int) (I : Mem) : Option (((Int) ⊕ (Int)) × Mem) :=
if (w32 s) < 40 then
if 0 ≤ (w32 s) ∧ (w32 s) < 40 then
if (w32 (I 2 (43 * v0 + 3 + (w32 s).toNat) 1)) = 0 then
some (.inr (s), I)
else
some (.inl (s + 1), I)
else none
else
some (.inr ((-1)), I)

noncomputable def f_G_lowestFree (t : Nat) (I : Mem) : Option ((Int) × Mem) :=
if t < 12 then
whl (f_G_lowestFree_w2 t) 0 I
else none
set_option maxRecDepth 20000 in
theorem R_G_lowestFree (Z : ZT) (t : Nat) (I : Mem) (r : Int) (J : Mem) (hf : f_G_lowestFree t I = some (r, J)) : Runs Z yX1_lowestFree cX1_lowestFree 2 (some .int) 2 [vr Z 1 t] I (some (vi r), J) := by
  refine Runs.of (rv := fun x => some (vi x)) (by decide +kernel) (Nat.le_of_ble_eq_true rfl) hf (fun gr => ?_)
  unfold f_G_lowestFree
  refine WQ.loc [0] (lv' := [(0, vr Z 1 t)]) rfl ?_
  refine wq_grd (fun ht => ?_)
  refine wq_iconst dX1_lowestFree_0 ?_
  refine wq_istore_n (lv' := [(1, vi 0), (0, vr Z 1 t)]) dX1_lowestFree_1 rfl (by decide) rfl ?_
  refine WQ.loc [1, 0] (lv' := [(0, vr Z 1 t), (1, vi 0)]) rfl ?_
  refine wq_loop (fun s12 => [(0, vr Z 1 t), (1, vi s12)]) (fun κ6 bk7 hr9 gr11 s12 J10 => ?_) gr _ rfl
  unfold f_G_lowestFree_w2
  refine wq_iload_n dX1_lowestFree_2 1 rfl rfl ?_
  refine wq_bipush dX1_lowestFree_3 (by decide) ?_
  refine wq_icmp_ge 28 dX1_lowestFree_5 (by decide) rfl rfl (fun c17 => ?_) (fun c17 => ?_)
  · refine wq_aload_n dX1_lowestFree_8 0 rfl rfl ?_
    refine g_1_2 ht ln_RX1_21 dX1_lowestFree_9 ?_
    refine wq_iload_n dX1_lowestFree_12 1 rfl rfl ?_
    refine wq_grd (fun g13 => ?_)
    refine wq_aald (k := 13) (i := t) (t0 := 4) rfl rfl ht rfl rfl (m := 40) g13 (Nat.le_refl _) dX1_lowestFree_13 ?_
    have hb14 : (43 * t + 3 + (w32 s12).toNat) < 516 := by omega
    refine wq_pV (v := vi (J10 2 (43 * t + 3 + (w32 s12).toNat) 1)) M_Row_many (R_Row_many Z (43 * t + 3 + (w32 s12).toNat) _ _ _ (if_pos hb14)) (ob_2 hb14) rfl rfl (by decide) (by decide) (Nat.le_of_ble_eq_true rfl) ln_RX1_73 dX1_lowestFree_14 (fun gr15 => ?_)
    refine wq_if_ne 22 dX1_lowestFree_17 (by decide) rfl (fun c16 => ?_) (fun c16 => ?_)
    · refine wq_iload_n dX1_lowestFree_20 1 rfl rfl ?_
      exact wq_iret rfl ((hr9 _ _).trans rfl) dX1_lowestFree_21
    · refine wq_iinc (lv' := [(1, vi (s12 + 1)), (0, vr Z 1 t)]) dX1_lowestFree_22 1 rfl (by decide) rfl ?_
      refine wq_goto 2 dX1_lowestFree_25 (by decide) ?_
      exact WQ.loc [1, 0] rfl (bk7 _ _ _)
  · refine wq_iconst dX1_lowestFree_28 ?_
    exact wq_iret rfl ((hr9 _ _).trans rfl) dX1_lowestFree_29

noncomputable def f_G_placeOver_w5 (v0 : Nat) (v1 : Nat) (v2 : Int) (s : Int × Int) (I : Mem) : Option (((Int × Int) ⊕ (Int)) × Mem) :=
if (w32 s.2) < (w32 (I 2 v1 1)) then
bnd (f_Row_at v1 s.2 I) fun x5 J4 =>
bnd (f_G_lengthOf v0 x5 J4) fun x8 J7 =>
if (w32 v2) < (w32 (s.1 + x8)) then
some (.inr (s.2), J7)
else
some (.inl ((s.1 + x8), (s.2 + 1)), J7)
else
some (.inr (((I 2 v1 1) - 1)), I)

noncomputable def f_G_placeOver (t : Nat) (a1 : Nat) (a2 : Int) (I : Mem) : Option ((Int) × Mem) :=
if t < 12 then
if a1 < 516 then
whl (f_G_placeOver_w5 t a1 a2) (0, 0) I
else none
else none
set_option maxRecDepth 20000 in
theorem R_G_placeOver (Z : ZT) (t : Nat) (a1 : Nat) (a2 : Int) (I : Mem) (r : Int) (J : Mem) (hf : f_G_placeOver t a1 a2 I = some (r, J)) : Runs Z yX1_placeOver cX1_placeOver 5 (some .int) 2 [vr Z 1 t, vr Z 2 a1, vi a2] I (some (vi r), J) := by
  refine Runs.of (rv := fun x => some (vi x)) (by decide +kernel) (Nat.le_of_ble_eq_true rfl) hf (fun gr => ?_)
  unfold f_G_placeOver
  refine WQ.loc [0, 1, 2] (lv' := [(0, vr Z 1 t), (1, vr Z 2 a1), (2, vi a2)]) rfl ?_
  refine wq_grd (fun ht => ?_)
  refine wq_grd (fun h1 => ?_)
  refine wq_iconst dX1_placeOver_0 ?_
  refine wq_istore_n (lv' := [(3, vi 0), (0, vr Z 1 t), (1, vr Z 2 a1), (2, vi a2)]) dX1_placeOver_1 rfl (by decide) rfl ?_
  refine wq_iconst dX1_placeOver_2 ?_
  refine wq_istore (lv' := [(4, vi 0), (3, vi 0), (0, vr Z 1 t), (1, vr Z 2 a1), (2, vi a2)]) dX1_placeOver_3 (by decide) rfl ?_
  refine WQ.loc [2, 3, 4, 1, 0] (lv' := [(0, vr Z 1 t), (1, vr Z 2 a1), (2, vi a2), (3, vi 0), (4, vi 0)]) rfl ?_
  refine wq_loop (fun s17 => [(0, vr Z 1 t), (1, vr Z 2 a1), (2, vi a2), (3, vi s17.1), (4, vi s17.2)]) (fun κ11 bk12 hr14 gr16 s17 J15 => ?_) gr _ rfl
  unfold f_G_placeOver_w5
  refine wq_iload dX1_placeOver_5 4 rfl ?_
  refine wq_aload_n dX1_placeOver_7 1 rfl rfl ?_
  refine wq_pV (v := vi (J15 2 a1 1)) M_Row_many (R_Row_many Z a1 _ _ _ (if_pos h1)) (ob_2 h1) rfl rfl (by decide) (by decide) (Nat.le_of_ble_eq_true rfl) ln_RX1_73 dX1_placeOver_8 (fun gr18 => ?_)
  refine wq_icmp_ge 41 dX1_placeOver_11 (by decide) rfl rfl (fun c27 => ?_) (fun c27 => ?_)
  · refine wq_iload_n dX1_placeOver_14 3 rfl rfl ?_
    refine wq_aload_n dX1_placeOver_15 0 rfl rfl ?_
    refine wq_aload_n dX1_placeOver_16 1 rfl rfl ?_
    refine wq_iload dX1_placeOver_17 4 rfl ?_
    refine wq_cVi M_Row_at (R_Row_at Z a1 s17.2 _) (ob_2 h1) rfl rfl (by decide) (by decide) (Nat.le_of_ble_eq_true rfl) ln_RX1_89 dX1_placeOver_19 (fun gr20 x22 J21 => ?_)
    refine wq_cVi M_G_lengthOf (R_G_lengthOf Z t x22 _) (ob_1 ht) rfl rfl (by decide) (by decide) (Nat.le_of_ble_eq_true rfl) ln_RX1_93 dX1_placeOver_22 (fun gr23 x25 J24 => ?_)
    refine wq_iadd dX1_placeOver_25 ?_
    refine wq_istore_n (lv' := [(3, vi (s17.1 + x25)), (0, vr Z 1 t), (1, vr Z 2 a1), (2, vi a2), (4, vi s17.2)]) dX1_placeOver_26 rfl (by decide) rfl ?_
    refine wq_iload_n dX1_placeOver_27 3 rfl rfl ?_
    refine wq_iload_n dX1_placeOver_28 0 rfl rfl ?_
    refine wq_icmp_ge 35 dX1_placeOver_29 (by decide) rfl rfl (fun c26 => ?_) (fun c26 => ?_)
    · refine wq_iload dX1_placeOver_32 4 rfl ?_
      exact wq_iret rfl ((hr14 _ _).trans rfl) dX1_placeOver_34
    · refine wq_iinc (lv' := [(4, vi (s17.2 + 1)), (3, vi (s17.1 + x25)), (0, vr Z 1 t), (1, vr Z 2 a1), (2, vi a2)]) dX1_placeOver_35 4 rfl (by decide) rfl ?_
      refine wq_goto 5 dX1_placeOver_38 (by decide) ?_
      exact WQ.loc [2, 3, 4, 1, 0] rfl (bk12 _ _ _)
  · refine wq_aload_n dX1_placeOver_41 1 rfl rfl ?_
    refine wq_pV (v := vi (J15 2 a1 1)) M_Row_many (R_Row_many Z a1 _ _ _ (if_pos h1)) (ob_2 h1) rfl rfl (by decide) (by decide) (Nat.le_of_ble_eq_true rfl) ln_RX1_73 dX1_placeOver_42 (fun gr19 => ?_)
    refine wq_iconst dX1_placeOver_45 ?_
    refine wq_isub dX1_placeOver_46 ?_
    exact wq_iret rfl ((hr14 _ _).trans rfl) dX1_placeOver_47

theorem M_G_placeOver : MwV yX1_placeOver cX1_placeOver 5 (some .int) 2 := ⟨li_6 81 (by decide +kernel) (by decide +kernel), li_6 79 (by decide +kernel) (by decide +kernel), li_6 80 (by decide +kernel) (by decide +kernel), li_1 2 (by decide +kernel) (by decide +kernel), by decide +kernel⟩
theorem ln_RX1_99 : Cond.methodLink RX1 99 yX1_placeOver ∈ lw_good := li_6 78 (by decide +kernel) (by decide +kernel)
noncomputable def f_G_letterOfText_w28 (v0 : Nat) (v2 : Nat) (v4 : Int) (v5 : Int) (s : Int × Int) (I : Mem) : Option (((Int × Int) ⊕ (Int)) × Mem) :=
if (w32 s.2) < (w32 v5) then
bnd (f_Row_at v2 s.2 I) fun x6 J5 =>
bnd (f_G_lengthOf v0 x6 J5) fun x9 J8 =>
some (.inl ((s.1 - x9), (s.2 + 1)), J8)
else
some (.inr s.1, I)

noncomputable def f_G_letterOfText_w10 (v0 : Nat) (s : Nat × Int × Int) (I : Mem) : Option (((Nat × Int × Int) ⊕ (Int)) × Mem) :=
if s.1 < 516 then
if 40 < (w32 s.2.2) then
some (.inr ((-1)), I)
else
bnd (f_G_placeOver v0 s.1 s.2.1 I) fun x3 J2 =>
bnd (whl (f_G_letterOfText_w28 v0 s.1 s.2.2 x3) (s.2.1, 0) J2) fun r25 J26 =>
bnd (f_Row_at s.1 x3 J26) fun x30 J29 =>
if (w32 x30) < 26 then
some (.inr (x30), J29)
else
bnd (f_G_body v0 (x30 - 26) J29) fun x33 J32 =>
if x33 < 516 then
some (.inl (x33, r25, (s.2.2 + 1)), J32)
else none
else none

noncomputable def f_G_letterOfText (t : Nat) (a1 : Int) (I : Mem) : Option ((Int) × Mem) :=
if t < 12 then
whl (f_G_letterOfText_w10 t) ((43 * t), a1, 0) I
else none
set_option maxRecDepth 20000 in
theorem R_G_letterOfText (Z : ZT) (t : Nat) (a1 : Int) (I : Mem) (r : Int) (J : Mem) (hf : f_G_letterOfText t a1 I = some (r, J)) : Runs Z yX1_letterOfText cX1_letterOfText 7 (some .int) 3 [vr Z 1 t, vi a1] I (some (vi r), J) := by
  refine Runs.of (rv := fun x => some (vi x)) (by decide +kernel) (Nat.le_of_ble_eq_true rfl) hf (fun gr => ?_)
  unfold f_G_letterOfText
  refine WQ.loc [0, 1] (lv' := [(0, vr Z 1 t), (1, vi a1)]) rfl ?_
  refine wq_grd (fun ht => ?_)
  refine wq_aload_n dX1_letterOfText_0 0 rfl rfl ?_
  refine g_1_0 ht ln_RX1_12 dX1_letterOfText_1 ?_
  refine wq_astore_n (lv' := [(2, vr Z 2 (43 * t)), (0, vr Z 1 t), (1, vi a1)]) dX1_letterOfText_4 rfl (by decide) rfl ?_
  refine wq_iload_n dX1_letterOfText_5 2 rfl rfl ?_
  refine wq_istore_n (lv' := [(3, vi a1), (2, vr Z 2 (43 * t)), (0, vr Z 1 t), (1, vi a1)]) dX1_letterOfText_6 rfl (by decide) rfl ?_
  refine wq_iconst dX1_letterOfText_7 ?_
  refine wq_istore (lv' := [(4, vi 0), (3, vi a1), (2, vr Z 2 (43 * t)), (0, vr Z 1 t), (1, vi a1)]) dX1_letterOfText_8 (by decide) rfl ?_
  refine WQ.loc [3, 2, 1, 0] (lv' := [(0, vr Z 1 t), (2, vr Z 2 (43 * t)), (3, vi a1), (4, vi 0)]) rfl ?_
  refine wq_loop (fun s43 => [(0, vr Z 1 t), (2, vr Z 2 s43.1), (3, vi s43.2.1), (4, vi s43.2.2)]) (fun κ37 bk38 hr40 gr42 s43 J41 => ?_) gr _ rfl
  unfold f_G_letterOfText_w10
  refine wq_grd (fun hs43_2 => ?_)
  refine wq_iload dX1_letterOfText_10 3 rfl ?_
  refine wq_bipush dX1_letterOfText_12 (by decide) ?_
  refine wq_icmp_gt 88 dX1_letterOfText_14 (by decide) rfl rfl (fun c72 => ?_) (fun c72 => ?_)
  · refine wq_iconst dX1_letterOfText_88 ?_
    exact wq_iret rfl ((hr40 _ _).trans rfl) dX1_letterOfText_89
  · refine wq_aload_n dX1_letterOfText_17 0 rfl rfl ?_
    refine wq_aload_n dX1_letterOfText_18 1 rfl rfl ?_
    refine wq_iload_n dX1_letterOfText_19 2 rfl rfl ?_
    refine wq_cVi M_G_placeOver (R_G_placeOver Z t s43.1 s43.2.1 _) (ob_1 ht) rfl rfl (by decide) (by decide) (Nat.le_of_ble_eq_true rfl) ln_RX1_99 dX1_letterOfText_20 (fun gr44 x46 J45 => ?_)
    refine wq_istore (lv' := [(5, vi x46), (0, vr Z 1 t), (2, vr Z 2 s43.1), (3, vi s43.2.1), (4, vi s43.2.2)]) dX1_letterOfText_23 (by decide) rfl ?_
    refine wq_iconst dX1_letterOfText_25 ?_
    refine wq_istore (lv' := [(6, vi 0), (5, vi x46), (0, vr Z 1 t), (2, vr Z 2 s43.1), (3, vi s43.2.1), (4, vi s43.2.2)]) dX1_letterOfText_26 (by decide) rfl ?_
    refine WQ.loc [2, 3, 4, 5, 1, 0] (lv' := [(0, vr Z 1 t), (2, vr Z 2 s43.1), (3, vi s43.2.1), (4, vi s43.2.2), (5, vi x46), (6, vi 0)]) rfl ?_
    refine wq_loopS (fun s53 => [(0, vr Z 1 t), (2, vr Z 2 s43.1), (3, vi s53.1), (4, vi s43.2.2), (5, vi x46), (6, vi s53.2)]) 54 (fun r61 => [(0, vr Z 1 t), (2, vr Z 2 s43.1), (3, vi r61), (4, vi s43.2.2), (5, vi x46)]) (fun κ47 bk48 ex49 gr52 s53 J51 => ?_) (fun gr63 r61 J62 => ?_) gr44 _ rfl
    · unfold f_G_letterOfText_w28
      refine wq_iload dX1_letterOfText_28 5 rfl ?_
      refine wq_iload dX1_letterOfText_30 4 rfl ?_
      refine wq_icmp_ge 54 dX1_letterOfText_32 (by decide) rfl rfl (fun c60 => ?_) (fun c60 => ?_)
      · refine wq_iload_n dX1_letterOfText_35 2 rfl rfl ?_
        refine wq_aload_n dX1_letterOfText_36 0 rfl rfl ?_
        refine wq_aload_n dX1_letterOfText_37 1 rfl rfl ?_
        refine wq_iload dX1_letterOfText_38 5 rfl ?_
        refine wq_cVi M_Row_at (R_Row_at Z s43.1 s53.2 _) (ob_2 hs43_2) rfl rfl (by decide) (by decide) (Nat.le_of_ble_eq_true rfl) ln_RX1_89 dX1_letterOfText_40 (fun gr54 x56 J55 => ?_)
        refine wq_cVi M_G_lengthOf (R_G_lengthOf Z t x56 _) (ob_1 ht) rfl rfl (by decide) (by decide) (Nat.le_of_ble_eq_true rfl) ln_RX1_93 dX1_letterOfText_43 (fun gr57 x59 J58 => ?_)
        refine wq_isub dX1_letterOfText_46 ?_
        refine wq_istore_n (lv' := [(3, vi (s53.1 - x59)), (0, vr Z 1 t), (2, vr Z 2 s43.1), (4, vi s43.2.2), (5, vi x46), (6, vi s53.2)]) dX1_letterOfText_47 rfl (by decide) rfl ?_
        refine wq_iinc (lv' := [(6, vi (s53.2 + 1)), (3, vi (s53.1 - x59)), (0, vr Z 1 t), (2, vr Z 2 s43.1), (4, vi s43.2.2), (5, vi x46)]) dX1_letterOfText_48 5 rfl (by decide) rfl ?_
        refine wq_goto 28 dX1_letterOfText_51 (by decide) ?_
        exact WQ.loc [2, 3, 1, 4, 5, 0] rfl (bk48 _ _ _)
      · exact WQ.loc [0, 1, 2, 3, 4] rfl (ex49 _ _ _)
    · refine wq_aload_n dX1_letterOfText_54 1 rfl rfl ?_
      refine wq_iload dX1_letterOfText_55 4 rfl ?_
      refine wq_cVi M_Row_at (R_Row_at Z s43.1 x46 _) (ob_2 hs43_2) rfl rfl (by decide) (by decide) (Nat.le_of_ble_eq_true rfl) ln_RX1_89 dX1_letterOfText_57 (fun gr64 x66 J65 => ?_)
      refine wq_istore (lv' := [(6, vi x66), (0, vr Z 1 t), (2, vr Z 2 s43.1), (3, vi r61), (4, vi s43.2.2), (5, vi x46)]) dX1_letterOfText_60 (by decide) rfl ?_
      refine wq_iload dX1_letterOfText_62 0 rfl ?_
      refine wq_bipush dX1_letterOfText_64 (by decide) ?_
      refine wq_icmp_ge 72 dX1_letterOfText_66 (by decide) rfl rfl (fun c71 => ?_) (fun c71 => ?_)
      · refine wq_iload dX1_letterOfText_69 0 rfl ?_
        exact wq_iret rfl ((hr40 _ _).trans rfl) dX1_letterOfText_71
      · refine wq_aload_n dX1_letterOfText_72 1 rfl rfl ?_
        refine wq_iload dX1_letterOfText_73 0 rfl ?_
        refine wq_bipush dX1_letterOfText_75 (by decide) ?_
        refine wq_isub dX1_letterOfText_77 ?_
        refine wq_cVr 2 M_G_body (R_G_body Z t (x66 - 26) _) (ob_1 ht) rfl rfl (by decide) (by decide) (Nat.le_of_ble_eq_true rfl) ln_RX1_69 dX1_letterOfText_78 (fun gr67 x69 J68 => ?_)
        refine wq_grd (fun g70 => ?_)
        refine wq_astore_n (lv' := [(2, vr Z 2 x69), (6, vi x66), (0, vr Z 1 t), (3, vi r61), (4, vi s43.2.2), (5, vi x46)]) dX1_letterOfText_81 rfl (by decide) rfl ?_
        refine wq_iinc (lv' := [(4, vi (s43.2.2 + 1)), (2, vr Z 2 x69), (6, vi x66), (0, vr Z 1 t), (3, vi r61), (5, vi x46)]) dX1_letterOfText_82 4 rfl (by decide) rfl ?_
        refine wq_goto 10 dX1_letterOfText_85 (by decide) ?_
        exact WQ.loc [3, 1, 4, 0] rfl (bk38 _ _ _)

theorem M_Row_isPair : MwV yX5_isPair cX5_isPair 3 (some .boolean) 2 := ⟨li_4 123 (by decide +kernel) (by decide +kernel), li_4 121 (by decide +kernel) (by decide +kernel), li_4 122 (by decide +kernel) (by decide +kernel), li_1 3 (by decide +kernel) (by decide +kernel), by decide +kernel⟩
theorem ln_RX1_113 : Cond.methodLink RX1 113 yX5_isPair ∈ lw_good := li_4 120 (by decide +kernel) (by decide +kernel)
noncomputable def f_G_keptOf_w2 (v0 : Nat) (v1 : Int) (v2 : Int) (s : Int) (I : Mem) : Option (((Int) ⊕ (Int)) × Mem) :=
if (w32 s) < 40 then
if 0 ≤ (w32 s) ∧ (w32 s) < 40 then
bnd (f_Row_isPair (43 * v0 + 3 + (w32 s).toNat) v1 v2 I) fun x5 J4 =>
if (w32 x5) = 0 then
some (.inl (s + 1), J4)
else
some (.inr (s), J4)
else none
else
some (.inr ((-1)), I)

noncomputable def f_G_keptOf (t : Nat) (a1 : Int) (a2 : Int) (I : Mem) : Option ((Int) × Mem) :=
if t < 12 then
whl (f_G_keptOf_w2 t a1 a2) 0 I
else none
set_option maxRecDepth 20000 in
theorem R_G_keptOf (Z : ZT) (t : Nat) (a1 : Int) (a2 : Int) (I : Mem) (r : Int) (J : Mem) (hf : f_G_keptOf t a1 a2 I = some (r, J)) : Runs Z yX1_keptOf cX1_keptOf 4 (some .int) 2 [vr Z 1 t, vi a1, vi a2] I (some (vi r), J) := by
  refine Runs.of (rv := fun x => some (vi x)) (by decide +kernel) (Nat.le_of_ble_eq_true rfl) hf (fun gr => ?_)
  unfold f_G_keptOf
  refine WQ.loc [0, 1, 2] (lv' := [(0, vr Z 1 t), (1, vi a1), (2, vi a2)]) rfl ?_
  refine wq_grd (fun ht => ?_)
  refine wq_iconst dX1_keptOf_0 ?_
  refine wq_istore_n (lv' := [(3, vi 0), (0, vr Z 1 t), (1, vi a1), (2, vi a2)]) dX1_keptOf_1 rfl (by decide) rfl ?_
  refine WQ.loc [1, 2, 3, 0] (lv' := [(0, vr Z 1 t), (1, vi a1), (2, vi a2), (3, vi 0)]) rfl ?_
  refine wq_loop (fun s14 => [(0, vr Z 1 t), (1, vi a1), (2, vi a2), (3, vi s14)]) (fun κ8 bk9 hr11 gr13 s14 J12 => ?_) gr _ rfl
  unfold f_G_keptOf_w2
  refine wq_iload_n dX1_keptOf_2 3 rfl rfl ?_
  refine wq_bipush dX1_keptOf_3 (by decide) ?_
  refine wq_icmp_ge 30 dX1_keptOf_5 (by decide) rfl rfl (fun c21 => ?_) (fun c21 => ?_)
  · refine wq_aload_n dX1_keptOf_8 0 rfl rfl ?_
    refine g_1_2 ht ln_RX1_21 dX1_keptOf_9 ?_
    refine wq_iload_n dX1_keptOf_12 3 rfl rfl ?_
    refine wq_grd (fun g15 => ?_)
    refine wq_aald (k := 13) (i := t) (t0 := 4) rfl rfl ht rfl rfl (m := 40) g15 (Nat.le_refl _) dX1_keptOf_13 ?_
    have hb16 : (43 * t + 3 + (w32 s14).toNat) < 516 := by omega
    refine wq_iload_n dX1_keptOf_14 1 rfl rfl ?_
    refine wq_iload_n dX1_keptOf_15 2 rfl rfl ?_
    refine wq_cVi M_Row_isPair (R_Row_isPair Z (43 * t + 3 + (w32 s14).toNat) a1 a2 _) (ob_2 hb16) rfl rfl (by decide) (by decide) (Nat.le_of_ble_eq_true rfl) ln_RX1_113 dX1_keptOf_16 (fun gr17 x19 J18 => ?_)
    refine wq_if_eq 24 dX1_keptOf_19 (by decide) rfl (fun c20 => ?_) (fun c20 => ?_)
    · refine wq_iinc (lv' := [(3, vi (s14 + 1)), (0, vr Z 1 t), (1, vi a1), (2, vi a2)]) dX1_keptOf_24 3 rfl (by decide) rfl ?_
      refine wq_goto 2 dX1_keptOf_27 (by decide) ?_
      exact WQ.loc [1, 2, 3, 0] rfl (bk9 _ _ _)
    · refine wq_iload_n dX1_keptOf_22 3 rfl rfl ?_
      exact wq_iret rfl ((hr11 _ _).trans rfl) dX1_keptOf_23
  · refine wq_iconst dX1_keptOf_30 ?_
    exact wq_iret rfl ((hr11 _ _).trans rfl) dX1_keptOf_31

theorem M_Row_makeRoom : MwV yX5_makeRoom cX5_makeRoom 4 (some .boolean) 1 := ⟨li_2 93 (by decide +kernel) (by decide +kernel), li_2 92 (by decide +kernel) (by decide +kernel), lw_in 0 (by decide +kernel) (by decide +kernel), li_1 3 (by decide +kernel) (by decide +kernel), by decide +kernel⟩
theorem ln_RX5_19 : Cond.methodLink RX5 19 yX5_makeRoom ∈ lw_good := li_2 90 (by decide +kernel) (by decide +kernel)
noncomputable def f_Row_put (t : Nat) (a1 : Int) (I : Mem) : Option ((Unit) × Mem) :=
if t < 516 then
bnd (f_Row_makeRoom t ((I 2 t 1) + 1) I) fun x3 J2 =>
if (w32 x3) = 0 then
some ((), J2)
else
if 0 ≤ (w32 (J2 2 t 1)) ∧ (w32 (J2 2 t 1)) < (J2 2 t 2) then
ltI (sI J2 12 t (w32 (J2 2 t 1)).toNat a1) fun J5 =>
ltI (sI J5 2 t 1 ((J5 2 t 1) + 1)) fun J6 =>
some ((), J6)
else none
else none
set_option maxRecDepth 20000 in
theorem R_Row_put (Z : ZT) (t : Nat) (a1 : Int) (I : Mem) (r : Unit) (J : Mem) (hf : f_Row_put t a1 I = some (r, J)) : Runs Z yX5_put cX5_put 2 (none) 2 [vr Z 2 t, vi a1] I (none, J) := by
  refine Runs.of (rv := fun _ => none) (by decide +kernel) (Nat.le_of_ble_eq_true rfl) hf (fun gr => ?_)
  unfold f_Row_put
  refine WQ.loc [0, 1] (lv' := [(0, vr Z 2 t), (1, vi a1)]) rfl ?_
  refine wq_grd (fun ht => ?_)
  refine wq_aload_n dX5_put_0 0 rfl rfl ?_
  refine wq_aload_n dX5_put_1 0 rfl rfl ?_
  refine g_2_1 ht ln_RX5_15 dX5_put_2 ?_
  refine wq_iconst dX5_put_5 ?_
  refine wq_iadd dX5_put_6 ?_
  refine wq_cVi M_Row_makeRoom (R_Row_makeRoom Z t ((I 2 t 1) + 1) _) (ob_2 ht) rfl rfl (by decide) (by decide) (Nat.le_of_ble_eq_true rfl) ln_RX5_19 dX5_put_7 (fun gr1 x3 J2 => ?_)
  refine wq_if_eq 33 dX5_put_10 (by decide) rfl (fun c7 => ?_) (fun c7 => ?_)
  · exact wq_vret rfl rfl dX5_put_33
  · refine wq_aload_n dX5_put_13 0 rfl rfl ?_
    refine g_2_0 ht ln_RX5_9 dX5_put_14 ?_
    refine wq_aload_n dX5_put_17 0 rfl rfl ?_
    refine g_2_1 ht ln_RX5_15 dX5_put_18 ?_
    refine wq_iload_n dX5_put_21 1 rfl rfl ?_
    refine wq_grd (fun g4 => ?_)
    refine wq_iast (k := 12) (i := t) (fun K hK => by show arI _ (K 2 _ 2).toNat _ = _; rw [hK]) ht rfl rfl (m := (J2 2 t 2)) g4 (Nat.le_refl _) (by decide) (by decide) (by decide) dX5_put_22 (fun J5 => ?_)
    refine wq_aload_n dX5_put_23 0 rfl rfl ?_
    refine wq_dup dX5_put_24 rfl ?_
    refine g_2_1 ht ln_RX5_15 dX5_put_25 ?_
    refine wq_iconst dX5_put_28 ?_
    refine wq_iadd dX5_put_29 ?_
    refine p_2_1 ht ln_RX5_15 dX5_put_30 (fun J6 => ?_)
    exact wq_vret rfl rfl dX5_put_33

noncomputable def f_Row_putAll (t : Nat) (a1 : Nat) (I : Mem) : Option ((Unit) × Mem) :=
if t < 516 then
if a1 < 516 then
bnd (f_Row_makeRoom t ((I 2 t 1) + (I 2 a1 1)) I) fun x3 J2 =>
if (w32 x3) = 0 then
some ((), J2)
else
if 0 ≤ (0 : Int) ∧ 0 ≤ (w32 (J2 2 t 1)) ∧ 0 ≤ (w32 (J2 2 a1 1)) ∧ (0 : Int) + (w32 (J2 2 a1 1)) ≤ (J2 2 a1 2) ∧ (w32 (J2 2 t 1)) + (w32 (J2 2 a1 1)) ≤ (J2 2 t 2) then
ltI (cpI J2 12 a1 0 t (w32 (J2 2 t 1)).toNat (w32 (J2 2 a1 1)).toNat) fun J5 =>
ltI (sI J5 2 t 1 ((J5 2 t 1) + (J5 2 a1 1))) fun J6 =>
some ((), J6)
else none
else none
else none
set_option maxRecDepth 20000 in
theorem R_Row_putAll (Z : ZT) (t : Nat) (a1 : Nat) (I : Mem) (r : Unit) (J : Mem) (hf : f_Row_putAll t a1 I = some (r, J)) : Runs Z yX5_putAll cX5_putAll 2 (none) 2 [vr Z 2 t, vr Z 2 a1] I (none, J) := by
  refine Runs.of (rv := fun _ => none) (by decide +kernel) (Nat.le_of_ble_eq_true rfl) hf (fun gr => ?_)
  unfold f_Row_putAll
  refine WQ.loc [0, 1] (lv' := [(0, vr Z 2 t), (1, vr Z 2 a1)]) rfl ?_
  refine wq_grd (fun ht => ?_)
  refine wq_grd (fun h1 => ?_)
  refine wq_aload_n dX5_putAll_0 0 rfl rfl ?_
  refine wq_aload_n dX5_putAll_1 0 rfl rfl ?_
  refine g_2_1 ht ln_RX5_15 dX5_putAll_2 ?_
  refine wq_aload_n dX5_putAll_5 1 rfl rfl ?_
  refine g_2_1 h1 ln_RX5_15 dX5_putAll_6 ?_
  refine wq_iadd dX5_putAll_9 ?_
  refine wq_cVi M_Row_makeRoom (R_Row_makeRoom Z t ((I 2 t 1) + (I 2 a1 1)) _) (ob_2 ht) rfl rfl (by decide) (by decide) (Nat.le_of_ble_eq_true rfl) ln_RX5_19 dX5_putAll_10 (fun gr1 x3 J2 => ?_)
  refine wq_if_eq 49 dX5_putAll_13 (by decide) rfl (fun c7 => ?_) (fun c7 => ?_)
  · exact wq_vret rfl rfl dX5_putAll_49
  · refine wq_aload_n dX5_putAll_16 1 rfl rfl ?_
    refine g_2_0 h1 ln_RX5_9 dX5_putAll_17 ?_
    refine wq_iconst dX5_putAll_20 ?_
    refine wq_aload_n dX5_putAll_21 0 rfl rfl ?_
    refine g_2_0 ht ln_RX5_9 dX5_putAll_22 ?_
    refine wq_aload_n dX5_putAll_25 0 rfl rfl ?_
    refine g_2_1 ht ln_RX5_15 dX5_putAll_26 ?_
    refine wq_aload_n dX5_putAll_29 1 rfl rfl ?_
    refine g_2_1 h1 ln_RX5_15 dX5_putAll_30 ?_
    refine wq_grd (fun g4 => ?_)
    refine wq_acopy h1 ht rfl rfl rfl g4 (by decide) (Nat.le_of_ble_eq_true rfl) ln_RX5_23 dX5_putAll_33 (fun J5 => ?_)
    refine wq_aload_n dX5_putAll_36 0 rfl rfl ?_
    refine wq_dup dX5_putAll_37 rfl ?_
    refine g_2_1 ht ln_RX5_15 dX5_putAll_38 ?_
    refine wq_aload_n dX5_putAll_41 1 rfl rfl ?_
    refine g_2_1 h1 ln_RX5_15 dX5_putAll_42 ?_
    refine wq_iadd dX5_putAll_45 ?_
    refine p_2_1 ht ln_RX5_15 dX5_putAll_46 (fun J6 => ?_)
    exact wq_vret rfl rfl dX5_putAll_49

theorem M_Row_putAll : MwV yX5_putAll cX5_putAll 2 (none) 1 := ⟨li_3 167 (by decide +kernel) (by decide +kernel), li_3 165 (by decide +kernel) (by decide +kernel), li_3 166 (by decide +kernel) (by decide +kernel), li_1 3 (by decide +kernel) (by decide +kernel), by decide +kernel⟩
theorem ln_RX5_29 : Cond.methodLink RX5 29 yX5_putAll ∈ lw_good := li_3 164 (by decide +kernel) (by decide +kernel)
noncomputable def f_Row_takeFrom (t : Nat) (a1 : Nat) (I : Mem) : Option ((Unit) × Mem) :=
if t < 516 then
if a1 < 516 then
ltI (sI I 2 t 1 0) fun J1 =>
bnd (f_Row_putAll t a1 J1) fun _ J3 =>
some ((), J3)
else none
else none
set_option maxRecDepth 20000 in
theorem R_Row_takeFrom (Z : ZT) (t : Nat) (a1 : Nat) (I : Mem) (r : Unit) (J : Mem) (hf : f_Row_takeFrom t a1 I = some (r, J)) : Runs Z yX5_takeFrom cX5_takeFrom 2 (none) 3 [vr Z 2 t, vr Z 2 a1] I (none, J) := by
  refine Runs.of (rv := fun _ => none) (by decide +kernel) (Nat.le_of_ble_eq_true rfl) hf (fun gr => ?_)
  unfold f_Row_takeFrom
  refine WQ.loc [0, 1] (lv' := [(0, vr Z 2 t), (1, vr Z 2 a1)]) rfl ?_
  refine wq_grd (fun ht => ?_)
  refine wq_grd (fun h1 => ?_)
  refine wq_aload_n dX5_takeFrom_0 0 rfl rfl ?_
  refine wq_iconst dX5_takeFrom_1 ?_
  refine p_2_1 ht ln_RX5_15 dX5_takeFrom_2 (fun J1 => ?_)
  refine wq_aload_n dX5_takeFrom_5 0 rfl rfl ?_
  refine wq_aload_n dX5_takeFrom_6 1 rfl rfl ?_
  refine wq_cVv M_Row_putAll (R_Row_putAll Z t a1 _) (ob_2 ht) rfl rfl (by decide) (by decide) (Nat.le_of_ble_eq_true rfl) ln_RX5_29 dX5_takeFrom_7 (fun gr2 _ J3 => ?_)
  exact wq_vret rfl rfl dX5_takeFrom_10

theorem ln_RX5_33 : Cond.methodLink RX5 33 yX5_timesOf ∈ lw_good := li_4 168 (by decide +kernel) (by decide +kernel)
noncomputable def f_Row_open_w55 (v0 : Nat) (v1 : Int) (v2 : Nat) (v3 : Int) (v4 : Int) (s : Int × Int) (I : Mem) : Option (((Int × Int) ⊕ (Unit)) × Mem) :=
if (w32 s.2) < 0 then
some (.inr (), I)
else
if 0 ≤ (w32 s.2) ∧ (w32 s.2) < (I 2 v0 2) then
if (w32 (I 12 v0 (w32 s.2).toNat)) = (w32 v1) then
if 0 ≤ (0 : Int) ∧ 0 ≤ (w32 (s.1 - (I 2 v2 1))) ∧ 0 ≤ (w32 (I 2 v2 1)) ∧ (0 : Int) + (w32 (I 2 v2 1)) ≤ (I 2 v2 2) ∧ (w32 (s.1 - (I 2 v2 1))) + (w32 (I 2 v2 1)) ≤ (I 2 v0 2) then
ltI (cpI I 12 v2 0 v0 (w32 (s.1 - (I 2 v2 1))).toNat (w32 (I 2 v2 1)).toNat) fun J11 =>
some (.inl ((s.1 - (I 2 v2 1)), (s.2 + (-1))), J11)
else none
else
if 0 ≤ (w32 (s.1 + (-1))) ∧ (w32 (s.1 + (-1))) < (I 2 v0 2) then
ltI (sI I 12 v0 (w32 (s.1 + (-1))).toNat (I 12 v0 (w32 s.2).toNat)) fun J9 =>
some (.inl ((s.1 + (-1)), (s.2 + (-1))), J9)
else none
else none

noncomputable def f_Row_open (t : Nat) (a1 : Int) (a2 : Nat) (I : Mem) : Option ((Int) × Mem) :=
if t < 516 then
if a2 < 516 then
bnd (f_Row_timesOf t a1 I) fun x3 J2 =>
if (w32 x3) = 0 then
some (0, J2)
else
if (w32 (J2 2 a2 1)) = 0 then
some (0, J2)
else
bnd (f_Row_makeRoom t ((J2 2 t 1) + (x3 * ((J2 2 a2 1) - 1))) J2) fun x6 J5 =>
if (w32 x6) = 0 then
some (0, J5)
else
bnd (whl (f_Row_open_w55 t a1 a2 x3 ((J2 2 t 1) + (x3 * ((J2 2 a2 1) - 1)))) (((J2 2 t 1) + (x3 * ((J2 2 a2 1) - 1))), ((J5 2 t 1) - 1)) J5) fun r28 J29 =>
ltI (sI J29 2 t 1 ((J2 2 t 1) + (x3 * ((J2 2 a2 1) - 1)))) fun J31 =>
some (x3, J31)
else none
else none
set_option maxRecDepth 20000 in
theorem R_Row_open (Z : ZT) (t : Nat) (a1 : Int) (a2 : Nat) (I : Mem) (r : Int) (J : Mem) (hf : f_Row_open t a1 a2 I = some (r, J)) : Runs Z yX5_open cX5_open 7 (some .int) 2 [vr Z 2 t, vi a1, vr Z 2 a2] I (some (vi r), J) := by
  refine Runs.of (rv := fun x => some (vi x)) (by decide +kernel) (Nat.le_of_ble_eq_true rfl) hf (fun gr => ?_)
  unfold f_Row_open
  refine WQ.loc [0, 1, 2] (lv' := [(0, vr Z 2 t), (1, vi a1), (2, vr Z 2 a2)]) rfl ?_
  refine wq_grd (fun ht => ?_)
  refine wq_grd (fun h2 => ?_)
  refine wq_aload_n dX5_open_0 0 rfl rfl ?_
  refine wq_iload_n dX5_open_1 1 rfl rfl ?_
  refine wq_cVi M_Row_timesOf (R_Row_timesOf Z t a1 _) (ob_2 ht) rfl rfl (by decide) (by decide) (Nat.le_of_ble_eq_true rfl) ln_RX5_33 dX5_open_2 (fun gr1 x3 J2 => ?_)
  refine wq_istore_n (lv' := [(3, vi x3), (0, vr Z 2 t), (1, vi a1), (2, vr Z 2 a2)]) dX5_open_5 rfl (by decide) rfl ?_
  refine wq_aload_n dX5_open_6 1 rfl rfl ?_
  refine g_2_1 ht ln_RX5_15 dX5_open_7 ?_
  refine wq_iload_n dX5_open_10 0 rfl rfl ?_
  refine wq_aload_n dX5_open_11 3 rfl rfl ?_
  refine g_2_1 h2 ln_RX5_15 dX5_open_12 ?_
  refine wq_iconst dX5_open_15 ?_
  refine wq_isub dX5_open_16 ?_
  refine wq_imul dX5_open_17 ?_
  refine wq_iadd dX5_open_18 ?_
  refine wq_istore (lv' := [(4, vi ((J2 2 t 1) + (x3 * ((J2 2 a2 1) - 1)))), (3, vi x3), (0, vr Z 2 t), (1, vi a1), (2, vr Z 2 a2)]) dX5_open_19 (by decide) rfl ?_
  refine wq_iload_n dX5_open_21 1 rfl rfl ?_
  refine wq_if_eq 41 dX5_open_22 (by decide) rfl (fun c34 => ?_) (fun c34 => ?_)
  · refine wq_iconst dX5_open_41 ?_
    exact wq_iret rfl rfl dX5_open_42
  · refine wq_aload_n dX5_open_25 4 rfl rfl ?_
    refine g_2_1 h2 ln_RX5_15 dX5_open_26 ?_
    refine wq_if_eq 41 dX5_open_29 (by decide) rfl (fun c33 => ?_) (fun c33 => ?_)
    · refine wq_iconst dX5_open_41 ?_
      exact wq_iret rfl rfl dX5_open_42
    · refine wq_aload_n dX5_open_32 2 rfl rfl ?_
      refine wq_iload dX5_open_33 0 rfl ?_
      refine wq_cVi M_Row_makeRoom (R_Row_makeRoom Z t ((J2 2 t 1) + (x3 * ((J2 2 a2 1) - 1))) _) (ob_2 ht) rfl rfl (by decide) (by decide) (Nat.le_of_ble_eq_true rfl) ln_RX5_19 dX5_open_35 (fun gr4 x6 J5 => ?_)
      refine wq_if_ne 43 dX5_open_38 (by decide) rfl (fun c32 => ?_) (fun c32 => ?_)
      · refine wq_iconst dX5_open_41 ?_
        exact wq_iret rfl rfl dX5_open_42
      · refine wq_iload dX5_open_43 0 rfl ?_
        refine wq_istore (lv' := [(5, vi ((J2 2 t 1) + (x3 * ((J2 2 a2 1) - 1)))), (4, vi ((J2 2 t 1) + (x3 * ((J2 2 a2 1) - 1)))), (3, vi x3), (0, vr Z 2 t), (1, vi a1), (2, vr Z 2 a2)]) dX5_open_45 (by decide) rfl ?_
        refine wq_aload_n dX5_open_47 3 rfl rfl ?_
        refine g_2_1 ht ln_RX5_15 dX5_open_48 ?_
        refine wq_iconst dX5_open_51 ?_
        refine wq_isub dX5_open_52 ?_
        refine wq_istore (lv' := [(6, vi ((J5 2 t 1) - 1)), (5, vi ((J2 2 t 1) + (x3 * ((J2 2 a2 1) - 1)))), (4, vi ((J2 2 t 1) + (x3 * ((J2 2 a2 1) - 1)))), (3, vi x3), (0, vr Z 2 t), (1, vi a1), (2, vr Z 2 a2)]) dX5_open_53 (by decide) rfl ?_
        refine WQ.loc [4, 5, 6, 3, 2, 1, 0] (lv' := [(0, vr Z 2 t), (1, vi a1), (2, vr Z 2 a2), (3, vi x3), (4, vi ((J2 2 t 1) + (x3 * ((J2 2 a2 1) - 1)))), (5, vi ((J2 2 t 1) + (x3 * ((J2 2 a2 1) - 1)))), (6, vi ((J5 2 t 1) - 1))]) rfl ?_
        refine wq_loopS (fun s20 => [(0, vr Z 2 t), (1, vi a1), (2, vr Z 2 a2), (3, vi x3), (4, vi ((J2 2 t 1) + (x3 * ((J2 2 a2 1) - 1)))), (5, vi s20.1), (6, vi s20.2)]) 124 (fun _ => [(0, vr Z 2 t), (3, vi x3), (4, vi ((J2 2 t 1) + (x3 * ((J2 2 a2 1) - 1))))]) (fun κ14 bk15 ex16 gr19 s20 J18 => ?_) (fun gr30 r28 J29 => ?_) gr4 _ rfl
        · unfold f_Row_open_w55
          refine wq_iload dX5_open_55 6 rfl ?_
          refine wq_if_lt 124 dX5_open_57 (by decide) rfl (fun c27 => ?_) (fun c27 => ?_)
          · exact WQ.loc [0, 3, 4] rfl (ex16 _ _ _)
          · refine wq_aload_n dX5_open_60 0 rfl rfl ?_
            refine g_2_0 ht ln_RX5_9 dX5_open_61 ?_
            refine wq_iload dX5_open_64 6 rfl ?_
            refine wq_grd (fun g21 => ?_)
            refine wq_iald (k := 12) (i := t) rfl ht rfl rfl (m := (J18 2 t 2)) g21 (Nat.le_refl _) dX5_open_66 ?_
            refine wq_iload_n dX5_open_67 1 rfl rfl ?_
            refine wq_icmp_ne 101 dX5_open_68 (by decide) rfl rfl (fun c26 => ?_) (fun c26 => ?_)
            · refine wq_iload dX5_open_71 5 rfl ?_
              refine wq_aload_n dX5_open_73 2 rfl rfl ?_
              refine g_2_1 h2 ln_RX5_15 dX5_open_74 ?_
              refine wq_isub dX5_open_77 ?_
              refine wq_istore (lv' := [(5, vi (s20.1 - (J18 2 a2 1))), (0, vr Z 2 t), (1, vi a1), (2, vr Z 2 a2), (3, vi x3), (4, vi ((J2 2 t 1) + (x3 * ((J2 2 a2 1) - 1)))), (6, vi s20.2)]) dX5_open_78 (by decide) rfl ?_
              refine wq_aload_n dX5_open_80 3 rfl rfl ?_
              refine g_2_0 h2 ln_RX5_9 dX5_open_81 ?_
              refine wq_iconst dX5_open_84 ?_
              refine wq_aload_n dX5_open_85 1 rfl rfl ?_
              refine g_2_0 ht ln_RX5_9 dX5_open_86 ?_
              refine wq_iload dX5_open_89 0 rfl ?_
              refine wq_aload_n dX5_open_91 3 rfl rfl ?_
              refine g_2_1 h2 ln_RX5_15 dX5_open_92 ?_
              refine wq_grd (fun g24 => ?_)
              refine wq_acopy h2 ht rfl rfl rfl g24 (by decide) (Nat.le_of_ble_eq_true rfl) ln_RX5_23 dX5_open_95 (fun J25 => ?_)
              refine wq_goto 118 dX5_open_98 (by decide) ?_
              refine wq_iinc (lv' := [(6, vi (s20.2 + (-1))), (5, vi (s20.1 - (J18 2 a2 1))), (0, vr Z 2 t), (1, vi a1), (2, vr Z 2 a2), (3, vi x3), (4, vi ((J2 2 t 1) + (x3 * ((J2 2 a2 1) - 1))))]) dX5_open_118 6 rfl (by decide) rfl ?_
              refine wq_goto 55 dX5_open_121 (by decide) ?_
              exact WQ.loc [2, 3, 4, 5, 6, 1, 0] rfl (bk15 _ _ _)
            · refine wq_iinc (lv' := [(5, vi (s20.1 + (-1))), (0, vr Z 2 t), (1, vi a1), (2, vr Z 2 a2), (3, vi x3), (4, vi ((J2 2 t 1) + (x3 * ((J2 2 a2 1) - 1)))), (6, vi s20.2)]) dX5_open_101 5 rfl (by decide) rfl ?_
              refine wq_aload_n dX5_open_104 1 rfl rfl ?_
              refine g_2_0 ht ln_RX5_9 dX5_open_105 ?_
              refine wq_iload dX5_open_108 0 rfl ?_
              refine wq_aload_n dX5_open_110 1 rfl rfl ?_
              refine g_2_0 ht ln_RX5_9 dX5_open_111 ?_
              refine wq_iload dX5_open_114 6 rfl ?_
              refine wq_iald (k := 12) (i := t) rfl ht rfl rfl (m := (J18 2 t 2)) g21 (Nat.le_refl _) dX5_open_116 ?_
              refine wq_grd (fun g22 => ?_)
              refine wq_iast (k := 12) (i := t) (fun K hK => by show arI _ (K 2 _ 2).toNat _ = _; rw [hK]) ht rfl rfl (m := (J18 2 t 2)) g22 (Nat.le_refl _) (by decide) (by decide) (by decide) dX5_open_117 (fun J23 => ?_)
              refine wq_iinc (lv' := [(6, vi (s20.2 + (-1))), (5, vi (s20.1 + (-1))), (0, vr Z 2 t), (1, vi a1), (2, vr Z 2 a2), (3, vi x3), (4, vi ((J2 2 t 1) + (x3 * ((J2 2 a2 1) - 1))))]) dX5_open_118 6 rfl (by decide) rfl ?_
              refine wq_goto 55 dX5_open_121 (by decide) ?_
              exact WQ.loc [2, 3, 4, 5, 6, 1, 0] rfl (bk15 _ _ _)
        · refine wq_aload_n dX5_open_124 0 rfl rfl ?_
          refine wq_iload dX5_open_125 2 rfl ?_
          refine p_2_1 ht ln_RX5_15 dX5_open_127 (fun J31 => ?_)
          refine wq_iload_n dX5_open_130 1 rfl rfl ?_
          exact wq_iret rfl rfl dX5_open_131

theorem ln_RX9_71 : Cond.methodLink RX9 71 yX1_startRow ∈ lw_good := li_4 143 (by decide +kernel) (by decide +kernel)
theorem M_Stp_noteUses : MwV yX9_noteUses cX9_noteUses 5 (none) 2 := ⟨li_4 147 (by decide +kernel) (by decide +kernel), li_4 146 (by decide +kernel) (by decide +kernel), lw_in 33 (by decide +kernel) (by decide +kernel), li_1 4 (by decide +kernel) (by decide +kernel), by decide +kernel⟩
theorem ln_RX9_67 : Cond.methodLink RX9 67 yX9_noteUses ∈ lw_good := li_4 144 (by decide +kernel) (by decide +kernel)
theorem ln_RX9_63 : Cond.methodLink RX9 63 yX1_body ∈ lw_good := li_4 150 (by decide +kernel) (by decide +kernel)
noncomputable def f_Stp_countUses_w2 (v1 : Nat) (s : Int) (I : Mem) : Option (((Int) ⊕ (Unit)) × Mem) :=
if (w32 s) < 40 then
if 0 ≤ (w32 s) ∧ (w32 s) < 40 then
ltI (sI I 17 0 (w32 s).toNat 0) fun J2 =>
some (.inl (s + 1), J2)
else none
else
some (.inr (), I)

noncomputable def f_Stp_countUses_w32 (v1 : Nat) (s : Int) (I : Mem) : Option (((Int) ⊕ (Unit)) × Mem) :=
if (w32 s) < 40 then
bnd (f_G_body v1 s I) fun x23 J22 =>
if x23 < 516 then
bnd (f_Stp_noteUses x23 1 J22) fun _ J26 =>
some (.inl (s + 1), J26)
else none
else
some (.inr (), I)

noncomputable def f_Stp_countUses (a1 : Nat) (I : Mem) : Option ((Unit) × Mem) :=
if a1 < 12 then
bnd (whl (f_Stp_countUses_w2 a1) 0 I) fun r14 J15 =>
bnd (f_Stp_noteUses (43 * a1) 1 J15) fun _ J19 =>
bnd (whl (f_Stp_countUses_w32 a1) 0 J19) fun r44 J45 =>
some ((), J45)
else none
set_option maxRecDepth 20000 in
theorem R_Stp_countUses (Z : ZT) (a1 : Nat) (I : Mem) (r : Unit) (J : Mem) (hf : f_Stp_countUses a1 I = some (r, J)) : Runs Z yX9_countUses cX9_countUses 3 (none) 3 [vr Z 3 0, vr Z 1 a1] I (none, J) := by
  refine Runs.of (rv := fun _ => none) (by decide +kernel) (Nat.le_of_ble_eq_true rfl) hf (fun gr => ?_)
  unfold f_Stp_countUses
  refine WQ.loc [0, 1] (lv' := [(0, vr Z 3 0), (1, vr Z 1 a1)]) rfl ?_
  refine wq_grd (fun h1 => ?_)
  refine wq_iconst dX9_countUses_0 ?_
  refine wq_istore_n (lv' := [(2, vi 0), (0, vr Z 3 0), (1, vr Z 1 a1)]) dX9_countUses_1 rfl (by decide) rfl ?_
  refine WQ.loc [1, 2, 0] (lv' := [(0, vr Z 3 0), (1, vr Z 1 a1), (2, vi 0)]) rfl ?_
  refine wq_loopS (fun s10 => [(0, vr Z 3 0), (1, vr Z 1 a1), (2, vi s10)]) 21 (fun _ => [(0, vr Z 3 0), (1, vr Z 1 a1)]) (fun κ4 bk5 ex6 gr9 s10 J8 => ?_) (fun gr16 r14 J15 => ?_) gr _ rfl
  · unfold f_Stp_countUses_w2
    refine wq_iload_n dX9_countUses_2 2 rfl rfl ?_
    refine wq_bipush dX9_countUses_3 (by decide) ?_
    refine wq_icmp_ge 21 dX9_countUses_5 (by decide) rfl rfl (fun c13 => ?_) (fun c13 => ?_)
    · refine wq_aload_n dX9_countUses_8 0 rfl rfl ?_
      refine g_3_1 ln_RX9_18 dX9_countUses_9 ?_
      refine wq_iload_n dX9_countUses_12 2 rfl rfl ?_
      refine wq_iconst dX9_countUses_13 ?_
      refine wq_grd (fun g11 => ?_)
      refine wq_iast (k := 17) (i := 0) (fun _ _ => rfl) (by decide) rfl rfl (m := 40) g11 (Nat.le_refl _) (by decide) (by decide) (by decide) dX9_countUses_14 (fun J12 => ?_)
      refine wq_iinc (lv' := [(2, vi (s10 + 1)), (0, vr Z 3 0), (1, vr Z 1 a1)]) dX9_countUses_15 2 rfl (by decide) rfl ?_
      refine wq_goto 2 dX9_countUses_18 (by decide) ?_
      exact WQ.loc [1, 2, 0] rfl (bk5 _ _ _)
    · exact WQ.loc [0, 1] rfl (ex6 _ _ _)
  · refine wq_aload_n dX9_countUses_21 0 rfl rfl ?_
    refine wq_aload_n dX9_countUses_22 1 rfl rfl ?_
    refine wq_pV (v := vr Z 2 (43 * a1)) M_G_startRow (R_G_startRow Z a1 _ _ _ (if_pos h1)) (ob_1 h1) rfl rfl (by decide) (by decide) (Nat.le_of_ble_eq_true rfl) ln_RX9_71 dX9_countUses_23 (fun gr17 => ?_)
    refine wq_iconst dX9_countUses_26 ?_
    refine wq_cVv M_Stp_noteUses (R_Stp_noteUses Z (43 * a1) 1 _) ob_3 rfl rfl (by decide) (by decide) (Nat.le_of_ble_eq_true rfl) ln_RX9_67 dX9_countUses_27 (fun gr18 _ J19 => ?_)
    refine wq_iconst dX9_countUses_30 ?_
    refine wq_istore_n (lv' := [(2, vi 0), (0, vr Z 3 0), (1, vr Z 1 a1)]) dX9_countUses_31 rfl (by decide) rfl ?_
    refine WQ.loc [1, 2, 0] (lv' := [(0, vr Z 3 0), (1, vr Z 1 a1), (2, vi 0)]) rfl ?_
    refine wq_loopS (fun s35 => [(0, vr Z 3 0), (1, vr Z 1 a1), (2, vi s35)]) 54 (fun _ => []) (fun κ29 bk30 ex31 gr34 s35 J33 => ?_) (fun gr46 r44 J45 => ?_) gr18 _ rfl
    · unfold f_Stp_countUses_w32
      refine wq_iload_n dX9_countUses_32 2 rfl rfl ?_
      refine wq_bipush dX9_countUses_33 (by decide) ?_
      refine wq_icmp_ge 54 dX9_countUses_35 (by decide) rfl rfl (fun c43 => ?_) (fun c43 => ?_)
      · refine wq_aload_n dX9_countUses_38 0 rfl rfl ?_
        refine wq_aload_n dX9_countUses_39 1 rfl rfl ?_
        refine wq_iload_n dX9_countUses_40 2 rfl rfl ?_
        refine wq_cVr 2 M_G_body (R_G_body Z a1 s35 _) (ob_1 h1) rfl rfl (by decide) (by decide) (Nat.le_of_ble_eq_true rfl) ln_RX9_63 dX9_countUses_41 (fun gr36 x38 J37 => ?_)
        refine wq_grd (fun g39 => ?_)
        refine wq_iconst dX9_countUses_44 ?_
        refine wq_cVv M_Stp_noteUses (R_Stp_noteUses Z x38 1 _) ob_3 rfl rfl (by decide) (by decide) (Nat.le_of_ble_eq_true rfl) ln_RX9_67 dX9_countUses_45 (fun gr40 _ J41 => ?_)
        refine wq_iinc (lv' := [(2, vi (s35 + 1)), (0, vr Z 3 0), (1, vr Z 1 a1)]) dX9_countUses_48 2 rfl (by decide) rfl ?_
        refine wq_goto 32 dX9_countUses_51 (by decide) ?_
        exact WQ.loc [1, 2, 0] rfl (bk30 _ _ _)
      · exact WQ.loc [] rfl (ex31 _ _ _)
    · exact wq_vret rfl rfl dX9_countUses_54

theorem ln_RX9_83 : Cond.methodLink RX9 83 yX1_hasRule ∈ lw_good := li_4 155 (by decide +kernel) (by decide +kernel)
noncomputable def f_Stp_lowestHardlyUsed_w2 (v1 : Nat) (s : Int) (I : Mem) : Option (((Int) ⊕ (Int)) × Mem) :=
if (w32 s) < 40 then
if 0 ≤ (w32 s) ∧ (w32 s) < 40 then
if (w32 (I 17 0 (w32 s).toNat)) < 2 then
bnd (f_G_hasRule v1 s I) fun x4 J3 =>
if (w32 x4) = 0 then
some (.inl (s + 1), J3)
else
some (.inr (s), J3)
else
some (.inl (s + 1), I)
else none
else
some (.inr ((-1)), I)

noncomputable def f_Stp_lowestHardlyUsed (a1 : Nat) (I : Mem) : Option ((Int) × Mem) :=
if a1 < 12 then
whl (f_Stp_lowestHardlyUsed_w2 a1) 0 I
else none
set_option maxRecDepth 20000 in
theorem R_Stp_lowestHardlyUsed (Z : ZT) (a1 : Nat) (I : Mem) (r : Int) (J : Mem) (hf : f_Stp_lowestHardlyUsed a1 I = some (r, J)) : Runs Z yX9_lowestHardlyUsed cX9_lowestHardlyUsed 3 (some .int) 3 [vr Z 3 0, vr Z 1 a1] I (some (vi r), J) := by
  refine Runs.of (rv := fun x => some (vi x)) (by decide +kernel) (Nat.le_of_ble_eq_true rfl) hf (fun gr => ?_)
  unfold f_Stp_lowestHardlyUsed
  refine WQ.loc [0, 1] (lv' := [(0, vr Z 3 0), (1, vr Z 1 a1)]) rfl ?_
  refine wq_grd (fun h1 => ?_)
  refine wq_iconst dX9_lowestHardlyUsed_0 ?_
  refine wq_istore_n (lv' := [(2, vi 0), (0, vr Z 3 0), (1, vr Z 1 a1)]) dX9_lowestHardlyUsed_1 rfl (by decide) rfl ?_
  refine WQ.loc [1, 2, 0] (lv' := [(0, vr Z 3 0), (1, vr Z 1 a1), (2, vi 0)]) rfl ?_
  refine wq_loop (fun s14 => [(0, vr Z 3 0), (1, vr Z 1 a1), (2, vi s14)]) (fun κ8 bk9 hr11 gr13 s14 J12 => ?_) gr _ rfl
  unfold f_Stp_lowestHardlyUsed_w2
  refine wq_iload_n dX9_lowestHardlyUsed_2 2 rfl rfl ?_
  refine wq_bipush dX9_lowestHardlyUsed_3 (by decide) ?_
  refine wq_icmp_ge 34 dX9_lowestHardlyUsed_5 (by decide) rfl rfl (fun c21 => ?_) (fun c21 => ?_)
  · refine wq_aload_n dX9_lowestHardlyUsed_8 0 rfl rfl ?_
    refine g_3_1 ln_RX9_18 dX9_lowestHardlyUsed_9 ?_
    refine wq_iload_n dX9_lowestHardlyUsed_12 2 rfl rfl ?_
    refine wq_grd (fun g15 => ?_)
    refine wq_iald (k := 17) (i := 0) rfl (by decide) rfl rfl (m := 40) g15 (Nat.le_refl _) dX9_lowestHardlyUsed_13 ?_
    refine wq_iconst dX9_lowestHardlyUsed_14 ?_
    refine wq_icmp_ge 28 dX9_lowestHardlyUsed_15 (by decide) rfl rfl (fun c20 => ?_) (fun c20 => ?_)
    · refine wq_aload_n dX9_lowestHardlyUsed_18 1 rfl rfl ?_
      refine wq_iload_n dX9_lowestHardlyUsed_19 2 rfl rfl ?_
      refine wq_cVi M_G_hasRule (R_G_hasRule Z a1 s14 _) (ob_1 h1) rfl rfl (by decide) (by decide) (Nat.le_of_ble_eq_true rfl) ln_RX9_83 dX9_lowestHardlyUsed_20 (fun gr16 x18 J17 => ?_)
      refine wq_if_eq 28 dX9_lowestHardlyUsed_23 (by decide) rfl (fun c19 => ?_) (fun c19 => ?_)
      · refine wq_iinc (lv' := [(2, vi (s14 + 1)), (0, vr Z 3 0), (1, vr Z 1 a1)]) dX9_lowestHardlyUsed_28 2 rfl (by decide) rfl ?_
        refine wq_goto 2 dX9_lowestHardlyUsed_31 (by decide) ?_
        exact WQ.loc [1, 2, 0] rfl (bk9 _ _ _)
      · refine wq_iload_n dX9_lowestHardlyUsed_26 2 rfl rfl ?_
        exact wq_iret rfl ((hr11 _ _).trans rfl) dX9_lowestHardlyUsed_27
    · refine wq_iinc (lv' := [(2, vi (s14 + 1)), (0, vr Z 3 0), (1, vr Z 1 a1)]) dX9_lowestHardlyUsed_28 2 rfl (by decide) rfl ?_
      refine wq_goto 2 dX9_lowestHardlyUsed_31 (by decide) ?_
      exact WQ.loc [1, 2, 0] rfl (bk9 _ _ _)
  · refine wq_iconst dX9_lowestHardlyUsed_34 ?_
    exact wq_iret rfl ((hr11 _ _).trans rfl) dX9_lowestHardlyUsed_35

theorem ln_RX3_49 : Cond.methodLink RX3 49 yX5_many ∈ lw_good := li_4 47 (by decide +kernel) (by decide +kernel)
theorem M_PT_notePair : MwV yX3_notePair cX3_notePair 3 (none) 2 := ⟨li_4 72 (by decide +kernel) (by decide +kernel), li_4 71 (by decide +kernel) (by decide +kernel), lw_in 28 (by decide +kernel) (by decide +kernel), li_1 5 (by decide +kernel) (by decide +kernel), by decide +kernel⟩
theorem ln_RX3_103 : Cond.methodLink RX3 103 yX3_notePair ∈ lw_good := li_4 69 (by decide +kernel) (by decide +kernel)
noncomputable def f_PT_noteRow_j66 (v1 : Nat) (v2 : Int) (v4 : Int) (v5 : Int) (v6 : Int)  (e0 : Int) (I : Mem) : Option (((Int × Int) ⊕ (Unit)) × Mem) :=
bnd (f_PT_pairOf v5 v6 I) fun x15 J14 =>
bnd (f_PT_notePair x15 (v2 + v4) J14) fun _ J17 =>
some (.inl (e0, (v4 + 1)), J17)

noncomputable def f_PT_noteRow_j53 (v1 : Nat) (v2 : Int) (v3 : Int) (v4 : Int) (v5 : Int) (v6 : Int)   (I : Mem) : Option (((Int × Int) ⊕ (Unit)) × Mem) :=
if (w32 v5) = (w32 v6) then
f_PT_noteRow_j66 v1 v2 v4 v5 v6 v4 I
else
f_PT_noteRow_j66 v1 v2 v4 v5 v6 v3 I

noncomputable def f_PT_noteRow_w6 (v1 : Nat) (v2 : Int) (s : Int × Int) (I : Mem) : Option (((Int × Int) ⊕ (Unit)) × Mem) :=
if (w32 (s.2 + 1)) < (w32 (I 2 v1 1)) then
bnd (f_Row_at v1 s.2 I) fun x4 J3 =>
bnd (f_Row_at v1 (s.2 + 1) J3) fun x7 J6 =>
if (w32 x4) = (w32 x7) then
if (w32 s.1) = (w32 (s.2 - 1)) then
some (.inl (s.1, (s.2 + 1)), J6)
else
f_PT_noteRow_j53 v1 v2 s.1 s.2 x4 x7 J6
else
f_PT_noteRow_j53 v1 v2 s.1 s.2 x4 x7 J6
else
some (.inr (), I)

noncomputable def f_PT_noteRow (a1 : Nat) (a2 : Int) (I : Mem) : Option ((Unit) × Mem) :=
if a1 < 516 then
bnd (whl (f_PT_noteRow_w6 a1 a2) ((-2), 0) I) fun r70 J71 =>
some ((), J71)
else none
set_option maxRecDepth 20000 in
theorem R_PT_noteRow (Z : ZT) (a1 : Nat) (a2 : Int) (I : Mem) (r : Unit) (J : Mem) (hf : f_PT_noteRow a1 a2 I = some (r, J)) : Runs Z yX3_noteRow cX3_noteRow 7 (none) 3 [vr Z 4 0, vr Z 2 a1, vi a2] I (none, J) := by
  refine Runs.of (rv := fun _ => none) (by decide +kernel) (Nat.le_of_ble_eq_true rfl) hf (fun gr => ?_)
  unfold f_PT_noteRow
  refine WQ.loc [0, 1, 2] (lv' := [(0, vr Z 4 0), (1, vr Z 2 a1), (2, vi a2)]) rfl ?_
  refine wq_grd (fun h1 => ?_)
  refine wq_bipush dX3_noteRow_0 (by decide) ?_
  refine wq_istore_n (lv' := [(3, vi (-2)), (0, vr Z 4 0), (1, vr Z 2 a1), (2, vi a2)]) dX3_noteRow_2 rfl (by decide) rfl ?_
  refine wq_iconst dX3_noteRow_3 ?_
  refine wq_istore (lv' := [(4, vi 0), (3, vi (-2)), (0, vr Z 4 0), (1, vr Z 2 a1), (2, vi a2)]) dX3_noteRow_4 (by decide) rfl ?_
  refine WQ.loc [2, 3, 4, 1, 0] (lv' := [(0, vr Z 4 0), (1, vr Z 2 a1), (2, vi a2), (3, vi (-2)), (4, vi 0)]) rfl ?_
  refine wq_loopS (fun s46 => [(0, vr Z 4 0), (1, vr Z 2 a1), (2, vi a2), (3, vi s46.1), (4, vi s46.2)]) 89 (fun _ => []) (fun κ40 bk41 ex42 gr45 s46 J44 => ?_) (fun gr72 r70 J71 => ?_) gr _ rfl
  · unfold f_PT_noteRow_w6
    refine wq_iload dX3_noteRow_6 4 rfl ?_
    refine wq_iconst dX3_noteRow_8 ?_
    refine wq_iadd dX3_noteRow_9 ?_
    refine wq_aload_n dX3_noteRow_10 1 rfl rfl ?_
    refine wq_pV (v := vi (J44 2 a1 1)) M_Row_many (R_Row_many Z a1 _ _ _ (if_pos h1)) (ob_2 h1) rfl rfl (by decide) (by decide) (Nat.le_of_ble_eq_true rfl) ln_RX3_49 dX3_noteRow_11 (fun gr47 => ?_)
    refine wq_icmp_ge 89 dX3_noteRow_14 (by decide) rfl rfl (fun c69 => ?_) (fun c69 => ?_)
    · refine wq_aload_n dX3_noteRow_17 1 rfl rfl ?_
      refine wq_iload dX3_noteRow_18 4 rfl ?_
      refine wq_cVi M_Row_at (R_Row_at Z a1 s46.2 _) (ob_2 h1) rfl rfl (by decide) (by decide) (Nat.le_of_ble_eq_true rfl) ln_RX3_92 dX3_noteRow_20 (fun gr48 x50 J49 => ?_)
      refine wq_istore (lv' := [(5, vi x50), (0, vr Z 4 0), (1, vr Z 2 a1), (2, vi a2), (3, vi s46.1), (4, vi s46.2)]) dX3_noteRow_23 (by decide) rfl ?_
      refine wq_aload_n dX3_noteRow_25 2 rfl rfl ?_
      refine wq_iload dX3_noteRow_26 5 rfl ?_
      refine wq_iconst dX3_noteRow_28 ?_
      refine wq_iadd dX3_noteRow_29 ?_
      refine wq_cVi M_Row_at (R_Row_at Z a1 (s46.2 + 1) _) (ob_2 h1) rfl rfl (by decide) (by decide) (Nat.le_of_ble_eq_true rfl) ln_RX3_92 dX3_noteRow_30 (fun gr51 x53 J52 => ?_)
      refine wq_istore (lv' := [(6, vi x53), (5, vi x50), (0, vr Z 4 0), (1, vr Z 2 a1), (2, vi a2), (3, vi s46.1), (4, vi s46.2)]) dX3_noteRow_33 (by decide) rfl ?_
      refine wq_iload dX3_noteRow_35 1 rfl ?_
      refine wq_iload dX3_noteRow_37 0 rfl ?_
      have hj54 : ∀ (gr58 : Nat → Nat)   (J57 : Mem), WQ Z (yX3_noteRow, cX3_noteRow, 7, none, 3) I gr58 53 [(0, vr Z 4 0), (1, vr Z 2 a1), (2, vi a2), (3, vi s46.1), (4, vi s46.2), (5, vi x50), (6, vi x53)] [] J57 (f_PT_noteRow_j53 a1 a2 s46.1 s46.2 x50 x53 J57) κ40 := by
        intro gr58 J57
        unfold f_PT_noteRow_j53
        refine wq_iload dX3_noteRow_53 5 rfl ?_
        refine wq_iload dX3_noteRow_55 6 rfl ?_
        have hj59 : ∀ (gr62 : Nat → Nat)  (hj59e0 : Int) (J61 : Mem), WQ Z (yX3_noteRow, cX3_noteRow, 7, none, 3) I gr62 66 [(0, vr Z 4 0), (1, vr Z 2 a1), (2, vi a2), (4, vi s46.2), (5, vi x50), (6, vi x53)] [vi hj59e0] J61 (f_PT_noteRow_j66 a1 a2 s46.2 x50 x53 hj59e0 J61) κ40 := by
          intro gr62 hj59e0 J61
          unfold f_PT_noteRow_j66
          refine wq_istore_n (lv' := [(3, vi hj59e0), (0, vr Z 4 0), (1, vr Z 2 a1), (2, vi a2), (4, vi s46.2), (5, vi x50), (6, vi x53)]) dX3_noteRow_66 rfl (by decide) rfl ?_
          refine wq_aload_n dX3_noteRow_67 1 rfl rfl ?_
          refine wq_aload_n dX3_noteRow_68 1 rfl rfl ?_
          refine wq_iload dX3_noteRow_69 5 rfl ?_
          refine wq_iload dX3_noteRow_71 6 rfl ?_
          refine wq_cVi M_PT_pairOf (R_PT_pairOf Z x50 x53 _) ob_4 rfl rfl (by decide) (by decide) (Nat.le_of_ble_eq_true rfl) ln_RX3_95 dX3_noteRow_73 (fun gr63 x65 J64 => ?_)
          refine wq_iload_n dX3_noteRow_76 3 rfl rfl ?_
          refine wq_iload dX3_noteRow_77 4 rfl ?_
          refine wq_iadd dX3_noteRow_79 ?_
          refine wq_cVv M_PT_notePair (R_PT_notePair Z x65 (a2 + s46.2) _) ob_4 rfl rfl (by decide) (by decide) (Nat.le_of_ble_eq_true rfl) ln_RX3_103 dX3_noteRow_80 (fun gr66 _ J67 => ?_)
          refine wq_iinc (lv' := [(4, vi (s46.2 + 1)), (3, vi hj59e0), (0, vr Z 4 0), (1, vr Z 2 a1), (2, vi a2), (5, vi x50), (6, vi x53)]) dX3_noteRow_83 4 rfl (by decide) rfl ?_
          refine wq_goto 6 dX3_noteRow_86 (by decide) ?_
          exact WQ.loc [2, 3, 4, 1, 0] rfl (bk41 _ _ _)
        refine wq_icmp_ne 65 dX3_noteRow_57 (by decide) rfl rfl (fun c60 => ?_) (fun c60 => ?_)
        · refine wq_iload dX3_noteRow_60 4 rfl ?_
          refine wq_goto 66 dX3_noteRow_62 (by decide) ?_
          exact WQ.loc [0, 1, 2, 4, 5, 6] rfl (hj59 _  _ _)
        · refine wq_iload_n dX3_noteRow_65 3 rfl rfl ?_
          exact WQ.loc [0, 1, 2, 4, 5, 6] rfl (hj59 _  _ _)
      refine wq_icmp_ne 53 dX3_noteRow_39 (by decide) rfl rfl (fun c56 => ?_) (fun c56 => ?_)
      · refine wq_iload_n dX3_noteRow_42 5 rfl rfl ?_
        refine wq_iload dX3_noteRow_43 6 rfl ?_
        refine wq_iconst dX3_noteRow_45 ?_
        refine wq_isub dX3_noteRow_46 ?_
        refine wq_icmp_ne 53 dX3_noteRow_47 (by decide) rfl rfl (fun c55 => ?_) (fun c55 => ?_)
        · refine wq_goto 83 dX3_noteRow_50 (by decide) ?_
          refine wq_iinc (lv' := [(4, vi (s46.2 + 1)), (6, vi x53), (5, vi x50), (0, vr Z 4 0), (1, vr Z 2 a1), (2, vi a2), (3, vi s46.1)]) dX3_noteRow_83 6 rfl (by decide) rfl ?_
          refine wq_goto 6 dX3_noteRow_86 (by decide) ?_
          exact WQ.loc [3, 4, 5, 6, 0] rfl (bk41 _ _ _)
        · exact WQ.loc [2, 3, 4, 5, 6, 1, 0] rfl (hj54 _   _)
      · exact WQ.loc [2, 3, 4, 5, 6, 1, 0] rfl (hj54 _   _)
    · exact WQ.loc [] rfl (ex42 _ _ _)
  · exact wq_vret rfl rfl dX3_noteRow_89

theorem M_PT_isWorth : MwV yX3_isWorth cX3_isWorth 2 (some .boolean) 1 := ⟨li_4 80 (by decide +kernel) (by decide +kernel), li_4 78 (by decide +kernel) (by decide +kernel), li_4 79 (by decide +kernel) (by decide +kernel), li_1 5 (by decide +kernel) (by decide +kernel), by decide +kernel⟩
theorem M_PT_isAheadByTie : MwV yX3_isAheadByTie cX3_isAheadByTie 4 (some .boolean) 2 := ⟨li_4 96 (by decide +kernel) (by decide +kernel), li_4 95 (by decide +kernel) (by decide +kernel), lw_in 30 (by decide +kernel) (by decide +kernel), li_1 5 (by decide +kernel) (by decide +kernel), by decide +kernel⟩
theorem ln_RX3_110 : Cond.methodLink RX3 110 yX3_isAheadByTie ∈ lw_good := li_4 93 (by decide +kernel) (by decide +kernel)
theorem ln_RX3_107 : Cond.methodLink RX3 107 yX3_isWorth ∈ lw_good := li_4 77 (by decide +kernel) (by decide +kernel)
noncomputable def f_PT_choose_j79 (v1 : Int) (v2 : Int)   (I : Mem) : Option (((Int) ⊕ (Unit)) × Mem) :=
ltI (sI I 4 0 7 v2) fun J22 =>
ltI (sI J22 4 0 9 1) fun J23 =>
some (.inl (v1 + 1), J23)

noncomputable def f_PT_choose_w17  (s : Int) (I : Mem) : Option (((Int) ⊕ (Unit)) × Mem) :=
if (w32 s) < (w32 (I 4 0 4)) then
if 0 ≤ (w32 s) ∧ (w32 s) < 4356 then
bnd (f_PT_isWorth (I 16 3 (w32 s).toNat) I) fun x7 J6 =>
if (w32 x7) = 0 then
some (.inl (s + 1), J6)
else
ltI (sI J6 4 0 8 ((J6 4 0 8) + 1)) fun J8 =>
if (w32 (J8 4 0 7)) = (-1) then
f_PT_choose_j79 s (I 16 3 (w32 s).toNat) J8
else
if 0 ≤ (w32 (I 16 3 (w32 s).toNat)) ∧ (w32 (I 16 3 (w32 s).toNat)) < 4356 then
if 0 ≤ (w32 (J8 4 0 7)) ∧ (w32 (J8 4 0 7)) < 4356 then
if (w32 (J8 16 0 (w32 (J8 4 0 7)).toNat)) < (w32 (J8 16 0 (w32 (I 16 3 (w32 s).toNat)).toNat)) then
f_PT_choose_j79 s (I 16 3 (w32 s).toNat) J8
else
if (w32 (J8 16 0 (w32 (I 16 3 (w32 s).toNat)).toNat)) = (w32 (J8 16 0 (w32 (J8 4 0 7)).toNat)) then
ltI (sI J8 4 0 9 ((J8 4 0 9) + 1)) fun J12 =>
bnd (f_PT_isAheadByTie (I 16 3 (w32 s).toNat) (J12 4 0 7) J12) fun x15 J14 =>
if (w32 x15) = 0 then
ltI (sI J14 4 0 7 (J14 4 0 7)) fun J16 =>
some (.inl (s + 1), J16)
else
ltI (sI J14 4 0 7 (I 16 3 (w32 s).toNat)) fun J17 =>
some (.inl (s + 1), J17)
else
some (.inl (s + 1), J8)
else none
else none
else none
else
some (.inr (), I)

noncomputable def f_PT_choose  (I : Mem) : Option ((Unit) × Mem) :=
ltI (sI I 4 0 7 (-1)) fun J1 =>
ltI (sI J1 4 0 8 0) fun J2 =>
ltI (sI J2 4 0 9 0) fun J3 =>
bnd (whl (f_PT_choose_w17) 0 J3) fun r61 J62 =>
some ((), J62)
set_option maxRecDepth 20000 in
theorem R_PT_choose (Z : ZT)  (I : Mem) (r : Unit) (J : Mem) (hf : f_PT_choose I = some (r, J)) : Runs Z yX3_choose cX3_choose 3 (none) 3 [vr Z 4 0] I (none, J) := by
  refine Runs.of (rv := fun _ => none) (by decide +kernel) (Nat.le_of_ble_eq_true rfl) hf (fun gr => ?_)
  unfold f_PT_choose
  refine WQ.loc [0] (lv' := [(0, vr Z 4 0)]) rfl ?_
  refine wq_aload_n dX3_choose_0 0 rfl rfl ?_
  refine wq_iconst dX3_choose_1 ?_
  refine p_4_7 ln_RX3_24 dX3_choose_2 (fun J1 => ?_)
  refine wq_aload_n dX3_choose_5 0 rfl rfl ?_
  refine wq_iconst dX3_choose_6 ?_
  refine p_4_8 ln_RX3_83 dX3_choose_7 (fun J2 => ?_)
  refine wq_aload_n dX3_choose_10 0 rfl rfl ?_
  refine wq_iconst dX3_choose_11 ?_
  refine p_4_9 ln_RX3_86 dX3_choose_12 (fun J3 => ?_)
  refine wq_iconst dX3_choose_15 ?_
  refine wq_istore_n (lv' := [(1, vi 0), (0, vr Z 4 0)]) dX3_choose_16 rfl (by decide) rfl ?_
  refine WQ.loc [1, 0] (lv' := [(0, vr Z 4 0), (1, vi 0)]) rfl ?_
  refine wq_loopS (fun s36 => [(0, vr Z 4 0), (1, vi s36)]) 150 (fun _ => []) (fun κ30 bk31 ex32 gr35 s36 J34 => ?_) (fun gr63 r61 J62 => ?_) gr _ rfl
  · unfold f_PT_choose_w17
    refine wq_iload_n dX3_choose_17 1 rfl rfl ?_
    refine wq_aload_n dX3_choose_18 0 rfl rfl ?_
    refine g_4_4 ln_RX3_89 dX3_choose_19 ?_
    refine wq_icmp_ge 150 dX3_choose_22 (by decide) rfl rfl (fun c60 => ?_) (fun c60 => ?_)
    · refine wq_aload_n dX3_choose_25 0 rfl rfl ?_
      refine g_4_3 ln_RX3_21 dX3_choose_26 ?_
      refine wq_iload_n dX3_choose_29 1 rfl rfl ?_
      refine wq_grd (fun g37 => ?_)
      refine wq_iald (k := 16) (i := 3) rfl (by decide) rfl rfl (m := 4356) g37 (Nat.le_refl _) dX3_choose_30 ?_
      refine wq_istore_n (lv' := [(2, vi (J34 16 3 (w32 s36).toNat)), (0, vr Z 4 0), (1, vi s36)]) dX3_choose_31 rfl (by decide) rfl ?_
      refine wq_aload_n dX3_choose_32 1 rfl rfl ?_
      refine wq_iload_n dX3_choose_33 0 rfl rfl ?_
      refine wq_cVi M_PT_isWorth (R_PT_isWorth Z (J34 16 3 (w32 s36).toNat) _) ob_4 rfl rfl (by decide) (by decide) (Nat.le_of_ble_eq_true rfl) ln_RX3_107 dX3_choose_34 (fun gr38 x40 J39 => ?_)
      refine wq_if_ne 43 dX3_choose_37 (by decide) rfl (fun c59 => ?_) (fun c59 => ?_)
      · refine wq_goto 144 dX3_choose_40 (by decide) ?_
        refine wq_iinc (lv' := [(1, vi (s36 + 1)), (2, vi (J34 16 3 (w32 s36).toNat)), (0, vr Z 4 0)]) dX3_choose_144 2 rfl (by decide) rfl ?_
        refine wq_goto 17 dX3_choose_147 (by decide) ?_
        exact WQ.loc [2, 0] rfl (bk31 _ _ _)
      · refine wq_aload_n dX3_choose_43 1 rfl rfl ?_
        refine wq_dup dX3_choose_44 rfl ?_
        refine g_4_8 ln_RX3_83 dX3_choose_45 ?_
        refine wq_iconst dX3_choose_48 ?_
        refine wq_iadd dX3_choose_49 ?_
        refine p_4_8 ln_RX3_83 dX3_choose_50 (fun J41 => ?_)
        refine wq_aload_n dX3_choose_53 1 rfl rfl ?_
        refine g_4_7 ln_RX3_24 dX3_choose_54 ?_
        refine wq_iconst dX3_choose_57 ?_
        have hj42 : ∀ (gr56 : Nat → Nat)   (J55 : Mem), WQ Z (yX3_choose, cX3_choose, 3, none, 3) I gr56 79 [(0, vr Z 4 0), (1, vi s36), (2, vi (J34 16 3 (w32 s36).toNat))] [] J55 (f_PT_choose_j79 s36 (J34 16 3 (w32 s36).toNat) J55) κ30 := by
          intro gr56 J55
          unfold f_PT_choose_j79
          refine wq_aload_n dX3_choose_79 0 rfl rfl ?_
          refine wq_iload_n dX3_choose_80 2 rfl rfl ?_
          refine p_4_7 ln_RX3_24 dX3_choose_81 (fun J57 => ?_)
          refine wq_aload_n dX3_choose_84 0 rfl rfl ?_
          refine wq_iconst dX3_choose_85 ?_
          refine p_4_9 ln_RX3_86 dX3_choose_86 (fun J58 => ?_)
          refine wq_goto 144 dX3_choose_89 (by decide) ?_
          refine wq_iinc (lv' := [(1, vi (s36 + 1)), (0, vr Z 4 0), (2, vi (J34 16 3 (w32 s36).toNat))]) dX3_choose_144 1 rfl (by decide) rfl ?_
          refine wq_goto 17 dX3_choose_147 (by decide) ?_
          exact WQ.loc [1, 0] rfl (bk31 _ _ _)
        refine wq_icmp_eq 79 dX3_choose_58 (by decide) rfl rfl (fun c54 => ?_) (fun c54 => ?_)
        · exact WQ.loc [1, 2, 0] rfl (hj42 _   _)
        · refine wq_aload_n dX3_choose_61 1 rfl rfl ?_
          refine g_4_0 ln_RX3_11 dX3_choose_62 ?_
          refine wq_iload_n dX3_choose_65 0 rfl rfl ?_
          refine wq_grd (fun g43 => ?_)
          refine wq_iald (k := 16) (i := 0) rfl (by decide) rfl rfl (m := 4356) g43 (Nat.le_refl _) dX3_choose_66 ?_
          refine wq_aload_n dX3_choose_67 1 rfl rfl ?_
          refine g_4_0 ln_RX3_11 dX3_choose_68 ?_
          refine wq_aload_n dX3_choose_71 1 rfl rfl ?_
          refine g_4_7 ln_RX3_24 dX3_choose_72 ?_
          refine wq_grd (fun g44 => ?_)
          refine wq_iald (k := 16) (i := 0) rfl (by decide) rfl rfl (m := 4356) g44 (Nat.le_refl _) dX3_choose_75 ?_
          refine wq_icmp_le 92 dX3_choose_76 (by decide) rfl rfl (fun c53 => ?_) (fun c53 => ?_)
          · exact WQ.loc [1, 2, 0] rfl (hj42 _   _)
          · refine wq_aload_n dX3_choose_92 1 rfl rfl ?_
            refine g_4_0 ln_RX3_11 dX3_choose_93 ?_
            refine wq_iload_n dX3_choose_96 0 rfl rfl ?_
            refine wq_iald (k := 16) (i := 0) rfl (by decide) rfl rfl (m := 4356) g43 (Nat.le_refl _) dX3_choose_97 ?_
            refine wq_aload_n dX3_choose_98 1 rfl rfl ?_
            refine g_4_0 ln_RX3_11 dX3_choose_99 ?_
            refine wq_aload_n dX3_choose_102 1 rfl rfl ?_
            refine g_4_7 ln_RX3_24 dX3_choose_103 ?_
            refine wq_iald (k := 16) (i := 0) rfl (by decide) rfl rfl (m := 4356) g44 (Nat.le_refl _) dX3_choose_106 ?_
            refine wq_icmp_ne 144 dX3_choose_107 (by decide) rfl rfl (fun c52 => ?_) (fun c52 => ?_)
            · refine wq_aload_n dX3_choose_110 1 rfl rfl ?_
              refine wq_dup dX3_choose_111 rfl ?_
              refine g_4_9 ln_RX3_86 dX3_choose_112 ?_
              refine wq_iconst dX3_choose_115 ?_
              refine wq_iadd dX3_choose_116 ?_
              refine p_4_9 ln_RX3_86 dX3_choose_117 (fun J45 => ?_)
              refine wq_aload_n dX3_choose_120 1 rfl rfl ?_
              refine wq_aload_n dX3_choose_121 1 rfl rfl ?_
              refine wq_iload_n dX3_choose_122 0 rfl rfl ?_
              refine wq_aload_n dX3_choose_123 1 rfl rfl ?_
              refine g_4_7 ln_RX3_24 dX3_choose_124 ?_
              refine wq_cVi M_PT_isAheadByTie (R_PT_isAheadByTie Z (J34 16 3 (w32 s36).toNat) (J45 4 0 7) _) ob_4 rfl rfl (by decide) (by decide) (Nat.le_of_ble_eq_true rfl) ln_RX3_110 dX3_choose_127 (fun gr46 x48 J47 => ?_)
              refine wq_if_eq 137 dX3_choose_130 (by decide) rfl (fun c51 => ?_) (fun c51 => ?_)
              · refine wq_aload_n dX3_choose_137 1 rfl rfl ?_
                refine g_4_7 ln_RX3_24 dX3_choose_138 ?_
                refine p_4_7 ln_RX3_24 dX3_choose_141 (fun J49 => ?_)
                refine wq_iinc (lv' := [(1, vi (s36 + 1)), (2, vi (J34 16 3 (w32 s36).toNat)), (0, vr Z 4 0)]) dX3_choose_144 2 rfl (by decide) rfl ?_
                refine wq_goto 17 dX3_choose_147 (by decide) ?_
                exact WQ.loc [2, 0] rfl (bk31 _ _ _)
              · refine wq_iload_n dX3_choose_133 0 rfl rfl ?_
                refine wq_goto 141 dX3_choose_134 (by decide) ?_
                refine p_4_7 ln_RX3_24 dX3_choose_141 (fun J50 => ?_)
                refine wq_iinc (lv' := [(1, vi (s36 + 1)), (2, vi (J34 16 3 (w32 s36).toNat)), (0, vr Z 4 0)]) dX3_choose_144 2 rfl (by decide) rfl ?_
                refine wq_goto 17 dX3_choose_147 (by decide) ?_
                exact WQ.loc [2, 0] rfl (bk31 _ _ _)
            · refine wq_iinc (lv' := [(1, vi (s36 + 1)), (2, vi (J34 16 3 (w32 s36).toNat)), (0, vr Z 4 0)]) dX3_choose_144 2 rfl (by decide) rfl ?_
              refine wq_goto 17 dX3_choose_147 (by decide) ?_
              exact WQ.loc [2, 0] rfl (bk31 _ _ _)
    · exact WQ.loc [] rfl (ex32 _ _ _)
  · exact wq_vret rfl rfl dX3_choose_150

theorem ln_RX10_34 : Cond.fieldLink RX10 34 RX10 "manyOrdered" "I" ∈ lw_good := li_1 152 (by decide +kernel) (by decide +kernel)
theorem ln_RX10_9 : Cond.fieldLink RX10 9 RX10 "order" "[I" ∈ lw_good := li_1 146 (by decide +kernel) (by decide +kernel)
theorem ln_RX10_79 : Cond.methodLink RX10 79 yX1_lengthOf ∈ lw_good := li_5 157 (by decide +kernel) (by decide +kernel)
theorem ln_RX10_75 : Cond.methodLink RX10 75 yX1_hasRule ∈ lw_good := li_5 156 (by decide +kernel) (by decide +kernel)
noncomputable def f_Sv_orderByLength_w39 (v1 : Nat) (v2 : Int) (v3 : Int) (s : Int) (I : Mem) : Option (((Int) ⊕ (Int)) × Mem) :=
if 0 < (w32 s) then
if 0 ≤ (w32 (s - 1)) ∧ (w32 (s - 1)) < 40 then
bnd (f_G_lengthOf v1 (26 + (I 18 0 (w32 (s - 1)).toNat)) I) fun x11 J10 =>
if (w32 v3) < (w32 x11) then
if 0 ≤ (w32 s) ∧ (w32 s) < 40 then
ltI (sI J10 18 0 (w32 s).toNat (J10 18 0 (w32 (s - 1)).toNat)) fun J13 =>
some (.inl (s + (-1)), J13)
else none
else
some (.inr s, J10)
else none
else
some (.inr s, I)

noncomputable def f_Sv_orderByLength_w7 (v1 : Nat) (s : Int) (I : Mem) : Option (((Int) ⊕ (Unit)) × Mem) :=
if (w32 s) < 40 then
bnd (f_G_hasRule v1 s I) fun x4 J3 =>
if (w32 x4) = 0 then
some (.inl (s + 1), J3)
else
bnd (f_G_lengthOf v1 (26 + s) J3) fun x7 J6 =>
bnd (whl (f_Sv_orderByLength_w39 v1 s x7) (J6 5 0 6) J6) fun r31 J32 =>
if 0 ≤ (w32 r31) ∧ (w32 r31) < 40 then
ltI (sI J32 18 0 (w32 r31).toNat s) fun J35 =>
ltI (sI J35 5 0 6 ((J35 5 0 6) + 1)) fun J36 =>
some (.inl (s + 1), J36)
else none
else
some (.inr (), I)

noncomputable def f_Sv_orderByLength (a1 : Nat) (I : Mem) : Option ((Unit) × Mem) :=
if a1 < 12 then
ltI (sI I 5 0 6 0) fun J1 =>
bnd (whl (f_Sv_orderByLength_w7 a1) 0 J1) fun r75 J76 =>
some ((), J76)
else none
set_option maxRecDepth 20000 in
theorem R_Sv_orderByLength (Z : ZT) (a1 : Nat) (I : Mem) (r : Unit) (J : Mem) (hf : f_Sv_orderByLength a1 I = some (r, J)) : Runs Z yX10_orderByLength cX10_orderByLength 5 (none) 3 [vr Z 5 0, vr Z 1 a1] I (none, J) := by
  refine Runs.of (rv := fun _ => none) (by decide +kernel) (Nat.le_of_ble_eq_true rfl) hf (fun gr => ?_)
  unfold f_Sv_orderByLength
  refine WQ.loc [0, 1] (lv' := [(0, vr Z 5 0), (1, vr Z 1 a1)]) rfl ?_
  refine wq_grd (fun h1 => ?_)
  refine wq_aload_n dX10_orderByLength_0 0 rfl rfl ?_
  refine wq_iconst dX10_orderByLength_1 ?_
  refine p_5_6 ln_RX10_34 dX10_orderByLength_2 (fun J1 => ?_)
  refine wq_iconst dX10_orderByLength_5 ?_
  refine wq_istore_n (lv' := [(2, vi 0), (0, vr Z 5 0), (1, vr Z 1 a1)]) dX10_orderByLength_6 rfl (by decide) rfl ?_
  refine WQ.loc [1, 2, 0] (lv' := [(0, vr Z 5 0), (1, vr Z 1 a1), (2, vi 0)]) rfl ?_
  refine wq_loopS (fun s45 => [(0, vr Z 5 0), (1, vr Z 1 a1), (2, vi s45)]) 110 (fun _ => []) (fun κ39 bk40 ex41 gr44 s45 J43 => ?_) (fun gr77 r75 J76 => ?_) gr _ rfl
  · unfold f_Sv_orderByLength_w7
    refine wq_iload_n dX10_orderByLength_7 2 rfl rfl ?_
    refine wq_bipush dX10_orderByLength_8 (by decide) ?_
    refine wq_icmp_ge 110 dX10_orderByLength_10 (by decide) rfl rfl (fun c74 => ?_) (fun c74 => ?_)
    · refine wq_aload_n dX10_orderByLength_13 1 rfl rfl ?_
      refine wq_iload_n dX10_orderByLength_14 2 rfl rfl ?_
      refine wq_cVi M_G_hasRule (R_G_hasRule Z a1 s45 _) (ob_1 h1) rfl rfl (by decide) (by decide) (Nat.le_of_ble_eq_true rfl) ln_RX10_75 dX10_orderByLength_15 (fun gr46 x48 J47 => ?_)
      refine wq_if_ne 24 dX10_orderByLength_18 (by decide) rfl (fun c73 => ?_) (fun c73 => ?_)
      · refine wq_goto 104 dX10_orderByLength_21 (by decide) ?_
        refine wq_iinc (lv' := [(2, vi (s45 + 1)), (0, vr Z 5 0), (1, vr Z 1 a1)]) dX10_orderByLength_104 2 rfl (by decide) rfl ?_
        refine wq_goto 7 dX10_orderByLength_107 (by decide) ?_
        exact WQ.loc [1, 2, 0] rfl (bk40 _ _ _)
      · refine wq_aload_n dX10_orderByLength_24 1 rfl rfl ?_
        refine wq_bipush dX10_orderByLength_25 (by decide) ?_
        refine wq_iload_n dX10_orderByLength_27 2 rfl rfl ?_
        refine wq_iadd dX10_orderByLength_28 ?_
        refine wq_cVi M_G_lengthOf (R_G_lengthOf Z a1 (26 + s45) _) (ob_1 h1) rfl rfl (by decide) (by decide) (Nat.le_of_ble_eq_true rfl) ln_RX10_79 dX10_orderByLength_29 (fun gr49 x51 J50 => ?_)
        refine wq_istore_n (lv' := [(3, vi x51), (0, vr Z 5 0), (1, vr Z 1 a1), (2, vi s45)]) dX10_orderByLength_32 rfl (by decide) rfl ?_
        refine wq_aload_n dX10_orderByLength_33 1 rfl rfl ?_
        refine g_5_6 ln_RX10_34 dX10_orderByLength_34 ?_
        refine wq_istore (lv' := [(4, vi (J50 5 0 6)), (3, vi x51), (0, vr Z 5 0), (1, vr Z 1 a1), (2, vi s45)]) dX10_orderByLength_37 (by decide) rfl ?_
        refine WQ.loc [2, 3, 4, 1, 0] (lv' := [(0, vr Z 5 0), (1, vr Z 1 a1), (2, vi s45), (3, vi x51), (4, vi (J50 5 0 6))]) rfl ?_
        refine wq_loopS (fun s58 => [(0, vr Z 5 0), (1, vr Z 1 a1), (2, vi s45), (3, vi x51), (4, vi s58)]) 86 (fun r67 => [(0, vr Z 5 0), (1, vr Z 1 a1), (2, vi s45), (4, vi r67)]) (fun κ52 bk53 ex54 gr57 s58 J56 => ?_) (fun gr69 r67 J68 => ?_) gr49 _ rfl
        · unfold f_Sv_orderByLength_w39
          refine wq_iload dX10_orderByLength_39 4 rfl ?_
          refine wq_if_le 86 dX10_orderByLength_41 (by decide) rfl (fun c66 => ?_) (fun c66 => ?_)
          · refine wq_aload_n dX10_orderByLength_44 1 rfl rfl ?_
            refine wq_bipush dX10_orderByLength_45 (by decide) ?_
            refine wq_aload_n dX10_orderByLength_47 0 rfl rfl ?_
            refine g_5_0 ln_RX10_9 dX10_orderByLength_48 ?_
            refine wq_iload dX10_orderByLength_51 4 rfl ?_
            refine wq_iconst dX10_orderByLength_53 ?_
            refine wq_isub dX10_orderByLength_54 ?_
            refine wq_grd (fun g59 => ?_)
            refine wq_iald (k := 18) (i := 0) rfl (by decide) rfl rfl (m := 40) g59 (by decide) dX10_orderByLength_55 ?_
            refine wq_iadd dX10_orderByLength_56 ?_
            refine wq_cVi M_G_lengthOf (R_G_lengthOf Z a1 (26 + (J56 18 0 (w32 (s58 - 1)).toNat)) _) (ob_1 h1) rfl rfl (by decide) (by decide) (Nat.le_of_ble_eq_true rfl) ln_RX10_79 dX10_orderByLength_57 (fun gr60 x62 J61 => ?_)
            refine wq_iload_n dX10_orderByLength_60 3 rfl rfl ?_
            refine wq_icmp_le 86 dX10_orderByLength_61 (by decide) rfl rfl (fun c65 => ?_) (fun c65 => ?_)
            · refine wq_aload_n dX10_orderByLength_64 0 rfl rfl ?_
              refine g_5_0 ln_RX10_9 dX10_orderByLength_65 ?_
              refine wq_iload dX10_orderByLength_68 4 rfl ?_
              refine wq_aload_n dX10_orderByLength_70 0 rfl rfl ?_
              refine g_5_0 ln_RX10_9 dX10_orderByLength_71 ?_
              refine wq_iload dX10_orderByLength_74 4 rfl ?_
              refine wq_iconst dX10_orderByLength_76 ?_
              refine wq_isub dX10_orderByLength_77 ?_
              refine wq_iald (k := 18) (i := 0) rfl (by decide) rfl rfl (m := 40) g59 (by decide) dX10_orderByLength_78 ?_
              refine wq_grd (fun g63 => ?_)
              refine wq_iast (k := 18) (i := 0) (fun _ _ => rfl) (by decide) rfl rfl (m := 40) g63 (by decide) (by decide) (by decide) (by decide) dX10_orderByLength_79 (fun J64 => ?_)
              refine wq_iinc (lv' := [(4, vi (s58 + (-1))), (0, vr Z 5 0), (1, vr Z 1 a1), (2, vi s45), (3, vi x51)]) dX10_orderByLength_80 4 rfl (by decide) rfl ?_
              refine wq_goto 39 dX10_orderByLength_83 (by decide) ?_
              exact WQ.loc [1, 2, 3, 4, 0] rfl (bk53 _ _ _)
            · exact WQ.loc [0, 1, 2, 4] rfl (ex54 _ _ _)
          · exact WQ.loc [0, 1, 2, 4] rfl (ex54 _ _ _)
        · refine wq_aload_n dX10_orderByLength_86 0 rfl rfl ?_
          refine g_5_0 ln_RX10_9 dX10_orderByLength_87 ?_
          refine wq_iload dX10_orderByLength_90 3 rfl ?_
          refine wq_iload_n dX10_orderByLength_92 2 rfl rfl ?_
          refine wq_grd (fun g70 => ?_)
          refine wq_iast (k := 18) (i := 0) (fun _ _ => rfl) (by decide) rfl rfl (m := 40) g70 (by decide) (by decide) (by decide) (by decide) dX10_orderByLength_93 (fun J71 => ?_)
          refine wq_aload_n dX10_orderByLength_94 0 rfl rfl ?_
          refine wq_dup dX10_orderByLength_95 rfl ?_
          refine g_5_6 ln_RX10_34 dX10_orderByLength_96 ?_
          refine wq_iconst dX10_orderByLength_99 ?_
          refine wq_iadd dX10_orderByLength_100 ?_
          refine p_5_6 ln_RX10_34 dX10_orderByLength_101 (fun J72 => ?_)
          refine wq_iinc (lv' := [(2, vi (s45 + 1)), (0, vr Z 5 0), (1, vr Z 1 a1), (4, vi r67)]) dX10_orderByLength_104 2 rfl (by decide) rfl ?_
          refine wq_goto 7 dX10_orderByLength_107 (by decide) ?_
          exact WQ.loc [1, 2, 0] rfl (bk40 _ _ _)
    · exact WQ.loc [] rfl (ex41 _ _ _)
  · exact wq_vret rfl rfl dX10_orderByLength_110
