theorem ln_RX12_142 : Cond.methodLink RX12 142 yX5_many ∈ lw_good := li_5 49 (by decide +kernel) (by decide +kernel)
theorem M_G_totalSize : MwV yX1_totalSize cX1_totalSize 3 (some .int) 0 := ⟨li_5 43 (by decide +kernel) (by decide +kernel), li_5 41 (by decide +kernel) (by decide +kernel), li_5 42 (by decide +kernel) (by decide +kernel), li_1 2 (by decide +kernel) (by decide +kernel), by decide +kernel⟩
theorem ln_RX12_148 : Cond.methodLink RX12 148 yX1_totalSize ∈ lw_good := li_5 40 (by decide +kernel) (by decide +kernel)
theorem ln_RX12_151 : Cond.methodLink RX12 151 yX1_number ∈ lw_good := li_5 142 (by decide +kernel) (by decide +kernel)
theorem M_G_longestBody : MwV yX1_longestBody cX1_longestBody 3 (some .int) 0 := ⟨li_5 146 (by decide +kernel) (by decide +kernel), li_5 144 (by decide +kernel) (by decide +kernel), li_5 145 (by decide +kernel) (by decide +kernel), li_1 2 (by decide +kernel) (by decide +kernel), by decide +kernel⟩
theorem ln_RX12_154 : Cond.methodLink RX12 154 yX1_longestBody ∈ lw_good := li_5 143 (by decide +kernel) (by decide +kernel)
theorem M_Sv_measure : MwV yX10_measure cX10_measure 3 (none) 1 := ⟨li_5 151 (by decide +kernel) (by decide +kernel), li_5 149 (by decide +kernel) (by decide +kernel), li_5 150 (by decide +kernel) (by decide +kernel), li_1 6 (by decide +kernel) (by decide +kernel), by decide +kernel⟩
theorem ln_RX12_160 : Cond.methodLink RX12 160 yX10_deepestIn ∈ lw_good := li_5 170 (by decide +kernel) (by decide +kernel)
theorem ln_RX12_157 : Cond.methodLink RX12 157 yX10_measure ∈ lw_good := li_5 148 (by decide +kernel) (by decide +kernel)
theorem M_Sv_unlikeLetters : MwV yX10_unlikeLetters cX10_unlikeLetters 3 (some .int) 0 := ⟨li_5 174 (by decide +kernel) (by decide +kernel), li_5 172 (by decide +kernel) (by decide +kernel), li_5 173 (by decide +kernel) (by decide +kernel), li_1 6 (by decide +kernel) (by decide +kernel), by decide +kernel⟩
theorem ln_RX12_164 : Cond.methodLink RX12 164 yX10_unlikeLetters ∈ lw_good := li_5 171 (by decide +kernel) (by decide +kernel)
theorem ln_RX12_22 : Cond.fieldLink RX12 22 RX12 "stepper" "LPairRules$Stepper;" ∈ lw_good := li_2 102 (by decide +kernel) (by decide +kernel)
theorem M_Stp_pairs : MwV yX9_pairs cX9_pairs 1 (some (.object RX3)) 0 := ⟨li_4 198 (by decide +kernel) (by decide +kernel), li_4 196 (by decide +kernel) (by decide +kernel), li_4 197 (by decide +kernel) (by decide +kernel), li_1 4 (by decide +kernel) (by decide +kernel), by decide +kernel⟩
theorem ln_RX12_167 : Cond.methodLink RX12 167 yX9_pairs ∈ lw_good := li_4 195 (by decide +kernel) (by decide +kernel)
theorem M_PT_readFrom : MwV yX3_readFrom cX3_readFrom 3 (none) 1 := ⟨li_4 37 (by decide +kernel) (by decide +kernel), li_4 35 (by decide +kernel) (by decide +kernel), li_4 36 (by decide +kernel) (by decide +kernel), li_1 5 (by decide +kernel) (by decide +kernel), by decide +kernel⟩
theorem M_PT_manyWorth : MwV yX3_manyWorth cX3_manyWorth 1 (some .int) 0 := ⟨li_5 182 (by decide +kernel) (by decide +kernel), li_5 180 (by decide +kernel) (by decide +kernel), li_5 181 (by decide +kernel) (by decide +kernel), li_1 5 (by decide +kernel) (by decide +kernel), by decide +kernel⟩
theorem ln_RX12_176 : Cond.methodLink RX12 176 yX3_manyWorth ∈ lw_good := li_5 179 (by decide +kernel) (by decide +kernel)
theorem ln_RX12_171 : Cond.methodLink RX12 171 yX3_readFrom ∈ lw_good := li_4 199 (by decide +kernel) (by decide +kernel)
theorem ln_RX12_61 : Cond.fieldLink RX12 61 RX12 "history" "LPairRules$History;" ∈ lw_good := li_2 107 (by decide +kernel) (by decide +kernel)
theorem M_His_manyPast : MwV yX2_manyPast cX2_manyPast 1 (some .int) 0 := ⟨li_5 186 (by decide +kernel) (by decide +kernel), li_5 184 (by decide +kernel) (by decide +kernel), li_5 185 (by decide +kernel) (by decide +kernel), li_1 12 (by decide +kernel) (by decide +kernel), by decide +kernel⟩
theorem ln_RX12_179 : Cond.methodLink RX12 179 yX2_manyPast ∈ lw_good := li_5 183 (by decide +kernel) (by decide +kernel)
noncomputable def f_PR_size (a1 : Int) (I : Mem) : Option ((Int ⊕ String) × Mem) :=
if (w32 a1) = 0 then
bnd (f_G_textLength 0 I) fun x3 J2 =>
some (.inl x3, J2)
else if (w32 a1) = 1 then
some (.inl (I 2 (43 * 0) 1), I)
else if (w32 a1) = 2 then
bnd (f_G_manyRules 0 I) fun x10 J9 =>
some (.inl x10, J9)
else if (w32 a1) = 3 then
bnd (f_G_totalSize 0 I) fun x14 J13 =>
some (.inl x14, J13)
else if (w32 a1) = 4 then
bnd (f_G_number 0 a1 I) fun x18 J17 =>
some (.inl x18, J17)
else if (w32 a1) = 5 then
bnd (f_G_number 0 a1 I) fun x22 J21 =>
some (.inl x22, J21)
else if (w32 a1) = 6 then
bnd (f_G_number 0 a1 I) fun x26 J25 =>
some (.inl x26, J25)
else if (w32 a1) = 7 then
bnd (f_G_longestBody 0 I) fun x30 J29 =>
some (.inl x30, J29)
else if (w32 a1) = 8 then
bnd (f_Sv_measure 0 I) fun _ J33 =>
bnd (f_Sv_deepestIn (43 * 0) J33) fun x38 J37 =>
some (.inl x38, J37)
else if (w32 a1) = 9 then
bnd (f_Sv_unfold 0 I) fun _ J41 =>
bnd (f_Sv_unlikeLetters J41) fun x45 J44 =>
some (.inl x45, J44)
else if (w32 a1) = 10 then
bnd (f_PT_readFrom 0 I) fun _ J49 =>
some (.inl (J49 4 0 8), J49)
else if (w32 a1) = 11 then
some (.inl (I 9 0 4), I)
else ltI (thrw I) fun J56 =>
some (.inr xIA, J56)
set_option maxRecDepth 20000 in
theorem R_PR_size (Z : ZT) (a1 : Int) (I : Mem) : RX Z yX12_size cX12_size 2 (some .int) 6 [vr Z 0 0, vi a1] I (fun x => some (vi x)) (f_PR_size a1 I) := by
  refine RX.of (by decide +kernel) (Nat.le_of_ble_eq_true rfl) (fun gr => ?_)
  unfold f_PR_size
  refine WQ.loc [0, 1] (lv' := [(0, vr Z 0 0), (1, vi a1)]) rfl ?_
  refine wq_iload_n dX12_size_0 1 rfl rfl ?_
  refine WQ.split (fun c4 => ?_) (fun c4 => ?_)
  · refine wq_tin (n := 0) 64 dX12_size_1 rfl c4 (by decide) (by decide) rfl (by decide) ?_
    refine wq_aload_n dX12_size_64 0 rfl rfl ?_
    refine g_0_0 ln_RX12_12 dX12_size_65 ?_
    refine wq_cVi M_G_textLength (R_G_textLength Z 0 _) (ob_1 (by decide)) rfl rfl (by decide) (by decide) (Nat.le_of_ble_eq_true rfl) ln_RX12_122 dX12_size_68 (fun gr1 x3 J2 => ?_)
    exact wq_iret rfl rfl dX12_size_71
  · skip
    refine WQ.split (fun c7 => ?_) (fun c7 => ?_)
    · refine wq_tin (n := 1) 72 dX12_size_1 rfl c7 (by decide) (by decide) rfl (by decide) ?_
      refine wq_aload_n dX12_size_72 0 rfl rfl ?_
      refine g_0_0 ln_RX12_12 dX12_size_73 ?_
      refine wq_pV (v := vr Z 2 (43 * 0)) M_G_startRow (R_G_startRow Z 0 _ _ _ (if_pos (by decide))) (ob_1 (by decide)) rfl rfl (by decide) (by decide) (Nat.le_of_ble_eq_true rfl) ln_RX12_138 dX12_size_76 (fun gr5 => ?_)
      refine wq_pV (v := vi (I 2 (43 * 0) 1)) M_Row_many (R_Row_many Z (43 * 0) _ _ _ (if_pos (by omega))) (ob_2 (by omega)) rfl rfl (by decide) (by decide) (Nat.le_of_ble_eq_true rfl) ln_RX12_142 dX12_size_79 (fun gr6 => ?_)
      exact wq_iret rfl rfl dX12_size_82
    · skip
      refine WQ.split (fun c11 => ?_) (fun c11 => ?_)
      · refine wq_tin (n := 2) 83 dX12_size_1 rfl c11 (by decide) (by decide) rfl (by decide) ?_
        refine wq_aload_n dX12_size_83 0 rfl rfl ?_
        refine g_0_0 ln_RX12_12 dX12_size_84 ?_
        refine wq_cVi M_G_manyRules (R_G_manyRules Z 0 _) (ob_1 (by decide)) rfl rfl (by decide) (by decide) (Nat.le_of_ble_eq_true rfl) ln_RX12_145 dX12_size_87 (fun gr8 x10 J9 => ?_)
        exact wq_iret rfl rfl dX12_size_90
      · skip
        refine WQ.split (fun c15 => ?_) (fun c15 => ?_)
        · refine wq_tin (n := 3) 91 dX12_size_1 rfl c15 (by decide) (by decide) rfl (by decide) ?_
          refine wq_aload_n dX12_size_91 0 rfl rfl ?_
          refine g_0_0 ln_RX12_12 dX12_size_92 ?_
          refine wq_cVi M_G_totalSize (R_G_totalSize Z 0 _) (ob_1 (by decide)) rfl rfl (by decide) (by decide) (Nat.le_of_ble_eq_true rfl) ln_RX12_148 dX12_size_95 (fun gr12 x14 J13 => ?_)
          exact wq_iret rfl rfl dX12_size_98
        · skip
          refine WQ.split (fun c19 => ?_) (fun c19 => ?_)
          · refine wq_tin (n := 4) 99 dX12_size_1 rfl c19 (by decide) (by decide) rfl (by decide) ?_
            refine wq_aload_n dX12_size_99 0 rfl rfl ?_
            refine g_0_0 ln_RX12_12 dX12_size_100 ?_
            refine wq_iload_n dX12_size_103 1 rfl rfl ?_
            refine wq_cVi M_G_number (R_G_number Z 0 a1 _) (ob_1 (by decide)) rfl rfl (by decide) (by decide) (Nat.le_of_ble_eq_true rfl) ln_RX12_151 dX12_size_104 (fun gr16 x18 J17 => ?_)
            exact wq_iret rfl rfl dX12_size_107
          · skip
            refine WQ.split (fun c23 => ?_) (fun c23 => ?_)
            · refine wq_tin (n := 5) 99 dX12_size_1 rfl c23 (by decide) (by decide) rfl (by decide) ?_
              refine wq_aload_n dX12_size_99 0 rfl rfl ?_
              refine g_0_0 ln_RX12_12 dX12_size_100 ?_
              refine wq_iload_n dX12_size_103 1 rfl rfl ?_
              refine wq_cVi M_G_number (R_G_number Z 0 a1 _) (ob_1 (by decide)) rfl rfl (by decide) (by decide) (Nat.le_of_ble_eq_true rfl) ln_RX12_151 dX12_size_104 (fun gr20 x22 J21 => ?_)
              exact wq_iret rfl rfl dX12_size_107
            · skip
              refine WQ.split (fun c27 => ?_) (fun c27 => ?_)
              · refine wq_tin (n := 6) 99 dX12_size_1 rfl c27 (by decide) (by decide) rfl (by decide) ?_
                refine wq_aload_n dX12_size_99 0 rfl rfl ?_
                refine g_0_0 ln_RX12_12 dX12_size_100 ?_
                refine wq_iload_n dX12_size_103 1 rfl rfl ?_
                refine wq_cVi M_G_number (R_G_number Z 0 a1 _) (ob_1 (by decide)) rfl rfl (by decide) (by decide) (Nat.le_of_ble_eq_true rfl) ln_RX12_151 dX12_size_104 (fun gr24 x26 J25 => ?_)
                exact wq_iret rfl rfl dX12_size_107
              · skip
                refine WQ.split (fun c31 => ?_) (fun c31 => ?_)
                · refine wq_tin (n := 7) 108 dX12_size_1 rfl c31 (by decide) (by decide) rfl (by decide) ?_
                  refine wq_aload_n dX12_size_108 0 rfl rfl ?_
                  refine g_0_0 ln_RX12_12 dX12_size_109 ?_
                  refine wq_cVi M_G_longestBody (R_G_longestBody Z 0 _) (ob_1 (by decide)) rfl rfl (by decide) (by decide) (Nat.le_of_ble_eq_true rfl) ln_RX12_154 dX12_size_112 (fun gr28 x30 J29 => ?_)
                  exact wq_iret rfl rfl dX12_size_115
                · skip
                  refine WQ.split (fun c39 => ?_) (fun c39 => ?_)
                  · refine wq_tin (n := 8) 116 dX12_size_1 rfl c39 (by decide) (by decide) rfl (by decide) ?_
                    refine wq_aload_n dX12_size_116 0 rfl rfl ?_
                    refine g_0_3 ln_RX12_29 dX12_size_117 ?_
                    refine wq_aload_n dX12_size_120 0 rfl rfl ?_
                    refine g_0_0 ln_RX12_12 dX12_size_121 ?_
                    refine wq_cVv M_Sv_measure (R_Sv_measure Z 0 _) ob_5 rfl rfl (by decide) (by decide) (Nat.le_of_ble_eq_true rfl) ln_RX12_157 dX12_size_124 (fun gr32 _ J33 => ?_)
                    refine wq_aload_n dX12_size_127 0 rfl rfl ?_
                    refine g_0_3 ln_RX12_29 dX12_size_128 ?_
                    refine wq_aload_n dX12_size_131 0 rfl rfl ?_
                    refine g_0_0 ln_RX12_12 dX12_size_132 ?_
                    refine wq_pV (v := vr Z 2 (43 * 0)) M_G_startRow (R_G_startRow Z 0 _ _ _ (if_pos (by decide))) (ob_1 (by decide)) rfl rfl (by decide) (by decide) (Nat.le_of_ble_eq_true rfl) ln_RX12_138 dX12_size_135 (fun gr35 => ?_)
                    refine wq_cVi M_Sv_deepestIn (R_Sv_deepestIn Z (43 * 0) _) ob_5 rfl rfl (by decide) (by decide) (Nat.le_of_ble_eq_true rfl) ln_RX12_160 dX12_size_138 (fun gr36 x38 J37 => ?_)
                    exact wq_iret rfl rfl dX12_size_141
                  · skip
                    refine WQ.split (fun c46 => ?_) (fun c46 => ?_)
                    · refine wq_tin (n := 9) 142 dX12_size_1 rfl c46 (by decide) (by decide) rfl (by decide) ?_
                      refine wq_aload_n dX12_size_142 0 rfl rfl ?_
                      refine g_0_3 ln_RX12_29 dX12_size_143 ?_
                      refine wq_aload_n dX12_size_146 0 rfl rfl ?_
                      refine g_0_0 ln_RX12_12 dX12_size_147 ?_
                      refine wq_cVv M_Sv_unfold (R_Sv_unfold Z 0 _) ob_5 rfl rfl (by decide) (by decide) (Nat.le_of_ble_eq_true rfl) ln_RX12_105 dX12_size_150 (fun gr40 _ J41 => ?_)
                      refine wq_aload_n dX12_size_153 0 rfl rfl ?_
                      refine g_0_3 ln_RX12_29 dX12_size_154 ?_
                      refine wq_cVi M_Sv_unlikeLetters (R_Sv_unlikeLetters Z _) ob_5 rfl rfl (by decide) (by decide) (Nat.le_of_ble_eq_true rfl) ln_RX12_164 dX12_size_157 (fun gr43 x45 J44 => ?_)
                      exact wq_iret rfl rfl dX12_size_160
                    · skip
                      refine WQ.split (fun c53 => ?_) (fun c53 => ?_)
                      · refine wq_tin (n := 10) 161 dX12_size_1 rfl c53 (by decide) (by decide) rfl (by decide) ?_
                        refine wq_aload_n dX12_size_161 0 rfl rfl ?_
                        refine g_0_2 ln_RX12_22 dX12_size_162 ?_
                        refine wq_pV (v := vr Z 4 0) M_Stp_pairs (R_Stp_pairs Z  _ _ _ rfl) ob_3 rfl rfl (by decide) (by decide) (Nat.le_of_ble_eq_true rfl) ln_RX12_167 dX12_size_165 (fun gr47 => ?_)
                        refine wq_aload_n dX12_size_168 0 rfl rfl ?_
                        refine g_0_0 ln_RX12_12 dX12_size_169 ?_
                        refine wq_cVv M_PT_readFrom (R_PT_readFrom Z 0 _) ob_4 rfl rfl (by decide) (by decide) (Nat.le_of_ble_eq_true rfl) ln_RX12_171 dX12_size_172 (fun gr48 _ J49 => ?_)
                        refine wq_aload_n dX12_size_175 0 rfl rfl ?_
                        refine g_0_2 ln_RX12_22 dX12_size_176 ?_
                        refine wq_pV (v := vr Z 4 0) M_Stp_pairs (R_Stp_pairs Z  _ _ _ rfl) ob_3 rfl rfl (by decide) (by decide) (Nat.le_of_ble_eq_true rfl) ln_RX12_167 dX12_size_179 (fun gr51 => ?_)
                        refine wq_pV (v := vi (J49 4 0 8)) M_PT_manyWorth (R_PT_manyWorth Z  _ _ _ rfl) ob_4 rfl rfl (by decide) (by decide) (Nat.le_of_ble_eq_true rfl) ln_RX12_176 dX12_size_182 (fun gr52 => ?_)
                        exact wq_iret rfl rfl dX12_size_185
                      · skip
                        refine WQ.split (fun c55 => ?_) (fun c55 => ?_)
                        · refine wq_tin (n := 11) 186 dX12_size_1 rfl c55 (by decide) (by decide) rfl (by decide) ?_
                          refine wq_aload_n dX12_size_186 0 rfl rfl ?_
                          refine g_0_7 ln_RX12_61 dX12_size_187 ?_
                          refine wq_pV (v := vi (I 9 0 4)) M_His_manyPast (R_His_manyPast Z  _ _ _ rfl) ob_9 rfl rfl (by decide) (by decide) (Nat.le_of_ble_eq_true rfl) ln_RX12_179 dX12_size_190 (fun gr54 => ?_)
                          exact wq_iret rfl rfl dX12_size_193
                        · skip
                          refine wq_tout 194 dX12_size_1 rfl (by omega) (by decide) ?_
                          exact wq_throw thr_IA (Nat.le_of_ble_eq_true rfl) (by decide +kernel) rfl dX12_size_194 dX12_size_197 dX12_size_198 dX12_size_201

theorem M_G_usesOf : MwV yX1_usesOf cX1_usesOf 4 (some .int) 1 := ⟨li_6 44 (by decide +kernel) (by decide +kernel), li_6 42 (by decide +kernel) (by decide +kernel), li_6 43 (by decide +kernel) (by decide +kernel), li_1 2 (by decide +kernel) (by decide +kernel), by decide +kernel⟩
theorem ln_RX12_195 : Cond.methodLink RX12 195 yX1_usesOf ∈ lw_good := li_6 41 (by decide +kernel) (by decide +kernel)
theorem ln_RX12_198 : Cond.methodLink RX12 198 yX1_lengthOf ∈ lw_good := li_6 46 (by decide +kernel) (by decide +kernel)
theorem ln_RX12_201 : Cond.methodLink RX12 201 yX10_depthOf ∈ lw_good := li_6 47 (by decide +kernel) (by decide +kernel)
theorem M_Sv_comingsOf : MwV yX10_comingsOf cX10_comingsOf 2 (some .int) 1 := ⟨li_6 51 (by decide +kernel) (by decide +kernel), li_6 49 (by decide +kernel) (by decide +kernel), li_6 50 (by decide +kernel) (by decide +kernel), li_1 6 (by decide +kernel) (by decide +kernel), by decide +kernel⟩
theorem ln_RX12_204 : Cond.methodLink RX12 204 yX10_comingsOf ∈ lw_good := li_6 48 (by decide +kernel) (by decide +kernel)
noncomputable def f_PR_rule (a1 : Int) (a2 : Int) (I : Mem) : Option ((Int ⊕ String) × Mem) :=
bnd (f_G_hasRule 0 a1 I) fun x3 J2 =>
if (w32 x3) = 0 then
ltI (thrw J2) fun J33 =>
some (.inr xIO, J33)
else
if (w32 a2) = 0 then
bnd (f_G_body 0 a1 J2) fun x6 J5 =>
if x6 < 516 then
some (.inl (J5 2 x6 1), J5)
else none
else if (w32 a2) = 1 then
bnd (f_G_usesOf 0 a1 J2) fun x12 J11 =>
some (.inl x12, J11)
else if (w32 a2) = 2 then
bnd (f_G_lengthOf 0 (26 + a1) J2) fun x16 J15 =>
some (.inl x16, J15)
else if (w32 a2) = 3 then
bnd (f_Sv_measure 0 J2) fun _ J19 =>
bnd (f_Sv_depthOf (26 + a1) J19) fun x23 J22 =>
some (.inl x23, J22)
else if (w32 a2) = 4 then
bnd (f_Sv_measure 0 J2) fun _ J26 =>
bnd (f_Sv_comingsOf a1 J26) fun x30 J29 =>
some (.inl x30, J29)
else ltI (thrw J2) fun J32 =>
some (.inr xIA, J32)
set_option maxRecDepth 20000 in
theorem R_PR_rule (Z : ZT) (a1 : Int) (a2 : Int) (I : Mem) : RX Z yX12_rule cX12_rule 3 (some .int) 6 [vr Z 0 0, vi a1, vi a2] I (fun x => some (vi x)) (f_PR_rule a1 a2 I) := by
  refine RX.of (by decide +kernel) (Nat.le_of_ble_eq_true rfl) (fun gr => ?_)
  unfold f_PR_rule
  refine WQ.loc [0, 1, 2] (lv' := [(0, vr Z 0 0), (1, vi a1), (2, vi a2)]) rfl ?_
  refine wq_aload_n dX12_rule_0 0 rfl rfl ?_
  refine g_0_0 ln_RX12_12 dX12_rule_1 ?_
  refine wq_iload_n dX12_rule_4 1 rfl rfl ?_
  refine wq_cVi M_G_hasRule (R_G_hasRule Z 0 a1 _) (ob_1 (by decide)) rfl rfl (by decide) (by decide) (Nat.le_of_ble_eq_true rfl) ln_RX12_188 dX12_rule_5 (fun gr1 x3 J2 => ?_)
  refine wq_if_ne 19 dX12_rule_8 (by decide) rfl (fun c34 => ?_) (fun c34 => ?_)
  · exact wq_throw thr_IO (Nat.le_of_ble_eq_true rfl) (by decide +kernel) rfl dX12_rule_11 dX12_rule_14 dX12_rule_15 dX12_rule_18
  · refine wq_iload_n dX12_rule_19 2 rfl rfl ?_
    refine WQ.split (fun c9 => ?_) (fun c9 => ?_)
    · refine wq_tin (n := 0) 56 dX12_rule_20 rfl c9 (by decide) (by decide) rfl (by decide) ?_
      refine wq_aload_n dX12_rule_56 0 rfl rfl ?_
      refine g_0_0 ln_RX12_12 dX12_rule_57 ?_
      refine wq_iload_n dX12_rule_60 1 rfl rfl ?_
      refine wq_cVr 2 M_G_body (R_G_body Z 0 a1 _) (ob_1 (by decide)) rfl rfl (by decide) (by decide) (Nat.le_of_ble_eq_true rfl) ln_RX12_191 dX12_rule_61 (fun gr4 x6 J5 => ?_)
      refine wq_grd (fun g7 => ?_)
      refine wq_pV (v := vi (J5 2 x6 1)) M_Row_many (R_Row_many Z x6 _ _ _ (if_pos g7)) (ob_2 g7) rfl rfl (by decide) (by decide) (Nat.le_of_ble_eq_true rfl) ln_RX12_142 dX12_rule_64 (fun gr8 => ?_)
      exact wq_iret rfl rfl dX12_rule_67
    · skip
      refine WQ.split (fun c13 => ?_) (fun c13 => ?_)
      · refine wq_tin (n := 1) 68 dX12_rule_20 rfl c13 (by decide) (by decide) rfl (by decide) ?_
        refine wq_aload_n dX12_rule_68 0 rfl rfl ?_
        refine g_0_0 ln_RX12_12 dX12_rule_69 ?_
        refine wq_iload_n dX12_rule_72 1 rfl rfl ?_
        refine wq_cVi M_G_usesOf (R_G_usesOf Z 0 a1 _) (ob_1 (by decide)) rfl rfl (by decide) (by decide) (Nat.le_of_ble_eq_true rfl) ln_RX12_195 dX12_rule_73 (fun gr10 x12 J11 => ?_)
        exact wq_iret rfl rfl dX12_rule_76
      · skip
        refine WQ.split (fun c17 => ?_) (fun c17 => ?_)
        · refine wq_tin (n := 2) 77 dX12_rule_20 rfl c17 (by decide) (by decide) rfl (by decide) ?_
          refine wq_aload_n dX12_rule_77 0 rfl rfl ?_
          refine g_0_0 ln_RX12_12 dX12_rule_78 ?_
          refine wq_bipush dX12_rule_81 (by decide) ?_
          refine wq_iload_n dX12_rule_83 1 rfl rfl ?_
          refine wq_iadd dX12_rule_84 ?_
          refine wq_cVi M_G_lengthOf (R_G_lengthOf Z 0 (26 + a1) _) (ob_1 (by decide)) rfl rfl (by decide) (by decide) (Nat.le_of_ble_eq_true rfl) ln_RX12_198 dX12_rule_85 (fun gr14 x16 J15 => ?_)
          exact wq_iret rfl rfl dX12_rule_88
        · skip
          refine WQ.split (fun c24 => ?_) (fun c24 => ?_)
          · refine wq_tin (n := 3) 89 dX12_rule_20 rfl c24 (by decide) (by decide) rfl (by decide) ?_
            refine wq_aload_n dX12_rule_89 0 rfl rfl ?_
            refine g_0_3 ln_RX12_29 dX12_rule_90 ?_
            refine wq_aload_n dX12_rule_93 0 rfl rfl ?_
            refine g_0_0 ln_RX12_12 dX12_rule_94 ?_
            refine wq_cVv M_Sv_measure (R_Sv_measure Z 0 _) ob_5 rfl rfl (by decide) (by decide) (Nat.le_of_ble_eq_true rfl) ln_RX12_157 dX12_rule_97 (fun gr18 _ J19 => ?_)
            refine wq_aload_n dX12_rule_100 0 rfl rfl ?_
            refine g_0_3 ln_RX12_29 dX12_rule_101 ?_
            refine wq_bipush dX12_rule_104 (by decide) ?_
            refine wq_iload_n dX12_rule_106 1 rfl rfl ?_
            refine wq_iadd dX12_rule_107 ?_
            refine wq_cVi M_Sv_depthOf (R_Sv_depthOf Z (26 + a1) _) ob_5 rfl rfl (by decide) (by decide) (Nat.le_of_ble_eq_true rfl) ln_RX12_201 dX12_rule_108 (fun gr21 x23 J22 => ?_)
            exact wq_iret rfl rfl dX12_rule_111
          · skip
            refine WQ.split (fun c31 => ?_) (fun c31 => ?_)
            · refine wq_tin (n := 4) 112 dX12_rule_20 rfl c31 (by decide) (by decide) rfl (by decide) ?_
              refine wq_aload_n dX12_rule_112 0 rfl rfl ?_
              refine g_0_3 ln_RX12_29 dX12_rule_113 ?_
              refine wq_aload_n dX12_rule_116 0 rfl rfl ?_
              refine g_0_0 ln_RX12_12 dX12_rule_117 ?_
              refine wq_cVv M_Sv_measure (R_Sv_measure Z 0 _) ob_5 rfl rfl (by decide) (by decide) (Nat.le_of_ble_eq_true rfl) ln_RX12_157 dX12_rule_120 (fun gr25 _ J26 => ?_)
              refine wq_aload_n dX12_rule_123 0 rfl rfl ?_
              refine g_0_3 ln_RX12_29 dX12_rule_124 ?_
              refine wq_iload_n dX12_rule_127 1 rfl rfl ?_
              refine wq_cVi M_Sv_comingsOf (R_Sv_comingsOf Z a1 _) ob_5 rfl rfl (by decide) (by decide) (Nat.le_of_ble_eq_true rfl) ln_RX12_204 dX12_rule_128 (fun gr28 x30 J29 => ?_)
              exact wq_iret rfl rfl dX12_rule_131
            · skip
              refine wq_tout 132 dX12_rule_20 rfl (by omega) (by decide) ?_
              exact wq_throw thr_IA (Nat.le_of_ble_eq_true rfl) (by decide +kernel) rfl dX12_rule_132 dX12_rule_135 dX12_rule_136 dX12_rule_139

theorem ln_RX12_250 : Cond.methodLink RX12 250 yX3_countOf ∈ lw_good := li_4 201 (by decide +kernel) (by decide +kernel)
theorem ln_RX12_246 : Cond.methodLink RX12 246 yX3_pairOf ∈ lw_good := li_4 200 (by decide +kernel) (by decide +kernel)
theorem ln_RX12_243 : Cond.methodLink RX12 243 yX12_isSymbol ∈ lw_good := li_6 113 (by decide +kernel) (by decide +kernel)
noncomputable def f_PR_count (a1 : Int) (a2 : Int) (I : Mem) : Option ((Int ⊕ String) × Mem) :=
bnd (f_PR_isSymbol a1 I) fun x3 J2 =>
if (w32 x3) = 0 then
ltI (thrw J2) fun J4 =>
some (.inr xIA, J4)
else
bnd (f_PR_isSymbol a2 J2) fun x7 J6 =>
if (w32 x7) = 0 then
ltI (thrw J6) fun J18 =>
some (.inr xIA, J18)
else
bnd (f_PT_readFrom 0 J6) fun _ J10 =>
bnd (f_PT_pairOf a1 a2 J10) fun x14 J13 =>
bnd (f_PT_countOf x14 J13) fun x17 J16 =>
some (.inl x17, J16)
set_option maxRecDepth 20000 in
theorem R_PR_count (Z : ZT) (a1 : Int) (a2 : Int) (I : Mem) : RX Z yX12_count cX12_count 4 (some .int) 6 [vr Z 0 0, vi a1, vi a2] I (fun x => some (vi x)) (f_PR_count a1 a2 I) := by
  refine RX.of (by decide +kernel) (Nat.le_of_ble_eq_true rfl) (fun gr => ?_)
  unfold f_PR_count
  refine WQ.loc [0, 1, 2] (lv' := [(0, vr Z 0 0), (1, vi a1), (2, vi a2)]) rfl ?_
  refine wq_iload_n dX12_count_0 1 rfl rfl ?_
  refine wq_cSi M_PR_isSymbol (R_PR_isSymbol Z a1 _) rfl rfl rfl (by decide) (by decide) (Nat.le_of_ble_eq_true rfl) ln_RX12_243 dX12_count_1 (fun gr1 x3 J2 => ?_)
  refine wq_if_eq 14 dX12_count_4 (by decide) rfl (fun c20 => ?_) (fun c20 => ?_)
  · exact wq_throw thr_IA (Nat.le_of_ble_eq_true rfl) (by decide +kernel) rfl dX12_count_14 dX12_count_17 dX12_count_18 dX12_count_21
  · refine wq_iload_n dX12_count_7 2 rfl rfl ?_
    refine wq_cSi M_PR_isSymbol (R_PR_isSymbol Z a2 _) rfl rfl rfl (by decide) (by decide) (Nat.le_of_ble_eq_true rfl) ln_RX12_243 dX12_count_8 (fun gr5 x7 J6 => ?_)
    refine wq_if_ne 22 dX12_count_11 (by decide) rfl (fun c19 => ?_) (fun c19 => ?_)
    · exact wq_throw thr_IA (Nat.le_of_ble_eq_true rfl) (by decide +kernel) rfl dX12_count_14 dX12_count_17 dX12_count_18 dX12_count_21
    · refine wq_aload_n dX12_count_22 0 rfl rfl ?_
      refine g_0_2 ln_RX12_22 dX12_count_23 ?_
      refine wq_pV (v := vr Z 4 0) M_Stp_pairs (R_Stp_pairs Z  _ _ _ rfl) ob_3 rfl rfl (by decide) (by decide) (Nat.le_of_ble_eq_true rfl) ln_RX12_167 dX12_count_26 (fun gr8 => ?_)
      refine wq_astore_n (lv' := [(3, vr Z 4 0), (0, vr Z 0 0), (1, vi a1), (2, vi a2)]) dX12_count_29 rfl (by decide) rfl ?_
      refine wq_aload_n dX12_count_30 0 rfl rfl ?_
      refine wq_aload_n dX12_count_31 1 rfl rfl ?_
      refine g_0_0 ln_RX12_12 dX12_count_32 ?_
      refine wq_cVv M_PT_readFrom (R_PT_readFrom Z 0 _) ob_4 rfl rfl (by decide) (by decide) (Nat.le_of_ble_eq_true rfl) ln_RX12_171 dX12_count_35 (fun gr9 _ J10 => ?_)
      refine wq_aload_n dX12_count_38 0 rfl rfl ?_
      refine wq_aload_n dX12_count_39 0 rfl rfl ?_
      refine wq_iload_n dX12_count_40 2 rfl rfl ?_
      refine wq_iload_n dX12_count_41 3 rfl rfl ?_
      refine wq_cVi M_PT_pairOf (R_PT_pairOf Z a1 a2 _) ob_4 rfl rfl (by decide) (by decide) (Nat.le_of_ble_eq_true rfl) ln_RX12_246 dX12_count_42 (fun gr12 x14 J13 => ?_)
      refine wq_cVi M_PT_countOf (R_PT_countOf Z x14 _) ob_4 rfl rfl (by decide) (by decide) (Nat.le_of_ble_eq_true rfl) ln_RX12_250 dX12_count_45 (fun gr15 x17 J16 => ?_)
      exact wq_iret rfl rfl dX12_count_48

theorem M_PT_bestPair : MwV yX3_bestPair cX3_bestPair 1 (some .int) 0 := ⟨li_4 109 (by decide +kernel) (by decide +kernel), li_4 107 (by decide +kernel) (by decide +kernel), li_4 108 (by decide +kernel) (by decide +kernel), li_1 5 (by decide +kernel) (by decide +kernel), by decide +kernel⟩
theorem ln_RX12_253 : Cond.methodLink RX12 253 yX3_bestPair ∈ lw_good := li_6 121 (by decide +kernel) (by decide +kernel)
theorem ln_RX12_256 : Cond.methodLink RX12 256 yX3_firstOf ∈ lw_good := li_6 122 (by decide +kernel) (by decide +kernel)
theorem ln_RX12_259 : Cond.methodLink RX12 259 yX3_secondOf ∈ lw_good := li_6 123 (by decide +kernel) (by decide +kernel)
theorem ln_RX12_262 : Cond.methodLink RX12 262 yX3_keptOf ∈ lw_good := li_4 202 (by decide +kernel) (by decide +kernel)
theorem M_PT_manyAsCommonAsBest : MwV yX3_manyAsCommonAsBest cX3_manyAsCommonAsBest 1 (some .int) 0 := ⟨li_6 127 (by decide +kernel) (by decide +kernel), li_6 125 (by decide +kernel) (by decide +kernel), li_6 126 (by decide +kernel) (by decide +kernel), li_1 5 (by decide +kernel) (by decide +kernel), by decide +kernel⟩
theorem ln_RX12_265 : Cond.methodLink RX12 265 yX3_manyAsCommonAsBest ∈ lw_good := li_6 124 (by decide +kernel) (by decide +kernel)
noncomputable def f_PR_best (a1 : Int) (I : Mem) : Option ((Int ⊕ String) × Mem) :=
if (w32 a1) < 0 then
ltI (thrw I) fun J1 =>
some (.inr xIA, J1)
else
if 4 < (w32 a1) then
ltI (thrw I) fun J22 =>
some (.inr xIA, J22)
else
bnd (f_PT_readFrom 0 I) fun _ J4 =>
if (w32 (J4 4 0 7)) = (-1) then
if (w32 a1) = 4 then
some (.inl 0, J4)
else
some (.inl (-1), J4)
else
if (w32 a1) = 0 then
some (.inl (idv (J4 4 0 7) 66), J4)
else if (w32 a1) = 1 then
some (.inl (irm (J4 4 0 7) 66), J4)
else if (w32 a1) = 2 then
bnd (f_PT_countOf (J4 4 0 7) J4) fun x13 J12 =>
some (.inl x13, J12)
else if (w32 a1) = 3 then
bnd (f_PT_keptOf (J4 4 0 7) J4) fun x17 J16 =>
some (.inl x17, J16)
else some (.inl (J4 4 0 9), J4)
set_option maxRecDepth 20000 in
theorem R_PR_best (Z : ZT) (a1 : Int) (I : Mem) : RX Z yX12_best cX12_best 4 (some .int) 6 [vr Z 0 0, vi a1] I (fun x => some (vi x)) (f_PR_best a1 I) := by
  refine RX.of (by decide +kernel) (Nat.le_of_ble_eq_true rfl) (fun gr => ?_)
  unfold f_PR_best
  refine WQ.loc [0, 1] (lv' := [(0, vr Z 0 0), (1, vi a1)]) rfl ?_
  refine wq_iload_n dX12_best_0 1 rfl rfl ?_
  refine wq_if_lt 9 dX12_best_1 (by decide) rfl (fun c24 => ?_) (fun c24 => ?_)
  · exact wq_throw thr_IA (Nat.le_of_ble_eq_true rfl) (by decide +kernel) rfl dX12_best_9 dX12_best_12 dX12_best_13 dX12_best_16
  · refine wq_iload_n dX12_best_4 1 rfl rfl ?_
    refine wq_iconst dX12_best_5 ?_
    refine wq_icmp_le 17 dX12_best_6 (by decide) rfl rfl (fun c23 => ?_) (fun c23 => ?_)
    · exact wq_throw thr_IA (Nat.le_of_ble_eq_true rfl) (by decide +kernel) rfl dX12_best_9 dX12_best_12 dX12_best_13 dX12_best_16
    · refine wq_aload_n dX12_best_17 0 rfl rfl ?_
      refine g_0_2 ln_RX12_22 dX12_best_18 ?_
      refine wq_pV (v := vr Z 4 0) M_Stp_pairs (R_Stp_pairs Z  _ _ _ rfl) ob_3 rfl rfl (by decide) (by decide) (Nat.le_of_ble_eq_true rfl) ln_RX12_167 dX12_best_21 (fun gr2 => ?_)
      refine wq_astore_n (lv' := [(2, vr Z 4 0), (0, vr Z 0 0), (1, vi a1)]) dX12_best_24 rfl (by decide) rfl ?_
      refine wq_aload_n dX12_best_25 0 rfl rfl ?_
      refine wq_aload_n dX12_best_26 1 rfl rfl ?_
      refine g_0_0 ln_RX12_12 dX12_best_27 ?_
      refine wq_cVv M_PT_readFrom (R_PT_readFrom Z 0 _) ob_4 rfl rfl (by decide) (by decide) (Nat.le_of_ble_eq_true rfl) ln_RX12_171 dX12_best_30 (fun gr3 _ J4 => ?_)
      refine wq_aload_n dX12_best_33 0 rfl rfl ?_
      refine wq_pV (v := vi (J4 4 0 7)) M_PT_bestPair (R_PT_bestPair Z  _ _ _ rfl) ob_4 rfl rfl (by decide) (by decide) (Nat.le_of_ble_eq_true rfl) ln_RX12_253 dX12_best_34 (fun gr6 => ?_)
      refine wq_istore_n (lv' := [(3, vi (J4 4 0 7)), (2, vr Z 4 0), (0, vr Z 0 0), (1, vi a1)]) dX12_best_37 rfl (by decide) rfl ?_
      refine wq_iload_n dX12_best_38 0 rfl rfl ?_
      refine wq_iconst dX12_best_39 ?_
      refine wq_icmp_ne 54 dX12_best_40 (by decide) rfl rfl (fun c21 => ?_) (fun c21 => ?_)
      · refine wq_iload_n dX12_best_43 3 rfl rfl ?_
        refine wq_iconst dX12_best_44 ?_
        refine wq_icmp_ne 52 dX12_best_45 (by decide) rfl rfl (fun c20 => ?_) (fun c20 => ?_)
        · refine wq_iconst dX12_best_48 ?_
          refine wq_goto 53 dX12_best_49 (by decide) ?_
          exact wq_iret rfl rfl dX12_best_53
        · refine wq_iconst dX12_best_52 ?_
          exact wq_iret rfl rfl dX12_best_53
      · refine wq_iload_n dX12_best_54 3 rfl rfl ?_
        refine WQ.split (fun c8 => ?_) (fun c8 => ?_)
        · refine wq_tin (n := 0) 84 dX12_best_55 rfl c8 (by decide) (by decide) rfl (by decide) ?_
          refine wq_aload_n dX12_best_84 1 rfl rfl ?_
          refine wq_iload_n dX12_best_85 0 rfl rfl ?_
          refine wq_pV (v := vi (idv (J4 4 0 7) 66)) M_PT_firstOf (R_PT_firstOf Z (J4 4 0 7) _ _ _ rfl) ob_4 rfl rfl (by decide) (by decide) (Nat.le_of_ble_eq_true rfl) ln_RX12_256 dX12_best_86 (fun gr7 => ?_)
          exact wq_iret rfl rfl dX12_best_89
        · skip
          refine WQ.split (fun c10 => ?_) (fun c10 => ?_)
          · refine wq_tin (n := 1) 90 dX12_best_55 rfl c10 (by decide) (by decide) rfl (by decide) ?_
            refine wq_aload_n dX12_best_90 1 rfl rfl ?_
            refine wq_iload_n dX12_best_91 0 rfl rfl ?_
            refine wq_pV (v := vi (irm (J4 4 0 7) 66)) M_PT_secondOf (R_PT_secondOf Z (J4 4 0 7) _ _ _ rfl) ob_4 rfl rfl (by decide) (by decide) (Nat.le_of_ble_eq_true rfl) ln_RX12_259 dX12_best_92 (fun gr9 => ?_)
            exact wq_iret rfl rfl dX12_best_95
          · skip
            refine WQ.split (fun c14 => ?_) (fun c14 => ?_)
            · refine wq_tin (n := 2) 96 dX12_best_55 rfl c14 (by decide) (by decide) rfl (by decide) ?_
              refine wq_aload_n dX12_best_96 1 rfl rfl ?_
              refine wq_iload_n dX12_best_97 0 rfl rfl ?_
              refine wq_cVi M_PT_countOf (R_PT_countOf Z (J4 4 0 7) _) ob_4 rfl rfl (by decide) (by decide) (Nat.le_of_ble_eq_true rfl) ln_RX12_250 dX12_best_98 (fun gr11 x13 J12 => ?_)
              exact wq_iret rfl rfl dX12_best_101
            · skip
              refine WQ.split (fun c18 => ?_) (fun c18 => ?_)
              · refine wq_tin (n := 3) 102 dX12_best_55 rfl c18 (by decide) (by decide) rfl (by decide) ?_
                refine wq_aload_n dX12_best_102 1 rfl rfl ?_
                refine wq_iload_n dX12_best_103 0 rfl rfl ?_
                refine wq_cVi M_PT_keptOf (R_PT_keptOf Z (J4 4 0 7) _) ob_4 rfl rfl (by decide) (by decide) (Nat.le_of_ble_eq_true rfl) ln_RX12_262 dX12_best_104 (fun gr15 x17 J16 => ?_)
                exact wq_iret rfl rfl dX12_best_107
              · skip
                refine wq_tout 108 dX12_best_55 rfl (by omega) (by decide) ?_
                refine wq_aload_n dX12_best_108 1 rfl rfl ?_
                refine wq_pV (v := vi (J4 4 0 9)) M_PT_manyAsCommonAsBest (R_PT_manyAsCommonAsBest Z  _ _ _ rfl) ob_4 rfl rfl (by decide) (by decide) (Nat.le_of_ble_eq_true rfl) ln_RX12_265 dX12_best_109 (fun gr19 => ?_)
                exact wq_iret rfl rfl dX12_best_112

theorem ln_RX12_268 : Cond.methodLink RX12 268 yX3_isWorth ∈ lw_good := li_6 135 (by decide +kernel) (by decide +kernel)
noncomputable def f_PR_why (a1 : Int) (a2 : Int) (I : Mem) : Option ((Int ⊕ String) × Mem) :=
bnd (f_PR_isSymbol a1 I) fun x3 J2 =>
if (w32 x3) = 0 then
ltI (thrw J2) fun J4 =>
some (.inr xIA, J4)
else
bnd (f_PR_isSymbol a2 J2) fun x7 J6 =>
if (w32 x7) = 0 then
ltI (thrw J6) fun J39 =>
some (.inr xIA, J39)
else
bnd (f_PT_readFrom 0 J6) fun _ J10 =>
bnd (f_PT_pairOf a1 a2 J10) fun x14 J13 =>
bnd (f_PT_countOf x14 J13) fun x17 J16 =>
if (w32 x17) = 0 then
some (.inl 1, J16)
else
bnd (f_PT_isWorth x14 J16) fun x20 J19 =>
if (w32 x20) = 0 then
bnd (f_PT_countOf x14 J19) fun x32 J31 =>
bnd (f_G_number 0 4 J31) fun x35 J34 =>
if (w32 x32) < (w32 x35) then
some (.inl 2, J34)
else
some (.inl 3, J34)
else
bnd (f_PT_countOf (J19 4 0 7) J19) fun x24 J23 =>
bnd (f_PT_countOf x14 J23) fun x27 J26 =>
if (w32 x27) < (w32 x24) then
some (.inl 4, J26)
else
if (w32 (J19 4 0 7)) = (w32 x14) then
some (.inl 0, J26)
else
some (.inl 5, J26)
set_option maxRecDepth 20000 in
theorem R_PR_why (Z : ZT) (a1 : Int) (a2 : Int) (I : Mem) : RX Z yX12_why cX12_why 6 (some .int) 6 [vr Z 0 0, vi a1, vi a2] I (fun x => some (vi x)) (f_PR_why a1 a2 I) := by
  refine RX.of (by decide +kernel) (Nat.le_of_ble_eq_true rfl) (fun gr => ?_)
  unfold f_PR_why
  refine WQ.loc [0, 1, 2] (lv' := [(0, vr Z 0 0), (1, vi a1), (2, vi a2)]) rfl ?_
  refine wq_iload_n dX12_why_0 1 rfl rfl ?_
  refine wq_cSi M_PR_isSymbol (R_PR_isSymbol Z a1 _) rfl rfl rfl (by decide) (by decide) (Nat.le_of_ble_eq_true rfl) ln_RX12_243 dX12_why_1 (fun gr1 x3 J2 => ?_)
  refine wq_if_eq 14 dX12_why_4 (by decide) rfl (fun c41 => ?_) (fun c41 => ?_)
  · exact wq_throw thr_IA (Nat.le_of_ble_eq_true rfl) (by decide +kernel) rfl dX12_why_14 dX12_why_17 dX12_why_18 dX12_why_21
  · refine wq_iload_n dX12_why_7 2 rfl rfl ?_
    refine wq_cSi M_PR_isSymbol (R_PR_isSymbol Z a2 _) rfl rfl rfl (by decide) (by decide) (Nat.le_of_ble_eq_true rfl) ln_RX12_243 dX12_why_8 (fun gr5 x7 J6 => ?_)
    refine wq_if_ne 22 dX12_why_11 (by decide) rfl (fun c40 => ?_) (fun c40 => ?_)
    · exact wq_throw thr_IA (Nat.le_of_ble_eq_true rfl) (by decide +kernel) rfl dX12_why_14 dX12_why_17 dX12_why_18 dX12_why_21
    · refine wq_aload_n dX12_why_22 0 rfl rfl ?_
      refine g_0_2 ln_RX12_22 dX12_why_23 ?_
      refine wq_pV (v := vr Z 4 0) M_Stp_pairs (R_Stp_pairs Z  _ _ _ rfl) ob_3 rfl rfl (by decide) (by decide) (Nat.le_of_ble_eq_true rfl) ln_RX12_167 dX12_why_26 (fun gr8 => ?_)
      refine wq_astore_n (lv' := [(3, vr Z 4 0), (0, vr Z 0 0), (1, vi a1), (2, vi a2)]) dX12_why_29 rfl (by decide) rfl ?_
      refine wq_aload_n dX12_why_30 0 rfl rfl ?_
      refine wq_aload_n dX12_why_31 1 rfl rfl ?_
      refine g_0_0 ln_RX12_12 dX12_why_32 ?_
      refine wq_cVv M_PT_readFrom (R_PT_readFrom Z 0 _) ob_4 rfl rfl (by decide) (by decide) (Nat.le_of_ble_eq_true rfl) ln_RX12_171 dX12_why_35 (fun gr9 _ J10 => ?_)
      refine wq_aload_n dX12_why_38 0 rfl rfl ?_
      refine wq_iload_n dX12_why_39 2 rfl rfl ?_
      refine wq_iload_n dX12_why_40 3 rfl rfl ?_
      refine wq_cVi M_PT_pairOf (R_PT_pairOf Z a1 a2 _) ob_4 rfl rfl (by decide) (by decide) (Nat.le_of_ble_eq_true rfl) ln_RX12_246 dX12_why_41 (fun gr12 x14 J13 => ?_)
      refine wq_istore (lv' := [(4, vi x14), (3, vr Z 4 0), (0, vr Z 0 0), (1, vi a1), (2, vi a2)]) dX12_why_44 (by decide) rfl ?_
      refine wq_aload_n dX12_why_46 1 rfl rfl ?_
      refine wq_iload dX12_why_47 0 rfl ?_
      refine wq_cVi M_PT_countOf (R_PT_countOf Z x14 _) ob_4 rfl rfl (by decide) (by decide) (Nat.le_of_ble_eq_true rfl) ln_RX12_250 dX12_why_49 (fun gr15 x17 J16 => ?_)
      refine wq_if_ne 57 dX12_why_52 (by decide) rfl (fun c38 => ?_) (fun c38 => ?_)
      · refine wq_iconst dX12_why_55 ?_
        exact wq_iret rfl rfl dX12_why_56
      · refine wq_aload_n dX12_why_57 1 rfl rfl ?_
        refine wq_iload dX12_why_58 0 rfl ?_
        refine wq_cVi M_PT_isWorth (R_PT_isWorth Z x14 _) ob_4 rfl rfl (by decide) (by decide) (Nat.le_of_ble_eq_true rfl) ln_RX12_268 dX12_why_60 (fun gr18 x20 J19 => ?_)
        refine wq_if_ne 89 dX12_why_63 (by decide) rfl (fun c37 => ?_) (fun c37 => ?_)
        · refine wq_aload_n dX12_why_66 1 rfl rfl ?_
          refine wq_iload dX12_why_67 0 rfl ?_
          refine wq_cVi M_PT_countOf (R_PT_countOf Z x14 _) ob_4 rfl rfl (by decide) (by decide) (Nat.le_of_ble_eq_true rfl) ln_RX12_250 dX12_why_69 (fun gr30 x32 J31 => ?_)
          refine wq_aload_n dX12_why_72 2 rfl rfl ?_
          refine g_0_0 ln_RX12_12 dX12_why_73 ?_
          refine wq_iconst dX12_why_76 ?_
          refine wq_cVi M_G_number (R_G_number Z 0 4 _) (ob_1 (by decide)) rfl rfl (by decide) (by decide) (Nat.le_of_ble_eq_true rfl) ln_RX12_151 dX12_why_77 (fun gr33 x35 J34 => ?_)
          refine wq_icmp_ge 87 dX12_why_80 (by decide) rfl rfl (fun c36 => ?_) (fun c36 => ?_)
          · refine wq_iconst dX12_why_83 ?_
            refine wq_goto 88 dX12_why_84 (by decide) ?_
            exact wq_iret rfl rfl dX12_why_88
          · refine wq_iconst dX12_why_87 ?_
            exact wq_iret rfl rfl dX12_why_88
        · refine wq_aload_n dX12_why_89 1 rfl rfl ?_
          refine wq_pV (v := vi (J19 4 0 7)) M_PT_bestPair (R_PT_bestPair Z  _ _ _ rfl) ob_4 rfl rfl (by decide) (by decide) (Nat.le_of_ble_eq_true rfl) ln_RX12_253 dX12_why_90 (fun gr21 => ?_)
          refine wq_istore (lv' := [(5, vi (J19 4 0 7)), (4, vi x14), (3, vr Z 4 0), (0, vr Z 0 0), (1, vi a1), (2, vi a2)]) dX12_why_93 (by decide) rfl ?_
          refine wq_aload_n dX12_why_95 2 rfl rfl ?_
          refine wq_iload dX12_why_96 0 rfl ?_
          refine wq_cVi M_PT_countOf (R_PT_countOf Z (J19 4 0 7) _) ob_4 rfl rfl (by decide) (by decide) (Nat.le_of_ble_eq_true rfl) ln_RX12_250 dX12_why_98 (fun gr22 x24 J23 => ?_)
          refine wq_aload_n dX12_why_101 2 rfl rfl ?_
          refine wq_iload dX12_why_102 1 rfl ?_
          refine wq_cVi M_PT_countOf (R_PT_countOf Z x14 _) ob_4 rfl rfl (by decide) (by decide) (Nat.le_of_ble_eq_true rfl) ln_RX12_250 dX12_why_104 (fun gr25 x27 J26 => ?_)
          refine wq_icmp_le 112 dX12_why_107 (by decide) rfl rfl (fun c29 => ?_) (fun c29 => ?_)
          · refine wq_iconst dX12_why_110 ?_
            exact wq_iret rfl rfl dX12_why_111
          · refine wq_iload dX12_why_112 0 rfl ?_
            refine wq_iload dX12_why_114 1 rfl ?_
            refine wq_icmp_ne 123 dX12_why_116 (by decide) rfl rfl (fun c28 => ?_) (fun c28 => ?_)
            · refine wq_iconst dX12_why_119 ?_
              refine wq_goto 124 dX12_why_120 (by decide) ?_
              exact wq_iret rfl rfl dX12_why_124
            · refine wq_iconst dX12_why_123 ?_
              exact wq_iret rfl rfl dX12_why_124

noncomputable def f_PR_gain (a1 : Int) (a2 : Int) (I : Mem) : Option ((Int ⊕ String) × Mem) :=
bnd (f_PR_isSymbol a1 I) fun x3 J2 =>
if (w32 x3) = 0 then
ltI (thrw J2) fun J4 =>
some (.inr xIA, J4)
else
bnd (f_PR_isSymbol a2 J2) fun x7 J6 =>
if (w32 x7) = 0 then
ltI (thrw J6) fun J23 =>
some (.inr xIA, J23)
else
bnd (f_PT_readFrom 0 J6) fun _ J10 =>
bnd (f_PT_pairOf a1 a2 J10) fun x14 J13 =>
bnd (f_PT_countOf x14 J13) fun x17 J16 =>
if (w32 x17) = 0 then
some (.inl x17, J16)
else
bnd (f_PT_keptOf x14 J16) fun x20 J19 =>
if (w32 x20) = (-1) then
some (.inl (x17 - 2), J19)
else
some (.inl x17, J19)
set_option maxRecDepth 20000 in
theorem R_PR_gain (Z : ZT) (a1 : Int) (a2 : Int) (I : Mem) : RX Z yX12_gain cX12_gain 6 (some .int) 6 [vr Z 0 0, vi a1, vi a2] I (fun x => some (vi x)) (f_PR_gain a1 a2 I) := by
  refine RX.of (by decide +kernel) (Nat.le_of_ble_eq_true rfl) (fun gr => ?_)
  unfold f_PR_gain
  refine WQ.loc [0, 1, 2] (lv' := [(0, vr Z 0 0), (1, vi a1), (2, vi a2)]) rfl ?_
  refine wq_iload_n dX12_gain_0 1 rfl rfl ?_
  refine wq_cSi M_PR_isSymbol (R_PR_isSymbol Z a1 _) rfl rfl rfl (by decide) (by decide) (Nat.le_of_ble_eq_true rfl) ln_RX12_243 dX12_gain_1 (fun gr1 x3 J2 => ?_)
  refine wq_if_eq 14 dX12_gain_4 (by decide) rfl (fun c25 => ?_) (fun c25 => ?_)
  · exact wq_throw thr_IA (Nat.le_of_ble_eq_true rfl) (by decide +kernel) rfl dX12_gain_14 dX12_gain_17 dX12_gain_18 dX12_gain_21
  · refine wq_iload_n dX12_gain_7 2 rfl rfl ?_
    refine wq_cSi M_PR_isSymbol (R_PR_isSymbol Z a2 _) rfl rfl rfl (by decide) (by decide) (Nat.le_of_ble_eq_true rfl) ln_RX12_243 dX12_gain_8 (fun gr5 x7 J6 => ?_)
    refine wq_if_ne 22 dX12_gain_11 (by decide) rfl (fun c24 => ?_) (fun c24 => ?_)
    · exact wq_throw thr_IA (Nat.le_of_ble_eq_true rfl) (by decide +kernel) rfl dX12_gain_14 dX12_gain_17 dX12_gain_18 dX12_gain_21
    · refine wq_aload_n dX12_gain_22 0 rfl rfl ?_
      refine g_0_2 ln_RX12_22 dX12_gain_23 ?_
      refine wq_pV (v := vr Z 4 0) M_Stp_pairs (R_Stp_pairs Z  _ _ _ rfl) ob_3 rfl rfl (by decide) (by decide) (Nat.le_of_ble_eq_true rfl) ln_RX12_167 dX12_gain_26 (fun gr8 => ?_)
      refine wq_astore_n (lv' := [(3, vr Z 4 0), (0, vr Z 0 0), (1, vi a1), (2, vi a2)]) dX12_gain_29 rfl (by decide) rfl ?_
      refine wq_aload_n dX12_gain_30 0 rfl rfl ?_
      refine wq_aload_n dX12_gain_31 1 rfl rfl ?_
      refine g_0_0 ln_RX12_12 dX12_gain_32 ?_
      refine wq_cVv M_PT_readFrom (R_PT_readFrom Z 0 _) ob_4 rfl rfl (by decide) (by decide) (Nat.le_of_ble_eq_true rfl) ln_RX12_171 dX12_gain_35 (fun gr9 _ J10 => ?_)
      refine wq_aload_n dX12_gain_38 0 rfl rfl ?_
      refine wq_iload_n dX12_gain_39 2 rfl rfl ?_
      refine wq_iload_n dX12_gain_40 3 rfl rfl ?_
      refine wq_cVi M_PT_pairOf (R_PT_pairOf Z a1 a2 _) ob_4 rfl rfl (by decide) (by decide) (Nat.le_of_ble_eq_true rfl) ln_RX12_246 dX12_gain_41 (fun gr12 x14 J13 => ?_)
      refine wq_istore (lv' := [(4, vi x14), (3, vr Z 4 0), (0, vr Z 0 0), (1, vi a1), (2, vi a2)]) dX12_gain_44 (by decide) rfl ?_
      refine wq_aload_n dX12_gain_46 1 rfl rfl ?_
      refine wq_iload dX12_gain_47 0 rfl ?_
      refine wq_cVi M_PT_countOf (R_PT_countOf Z x14 _) ob_4 rfl rfl (by decide) (by decide) (Nat.le_of_ble_eq_true rfl) ln_RX12_250 dX12_gain_49 (fun gr15 x17 J16 => ?_)
      refine wq_istore (lv' := [(5, vi x17), (4, vi x14), (3, vr Z 4 0), (0, vr Z 0 0), (1, vi a1), (2, vi a2)]) dX12_gain_52 (by decide) rfl ?_
      refine wq_iload dX12_gain_54 0 rfl ?_
      refine wq_if_eq 69 dX12_gain_56 (by decide) rfl (fun c22 => ?_) (fun c22 => ?_)
      · refine wq_iload dX12_gain_69 0 rfl ?_
        refine wq_goto 78 dX12_gain_71 (by decide) ?_
        exact wq_iret rfl rfl dX12_gain_78
      · refine wq_aload_n dX12_gain_59 2 rfl rfl ?_
        refine wq_iload dX12_gain_60 1 rfl ?_
        refine wq_cVi M_PT_keptOf (R_PT_keptOf Z x14 _) ob_4 rfl rfl (by decide) (by decide) (Nat.le_of_ble_eq_true rfl) ln_RX12_262 dX12_gain_62 (fun gr18 x20 J19 => ?_)
        refine wq_iconst dX12_gain_65 ?_
        refine wq_icmp_eq 74 dX12_gain_66 (by decide) rfl rfl (fun c21 => ?_) (fun c21 => ?_)
        · refine wq_iload dX12_gain_74 0 rfl ?_
          refine wq_iconst dX12_gain_76 ?_
          refine wq_isub dX12_gain_77 ?_
          exact wq_iret rfl rfl dX12_gain_78
        · refine wq_iload dX12_gain_69 0 rfl ?_
          refine wq_goto 78 dX12_gain_71 (by decide) ?_
          exact wq_iret rfl rfl dX12_gain_78

theorem ln_RX12_16 : Cond.fieldLink RX12 16 RX12 "trial" "LPairRules$Grammar;" ∈ lw_good := li_2 101 (by decide +kernel) (by decide +kernel)
theorem M_Stp_inlineAll : MwV yX9_inlineAll cX9_inlineAll 4 (some .int) 1 := ⟨li_4 138 (by decide +kernel) (by decide +kernel), li_4 136 (by decide +kernel) (by decide +kernel), li_4 137 (by decide +kernel) (by decide +kernel), li_1 4 (by decide +kernel) (by decide +kernel), by decide +kernel⟩
theorem ln_RX12_279 : Cond.methodLink RX12 279 yX9_inlineAll ∈ lw_good := li_4 173 (by decide +kernel) (by decide +kernel)
theorem ln_RX12_113 : Cond.methodLink RX12 113 yX1_takeFrom ∈ lw_good := li_3 156 (by decide +kernel) (by decide +kernel)
noncomputable def f_PR_inlinable  (I : Mem) : Option ((Int) × Mem) :=
bnd (f_G_takeFrom 1 0 I) fun _ J2 =>
bnd (f_Stp_inlineAll 1 J2) fun x6 J5 =>
some (x6, J5)
set_option maxRecDepth 20000 in
theorem R_PR_inlinable (Z : ZT)  (I : Mem) (r : Int) (J : Mem) (hf : f_PR_inlinable I = some (r, J)) : Runs Z yX12_inlinable cX12_inlinable 1 (some .int) 5 [vr Z 0 0] I (some (vi r), J) := by
  refine Runs.of (rv := fun x => some (vi x)) (by decide +kernel) (Nat.le_of_ble_eq_true rfl) hf (fun gr => ?_)
  unfold f_PR_inlinable
  refine WQ.loc [0] (lv' := [(0, vr Z 0 0)]) rfl ?_
  refine wq_aload_n dX12_inlinable_0 0 rfl rfl ?_
  refine g_0_1 ln_RX12_16 dX12_inlinable_1 ?_
  refine wq_aload_n dX12_inlinable_4 0 rfl rfl ?_
  refine g_0_0 ln_RX12_12 dX12_inlinable_5 ?_
  refine wq_cVv M_G_takeFrom (R_G_takeFrom Z 1 0 _) (ob_1 (by decide)) rfl rfl (by decide) (by decide) (Nat.le_of_ble_eq_true rfl) ln_RX12_113 dX12_inlinable_8 (fun gr1 _ J2 => ?_)
  refine wq_aload_n dX12_inlinable_11 0 rfl rfl ?_
  refine g_0_2 ln_RX12_22 dX12_inlinable_12 ?_
  refine wq_aload_n dX12_inlinable_15 0 rfl rfl ?_
  refine g_0_1 ln_RX12_16 dX12_inlinable_16 ?_
  refine wq_cVi M_Stp_inlineAll (R_Stp_inlineAll Z 1 _) ob_3 rfl rfl (by decide) (by decide) (Nat.le_of_ble_eq_true rfl) ln_RX12_279 dX12_inlinable_19 (fun gr4 x6 J5 => ?_)
  exact wq_iret rfl rfl dX12_inlinable_22

theorem M_His_remember : MwV yX2_remember cX2_remember 2 (none) 1 := ⟨li_3 234 (by decide +kernel) (by decide +kernel), li_3 232 (by decide +kernel) (by decide +kernel), li_3 233 (by decide +kernel) (by decide +kernel), li_1 12 (by decide +kernel) (by decide +kernel), by decide +kernel⟩
theorem ln_RX12_126 : Cond.methodLink RX12 126 yX2_remember ∈ lw_good := li_3 231 (by decide +kernel) (by decide +kernel)
noncomputable def f_PR_inline  (I : Mem) : Option ((Int) × Mem) :=
bnd (f_His_remember 0 I) fun _ J2 =>
bnd (f_Stp_inlineAll 0 J2) fun x6 J5 =>
some (x6, J5)
set_option maxRecDepth 20000 in
theorem R_PR_inline (Z : ZT)  (I : Mem) (r : Int) (J : Mem) (hf : f_PR_inline I = some (r, J)) : Runs Z yX12_inline cX12_inline 1 (some .int) 6 [vr Z 0 0] I (some (vi r), J) := by
  refine Runs.of (rv := fun x => some (vi x)) (by decide +kernel) (Nat.le_of_ble_eq_true rfl) hf (fun gr => ?_)
  unfold f_PR_inline
  refine WQ.loc [0] (lv' := [(0, vr Z 0 0)]) rfl ?_
  refine wq_aload_n dX12_inline_0 0 rfl rfl ?_
  refine g_0_7 ln_RX12_61 dX12_inline_1 ?_
  refine wq_aload_n dX12_inline_4 0 rfl rfl ?_
  refine g_0_0 ln_RX12_12 dX12_inline_5 ?_
  refine wq_cVv M_His_remember (R_His_remember Z 0 _) ob_9 rfl rfl (by decide) (by decide) (Nat.le_of_ble_eq_true rfl) ln_RX12_126 dX12_inline_8 (fun gr1 _ J2 => ?_)
  refine wq_aload_n dX12_inline_11 0 rfl rfl ?_
  refine g_0_2 ln_RX12_22 dX12_inline_12 ?_
  refine wq_aload_n dX12_inline_15 0 rfl rfl ?_
  refine g_0_0 ln_RX12_12 dX12_inline_16 ?_
  refine wq_cVi M_Stp_inlineAll (R_Stp_inlineAll Z 0 _) ob_3 rfl rfl (by decide) (by decide) (Nat.le_of_ble_eq_true rfl) ln_RX12_279 dX12_inline_19 (fun gr4 x6 J5 => ?_)
  exact wq_iret rfl rfl dX12_inline_22

theorem ln_RX12_289 : Cond.methodLink RX12 289 yX1_dissolve ∈ lw_good := li_4 210 (by decide +kernel) (by decide +kernel)
noncomputable def f_PR_expand (a1 : Int) (I : Mem) : Option ((Int ⊕ String) × Mem) :=
if (w32 a1) < 0 then
ltI (thrw I) fun J1 =>
some (.inr xIO, J1)
else
if (w32 a1) < 40 then
bnd (f_G_hasRule 0 a1 I) fun x4 J3 =>
if (w32 x4) = 0 then
some (.inl (-4), J3)
else
bnd (f_His_remember 0 J3) fun _ J6 =>
bnd (f_G_dissolve 0 a1 4 J6) fun x10 J9 =>
some (.inl x10, J9)
else
ltI (thrw I) fun J12 =>
some (.inr xIO, J12)
set_option maxRecDepth 20000 in
theorem R_PR_expand (Z : ZT) (a1 : Int) (I : Mem) : RX Z yX12_expand cX12_expand 2 (some .int) 6 [vr Z 0 0, vi a1] I (fun x => some (vi x)) (f_PR_expand a1 I) := by
  refine RX.of (by decide +kernel) (Nat.le_of_ble_eq_true rfl) (fun gr => ?_)
  unfold f_PR_expand
  refine WQ.loc [0, 1] (lv' := [(0, vr Z 0 0), (1, vi a1)]) rfl ?_
  refine wq_iload_n dX12_expand_0 1 rfl rfl ?_
  refine wq_if_lt 10 dX12_expand_1 (by decide) rfl (fun c14 => ?_) (fun c14 => ?_)
  · exact wq_throw thr_IO (Nat.le_of_ble_eq_true rfl) (by decide +kernel) rfl dX12_expand_10 dX12_expand_13 dX12_expand_14 dX12_expand_17
  · refine wq_iload_n dX12_expand_4 1 rfl rfl ?_
    refine wq_bipush dX12_expand_5 (by decide) ?_
    refine wq_icmp_lt 18 dX12_expand_7 (by decide) rfl rfl (fun c13 => ?_) (fun c13 => ?_)
    · refine wq_aload_n dX12_expand_18 0 rfl rfl ?_
      refine g_0_0 ln_RX12_12 dX12_expand_19 ?_
      refine wq_iload_n dX12_expand_22 1 rfl rfl ?_
      refine wq_cVi M_G_hasRule (R_G_hasRule Z 0 a1 _) (ob_1 (by decide)) rfl rfl (by decide) (by decide) (Nat.le_of_ble_eq_true rfl) ln_RX12_188 dX12_expand_23 (fun gr2 x4 J3 => ?_)
      refine wq_if_ne 32 dX12_expand_26 (by decide) rfl (fun c11 => ?_) (fun c11 => ?_)
      · refine wq_bipush dX12_expand_29 (by decide) ?_
        exact wq_iret rfl rfl dX12_expand_31
      · refine wq_aload_n dX12_expand_32 0 rfl rfl ?_
        refine g_0_7 ln_RX12_61 dX12_expand_33 ?_
        refine wq_aload_n dX12_expand_36 0 rfl rfl ?_
        refine g_0_0 ln_RX12_12 dX12_expand_37 ?_
        refine wq_cVv M_His_remember (R_His_remember Z 0 _) ob_9 rfl rfl (by decide) (by decide) (Nat.le_of_ble_eq_true rfl) ln_RX12_126 dX12_expand_40 (fun gr5 _ J6 => ?_)
        refine wq_aload_n dX12_expand_43 0 rfl rfl ?_
        refine g_0_0 ln_RX12_12 dX12_expand_44 ?_
        refine wq_iload_n dX12_expand_47 1 rfl rfl ?_
        refine wq_iconst dX12_expand_48 ?_
        refine wq_cVi M_G_dissolve (R_G_dissolve Z 0 a1 4 _) (ob_1 (by decide)) rfl rfl (by decide) (by decide) (Nat.le_of_ble_eq_true rfl) ln_RX12_289 dX12_expand_49 (fun gr8 x10 J9 => ?_)
        exact wq_iret rfl rfl dX12_expand_52
    · exact wq_throw thr_IO (Nat.le_of_ble_eq_true rfl) (by decide +kernel) rfl dX12_expand_10 dX12_expand_13 dX12_expand_14 dX12_expand_17

theorem M_G_addLetter : MwV yX1_addLetter cX1_addLetter 2 (none) 1 := ⟨li_4 222 (by decide +kernel) (by decide +kernel), li_4 220 (by decide +kernel) (by decide +kernel), li_4 221 (by decide +kernel) (by decide +kernel), li_1 2 (by decide +kernel) (by decide +kernel), by decide +kernel⟩
theorem ln_RX12_292 : Cond.methodLink RX12 292 yX1_addLetter ∈ lw_good := li_4 219 (by decide +kernel) (by decide +kernel)
noncomputable def f_PR_append (a1 : Int) (I : Mem) : Option ((Int ⊕ String) × Mem) :=
bnd (f_PR_isLetter a1 I) fun x3 J2 =>
if (w32 x3) = 0 then
ltI (thrw J2) fun J17 =>
some (.inr xIA, J17)
else
bnd (f_G_textLength 0 J2) fun x6 J5 =>
if (w32 x6) < 400 then
bnd (f_His_remember 0 J5) fun _ J8 =>
bnd (f_G_addLetter 0 a1 J8) fun _ J11 =>
bnd (f_G_textLength 0 J11) fun x15 J14 =>
some (.inl x15, J14)
else
some (.inl (-5), J5)
set_option maxRecDepth 20000 in
theorem R_PR_append (Z : ZT) (a1 : Int) (I : Mem) : RX Z yX12_append cX12_append 2 (some .int) 6 [vr Z 0 0, vi a1] I (fun x => some (vi x)) (f_PR_append a1 I) := by
  refine RX.of (by decide +kernel) (Nat.le_of_ble_eq_true rfl) (fun gr => ?_)
  unfold f_PR_append
  refine WQ.loc [0, 1] (lv' := [(0, vr Z 0 0), (1, vi a1)]) rfl ?_
  refine wq_iload_n dX12_append_0 1 rfl rfl ?_
  refine wq_cSi M_PR_isLetter (R_PR_isLetter Z a1 _) rfl rfl rfl (by decide) (by decide) (Nat.le_of_ble_eq_true rfl) ln_RX12_217 dX12_append_1 (fun gr1 x3 J2 => ?_)
  refine wq_if_ne 15 dX12_append_4 (by decide) rfl (fun c18 => ?_) (fun c18 => ?_)
  · exact wq_throw thr_IA (Nat.le_of_ble_eq_true rfl) (by decide +kernel) rfl dX12_append_7 dX12_append_10 dX12_append_11 dX12_append_14
  · refine wq_aload_n dX12_append_15 0 rfl rfl ?_
    refine g_0_0 ln_RX12_12 dX12_append_16 ?_
    refine wq_cVi M_G_textLength (R_G_textLength Z 0 _) (ob_1 (by decide)) rfl rfl (by decide) (by decide) (Nat.le_of_ble_eq_true rfl) ln_RX12_122 dX12_append_19 (fun gr4 x6 J5 => ?_)
    refine wq_sipush dX12_append_22 (by decide) ?_
    refine wq_icmp_lt 31 dX12_append_25 (by decide) rfl rfl (fun c16 => ?_) (fun c16 => ?_)
    · refine wq_aload_n dX12_append_31 0 rfl rfl ?_
      refine g_0_7 ln_RX12_61 dX12_append_32 ?_
      refine wq_aload_n dX12_append_35 0 rfl rfl ?_
      refine g_0_0 ln_RX12_12 dX12_append_36 ?_
      refine wq_cVv M_His_remember (R_His_remember Z 0 _) ob_9 rfl rfl (by decide) (by decide) (Nat.le_of_ble_eq_true rfl) ln_RX12_126 dX12_append_39 (fun gr7 _ J8 => ?_)
      refine wq_aload_n dX12_append_42 0 rfl rfl ?_
      refine g_0_0 ln_RX12_12 dX12_append_43 ?_
      refine wq_iload_n dX12_append_46 1 rfl rfl ?_
      refine wq_cVv M_G_addLetter (R_G_addLetter Z 0 a1 _) (ob_1 (by decide)) rfl rfl (by decide) (by decide) (Nat.le_of_ble_eq_true rfl) ln_RX12_292 dX12_append_47 (fun gr10 _ J11 => ?_)
      refine wq_aload_n dX12_append_50 0 rfl rfl ?_
      refine g_0_0 ln_RX12_12 dX12_append_51 ?_
      refine wq_cVi M_G_textLength (R_G_textLength Z 0 _) (ob_1 (by decide)) rfl rfl (by decide) (by decide) (Nat.le_of_ble_eq_true rfl) ln_RX12_122 dX12_append_54 (fun gr13 x15 J14 => ?_)
      exact wq_iret rfl rfl dX12_append_57
    · refine wq_bipush dX12_append_28 (by decide) ?_
      exact wq_iret rfl rfl dX12_append_30

theorem M_G_dropLetters : MwV yX1_dropLetters cX1_dropLetters 5 (none) 1 := ⟨li_4 230 (by decide +kernel) (by decide +kernel), li_4 228 (by decide +kernel) (by decide +kernel), li_4 229 (by decide +kernel) (by decide +kernel), li_1 2 (by decide +kernel) (by decide +kernel), by decide +kernel⟩
theorem ln_RX12_295 : Cond.methodLink RX12 295 yX1_dropLetters ∈ lw_good := li_4 227 (by decide +kernel) (by decide +kernel)
noncomputable def f_PR_cut (a1 : Int) (I : Mem) : Option ((Int ⊕ String) × Mem) :=
if (w32 a1) < 1 then
ltI (thrw I) fun J1 =>
some (.inr xIA, J1)
else
if 400 < (w32 a1) then
ltI (thrw I) fun J14 =>
some (.inr xIA, J14)
else
bnd (f_G_textLength 0 I) fun x4 J3 =>
if (w32 a1) < (w32 x4) then
bnd (f_His_remember 0 J3) fun _ J6 =>
bnd (f_G_dropLetters 0 a1 J6) fun _ J9 =>
some (.inl (J9 2 (43 * 0) 1), J9)
else
some (.inl (-6), J3)
set_option maxRecDepth 20000 in
theorem R_PR_cut (Z : ZT) (a1 : Int) (I : Mem) : RX Z yX12_cut cX12_cut 2 (some .int) 6 [vr Z 0 0, vi a1] I (fun x => some (vi x)) (f_PR_cut a1 I) := by
  refine RX.of (by decide +kernel) (Nat.le_of_ble_eq_true rfl) (fun gr => ?_)
  unfold f_PR_cut
  refine WQ.loc [0, 1] (lv' := [(0, vr Z 0 0), (1, vi a1)]) rfl ?_
  refine wq_iload_n dX12_cut_0 1 rfl rfl ?_
  refine wq_iconst dX12_cut_1 ?_
  refine wq_icmp_lt 12 dX12_cut_2 (by decide) rfl rfl (fun c16 => ?_) (fun c16 => ?_)
  · exact wq_throw thr_IA (Nat.le_of_ble_eq_true rfl) (by decide +kernel) rfl dX12_cut_12 dX12_cut_15 dX12_cut_16 dX12_cut_19
  · refine wq_iload_n dX12_cut_5 1 rfl rfl ?_
    refine wq_sipush dX12_cut_6 (by decide) ?_
    refine wq_icmp_le 20 dX12_cut_9 (by decide) rfl rfl (fun c15 => ?_) (fun c15 => ?_)
    · exact wq_throw thr_IA (Nat.le_of_ble_eq_true rfl) (by decide +kernel) rfl dX12_cut_12 dX12_cut_15 dX12_cut_16 dX12_cut_19
    · refine wq_iload_n dX12_cut_20 1 rfl rfl ?_
      refine wq_aload_n dX12_cut_21 0 rfl rfl ?_
      refine g_0_0 ln_RX12_12 dX12_cut_22 ?_
      refine wq_cVi M_G_textLength (R_G_textLength Z 0 _) (ob_1 (by decide)) rfl rfl (by decide) (by decide) (Nat.le_of_ble_eq_true rfl) ln_RX12_122 dX12_cut_25 (fun gr2 x4 J3 => ?_)
      refine wq_icmp_lt 34 dX12_cut_28 (by decide) rfl rfl (fun c13 => ?_) (fun c13 => ?_)
      · refine wq_aload_n dX12_cut_34 0 rfl rfl ?_
        refine g_0_7 ln_RX12_61 dX12_cut_35 ?_
        refine wq_aload_n dX12_cut_38 0 rfl rfl ?_
        refine g_0_0 ln_RX12_12 dX12_cut_39 ?_
        refine wq_cVv M_His_remember (R_His_remember Z 0 _) ob_9 rfl rfl (by decide) (by decide) (Nat.le_of_ble_eq_true rfl) ln_RX12_126 dX12_cut_42 (fun gr5 _ J6 => ?_)
        refine wq_aload_n dX12_cut_45 0 rfl rfl ?_
        refine g_0_0 ln_RX12_12 dX12_cut_46 ?_
        refine wq_iload_n dX12_cut_49 1 rfl rfl ?_
        refine wq_cVv M_G_dropLetters (R_G_dropLetters Z 0 a1 _) (ob_1 (by decide)) rfl rfl (by decide) (by decide) (Nat.le_of_ble_eq_true rfl) ln_RX12_295 dX12_cut_50 (fun gr8 _ J9 => ?_)
        refine wq_aload_n dX12_cut_53 0 rfl rfl ?_
        refine g_0_0 ln_RX12_12 dX12_cut_54 ?_
        refine wq_pV (v := vr Z 2 (43 * 0)) M_G_startRow (R_G_startRow Z 0 _ _ _ (if_pos (by decide))) (ob_1 (by decide)) rfl rfl (by decide) (by decide) (Nat.le_of_ble_eq_true rfl) ln_RX12_138 dX12_cut_57 (fun gr11 => ?_)
        refine wq_pV (v := vi (J9 2 (43 * 0) 1)) M_Row_many (R_Row_many Z (43 * 0) _ _ _ (if_pos (by omega))) (ob_2 (by omega)) rfl rfl (by decide) (by decide) (Nat.le_of_ble_eq_true rfl) ln_RX12_142 dX12_cut_60 (fun gr12 => ?_)
        exact wq_iret rfl rfl dX12_cut_63
      · refine wq_bipush dX12_cut_31 (by decide) ?_
        exact wq_iret rfl rfl dX12_cut_33

theorem M_PR_lowest : MwS yX12_lowest cX12_lowest 1 (some .int) 1 := ⟨li_5 79 (by decide +kernel) (by decide +kernel), li_5 78 (by decide +kernel) (by decide +kernel), li_1 1 (by decide +kernel) (by decide +kernel), by decide +kernel⟩
theorem M_PR_highest : MwS yX12_highest cX12_highest 1 (some .int) 1 := ⟨li_5 82 (by decide +kernel) (by decide +kernel), li_5 81 (by decide +kernel) (by decide +kernel), li_1 1 (by decide +kernel) (by decide +kernel), by decide +kernel⟩
theorem ln_RX12_304 : Cond.methodLink RX12 304 yX1_putNumber ∈ lw_good := li_4 237 (by decide +kernel) (by decide +kernel)
theorem ln_RX12_301 : Cond.methodLink RX12 301 yX12_highest ∈ lw_good := li_5 80 (by decide +kernel) (by decide +kernel)
theorem ln_RX12_298 : Cond.methodLink RX12 298 yX12_lowest ∈ lw_good := li_5 77 (by decide +kernel) (by decide +kernel)
noncomputable def f_PR_set (a1 : Int) (a2 : Int) (I : Mem) : Option ((Int ⊕ String) × Mem) :=
if (w32 a1) < 4 then
ltI (thrw I) fun J1 =>
some (.inr xIA, J1)
else
if 6 < (w32 a1) then
ltI (thrw I) fun J21 =>
some (.inr xIA, J21)
else
bnd (f_PR_lowest a1 I) fun x4 J3 =>
if (w32 a2) < (w32 x4) then
ltI (thrw J3) fun J5 =>
some (.inr xIA, J5)
else
bnd (f_PR_highest a1 J3) fun x8 J7 =>
if (w32 x8) < (w32 a2) then
ltI (thrw J7) fun J18 =>
some (.inr xIA, J18)
else
bnd (f_His_remember 0 J7) fun _ J10 =>
bnd (f_G_number 0 a1 J10) fun x14 J13 =>
bnd (f_G_putNumber 0 a1 a2 J13) fun _ J16 =>
some (.inl x14, J16)
set_option maxRecDepth 20000 in
theorem R_PR_set (Z : ZT) (a1 : Int) (a2 : Int) (I : Mem) : RX Z yX12_set cX12_set 4 (some .int) 6 [vr Z 0 0, vi a1, vi a2] I (fun x => some (vi x)) (f_PR_set a1 a2 I) := by
  refine RX.of (by decide +kernel) (Nat.le_of_ble_eq_true rfl) (fun gr => ?_)
  unfold f_PR_set
  refine WQ.loc [0, 1, 2] (lv' := [(0, vr Z 0 0), (1, vi a1), (2, vi a2)]) rfl ?_
  refine wq_iload_n dX12_set_0 1 rfl rfl ?_
  refine wq_iconst dX12_set_1 ?_
  refine wq_icmp_lt 11 dX12_set_2 (by decide) rfl rfl (fun c23 => ?_) (fun c23 => ?_)
  · exact wq_throw thr_IA (Nat.le_of_ble_eq_true rfl) (by decide +kernel) rfl dX12_set_11 dX12_set_14 dX12_set_15 dX12_set_18
  · refine wq_iload_n dX12_set_5 1 rfl rfl ?_
    refine wq_bipush dX12_set_6 (by decide) ?_
    refine wq_icmp_le 19 dX12_set_8 (by decide) rfl rfl (fun c22 => ?_) (fun c22 => ?_)
    · exact wq_throw thr_IA (Nat.le_of_ble_eq_true rfl) (by decide +kernel) rfl dX12_set_11 dX12_set_14 dX12_set_15 dX12_set_18
    · refine wq_iload_n dX12_set_19 2 rfl rfl ?_
      refine wq_iload_n dX12_set_20 1 rfl rfl ?_
      refine wq_cSi M_PR_lowest (R_PR_lowest Z a1 _) rfl rfl rfl (by decide) (by decide) (Nat.le_of_ble_eq_true rfl) ln_RX12_298 dX12_set_21 (fun gr2 x4 J3 => ?_)
      refine wq_icmp_lt 35 dX12_set_24 (by decide) rfl rfl (fun c20 => ?_) (fun c20 => ?_)
      · exact wq_throw thr_IA (Nat.le_of_ble_eq_true rfl) (by decide +kernel) rfl dX12_set_35 dX12_set_38 dX12_set_39 dX12_set_42
      · refine wq_iload_n dX12_set_27 2 rfl rfl ?_
        refine wq_iload_n dX12_set_28 1 rfl rfl ?_
        refine wq_cSi M_PR_highest (R_PR_highest Z a1 _) rfl rfl rfl (by decide) (by decide) (Nat.le_of_ble_eq_true rfl) ln_RX12_301 dX12_set_29 (fun gr6 x8 J7 => ?_)
        refine wq_icmp_le 43 dX12_set_32 (by decide) rfl rfl (fun c19 => ?_) (fun c19 => ?_)
        · exact wq_throw thr_IA (Nat.le_of_ble_eq_true rfl) (by decide +kernel) rfl dX12_set_35 dX12_set_38 dX12_set_39 dX12_set_42
        · refine wq_aload_n dX12_set_43 0 rfl rfl ?_
          refine g_0_7 ln_RX12_61 dX12_set_44 ?_
          refine wq_aload_n dX12_set_47 0 rfl rfl ?_
          refine g_0_0 ln_RX12_12 dX12_set_48 ?_
          refine wq_cVv M_His_remember (R_His_remember Z 0 _) ob_9 rfl rfl (by decide) (by decide) (Nat.le_of_ble_eq_true rfl) ln_RX12_126 dX12_set_51 (fun gr9 _ J10 => ?_)
          refine wq_aload_n dX12_set_54 0 rfl rfl ?_
          refine g_0_0 ln_RX12_12 dX12_set_55 ?_
          refine wq_iload_n dX12_set_58 1 rfl rfl ?_
          refine wq_cVi M_G_number (R_G_number Z 0 a1 _) (ob_1 (by decide)) rfl rfl (by decide) (by decide) (Nat.le_of_ble_eq_true rfl) ln_RX12_151 dX12_set_59 (fun gr12 x14 J13 => ?_)
          refine wq_istore_n (lv' := [(3, vi x14), (0, vr Z 0 0), (1, vi a1), (2, vi a2)]) dX12_set_62 rfl (by decide) rfl ?_
          refine wq_aload_n dX12_set_63 1 rfl rfl ?_
          refine g_0_0 ln_RX12_12 dX12_set_64 ?_
          refine wq_iload_n dX12_set_67 2 rfl rfl ?_
          refine wq_iload_n dX12_set_68 3 rfl rfl ?_
          refine wq_cVv M_G_putNumber (R_G_putNumber Z 0 a1 a2 _) (ob_1 (by decide)) rfl rfl (by decide) (by decide) (Nat.le_of_ble_eq_true rfl) ln_RX12_304 dX12_set_69 (fun gr15 _ J16 => ?_)
          refine wq_iload_n dX12_set_72 0 rfl rfl ?_
          exact wq_iret rfl rfl dX12_set_73

theorem M_His_goBack : MwV yX2_goBack cX2_goBack 2 (none) 1 := ⟨li_6 218 (by decide +kernel) (by decide +kernel), li_6 216 (by decide +kernel) (by decide +kernel), li_6 217 (by decide +kernel) (by decide +kernel), li_1 12 (by decide +kernel) (by decide +kernel), by decide +kernel⟩
theorem ln_RX12_316 : Cond.methodLink RX12 316 yX2_goBack ∈ lw_good := li_6 215 (by decide +kernel) (by decide +kernel)
noncomputable def f_PR_undo  (I : Mem) : Option ((Int ⊕ String) × Mem) :=
if (w32 (I 9 0 4)) = 0 then
ltI (thrw I) fun J6 =>
some (.inr xNS, J6)
else
bnd (f_His_goBack 0 I) fun _ J3 =>
some (.inl (J3 9 0 4), J3)
set_option maxRecDepth 20000 in
theorem R_PR_undo (Z : ZT)  (I : Mem) : RX Z yX12_undo cX12_undo 1 (some .int) 6 [vr Z 0 0] I (fun x => some (vi x)) (f_PR_undo I) := by
  refine RX.of (by decide +kernel) (Nat.le_of_ble_eq_true rfl) (fun gr => ?_)
  unfold f_PR_undo
  refine WQ.loc [0] (lv' := [(0, vr Z 0 0)]) rfl ?_
  refine wq_aload_n dX12_undo_0 0 rfl rfl ?_
  refine g_0_7 ln_RX12_61 dX12_undo_1 ?_
  refine wq_pV (v := vi (I 9 0 4)) M_His_manyPast (R_His_manyPast Z  _ _ _ rfl) ob_9 rfl rfl (by decide) (by decide) (Nat.le_of_ble_eq_true rfl) ln_RX12_179 dX12_undo_4 (fun gr1 => ?_)
  refine wq_if_ne 18 dX12_undo_7 (by decide) rfl (fun c7 => ?_) (fun c7 => ?_)
  · exact wq_throw thr_NS (Nat.le_of_ble_eq_true rfl) (by decide +kernel) rfl dX12_undo_10 dX12_undo_13 dX12_undo_14 dX12_undo_17
  · refine wq_aload_n dX12_undo_18 0 rfl rfl ?_
    refine g_0_7 ln_RX12_61 dX12_undo_19 ?_
    refine wq_aload_n dX12_undo_22 0 rfl rfl ?_
    refine g_0_0 ln_RX12_12 dX12_undo_23 ?_
    refine wq_cVv M_His_goBack (R_His_goBack Z 0 _) ob_9 rfl rfl (by decide) (by decide) (Nat.le_of_ble_eq_true rfl) ln_RX12_316 dX12_undo_26 (fun gr2 _ J3 => ?_)
    refine wq_aload_n dX12_undo_29 0 rfl rfl ?_
    refine g_0_7 ln_RX12_61 dX12_undo_30 ?_
    refine wq_pV (v := vi (J3 9 0 4)) M_His_manyPast (R_His_manyPast Z  _ _ _ rfl) ob_9 rfl rfl (by decide) (by decide) (Nat.le_of_ble_eq_true rfl) ln_RX12_179 dX12_undo_33 (fun gr5 => ?_)
    exact wq_iret rfl rfl dX12_undo_36

theorem M_His_keep : MwV yX2_keep cX2_keep 3 (none) 2 := ⟨li_6 229 (by decide +kernel) (by decide +kernel), li_6 227 (by decide +kernel) (by decide +kernel), li_6 228 (by decide +kernel) (by decide +kernel), li_1 12 (by decide +kernel) (by decide +kernel), by decide +kernel⟩
theorem ln_RX12_319 : Cond.methodLink RX12 319 yX2_keep ∈ lw_good := li_6 226 (by decide +kernel) (by decide +kernel)
noncomputable def f_PR_save (a1 : Int) (I : Mem) : Option ((Int ⊕ String) × Mem) :=
if (w32 a1) < 0 then
ltI (thrw I) fun J1 =>
some (.inr xIA, J1)
else
if (w32 a1) < 2 then
bnd (f_His_keep a1 0 I) fun _ J3 =>
bnd (f_G_totalSize 0 J3) fun x7 J6 =>
some (.inl x7, J6)
else
ltI (thrw I) fun J8 =>
some (.inr xIA, J8)
set_option maxRecDepth 20000 in
theorem R_PR_save (Z : ZT) (a1 : Int) (I : Mem) : RX Z yX12_save cX12_save 2 (some .int) 6 [vr Z 0 0, vi a1] I (fun x => some (vi x)) (f_PR_save a1 I) := by
  refine RX.of (by decide +kernel) (Nat.le_of_ble_eq_true rfl) (fun gr => ?_)
  unfold f_PR_save
  refine WQ.loc [0, 1] (lv' := [(0, vr Z 0 0), (1, vi a1)]) rfl ?_
  refine wq_iload_n dX12_save_0 1 rfl rfl ?_
  refine wq_if_lt 9 dX12_save_1 (by decide) rfl (fun c10 => ?_) (fun c10 => ?_)
  · exact wq_throw thr_IA (Nat.le_of_ble_eq_true rfl) (by decide +kernel) rfl dX12_save_9 dX12_save_12 dX12_save_13 dX12_save_16
  · refine wq_iload_n dX12_save_4 1 rfl rfl ?_
    refine wq_iconst dX12_save_5 ?_
    refine wq_icmp_lt 17 dX12_save_6 (by decide) rfl rfl (fun c9 => ?_) (fun c9 => ?_)
    · refine wq_aload_n dX12_save_17 0 rfl rfl ?_
      refine g_0_7 ln_RX12_61 dX12_save_18 ?_
      refine wq_iload_n dX12_save_21 1 rfl rfl ?_
      refine wq_aload_n dX12_save_22 0 rfl rfl ?_
      refine g_0_0 ln_RX12_12 dX12_save_23 ?_
      refine wq_cVv M_His_keep (R_His_keep Z a1 0 _) ob_9 rfl rfl (by decide) (by decide) (Nat.le_of_ble_eq_true rfl) ln_RX12_319 dX12_save_26 (fun gr2 _ J3 => ?_)
      refine wq_aload_n dX12_save_29 0 rfl rfl ?_
      refine g_0_0 ln_RX12_12 dX12_save_30 ?_
      refine wq_cVi M_G_totalSize (R_G_totalSize Z 0 _) (ob_1 (by decide)) rfl rfl (by decide) (by decide) (Nat.le_of_ble_eq_true rfl) ln_RX12_148 dX12_save_33 (fun gr5 x7 J6 => ?_)
      exact wq_iret rfl rfl dX12_save_36
    · exact wq_throw thr_IA (Nat.le_of_ble_eq_true rfl) (by decide +kernel) rfl dX12_save_9 dX12_save_12 dX12_save_13 dX12_save_16

theorem M_His_bringBack : MwV yX2_bringBack cX2_bringBack 3 (none) 2 := ⟨li_7 4 (by decide +kernel) (by decide +kernel), li_7 2 (by decide +kernel) (by decide +kernel), li_7 3 (by decide +kernel) (by decide +kernel), li_1 12 (by decide +kernel) (by decide +kernel), by decide +kernel⟩
theorem M_His_forgetPast : MwV yX2_forgetPast cX2_forgetPast 1 (none) 0 := ⟨li_3 171 (by decide +kernel) (by decide +kernel), li_3 169 (by decide +kernel) (by decide +kernel), li_3 170 (by decide +kernel) (by decide +kernel), li_1 12 (by decide +kernel) (by decide +kernel), by decide +kernel⟩
theorem ln_RX12_116 : Cond.methodLink RX12 116 yX2_forgetPast ∈ lw_good := li_3 168 (by decide +kernel) (by decide +kernel)
theorem ln_RX12_326 : Cond.methodLink RX12 326 yX2_bringBack ∈ lw_good := li_7 1 (by decide +kernel) (by decide +kernel)
theorem ln_RX12_323 : Cond.methodLink RX12 323 yX2_hasKept ∈ lw_good := li_6 237 (by decide +kernel) (by decide +kernel)
noncomputable def f_PR_restore (a1 : Int) (I : Mem) : Option ((Int ⊕ String) × Mem) :=
if (w32 a1) < 0 then
ltI (thrw I) fun J1 =>
some (.inr xIA, J1)
else
if (w32 a1) < 2 then
bnd (f_His_hasKept a1 I) fun x4 J3 =>
if (w32 x4) = 0 then
ltI (thrw J3) fun J14 =>
some (.inr xNS, J14)
else
bnd (f_His_bringBack a1 0 J3) fun _ J6 =>
bnd (f_His_forgetPast J6) fun _ J9 =>
bnd (f_G_totalSize 0 J9) fun x13 J12 =>
some (.inl x13, J12)
else
ltI (thrw I) fun J16 =>
some (.inr xIA, J16)
set_option maxRecDepth 20000 in
theorem R_PR_restore (Z : ZT) (a1 : Int) (I : Mem) : RX Z yX12_restore cX12_restore 2 (some .int) 6 [vr Z 0 0, vi a1] I (fun x => some (vi x)) (f_PR_restore a1 I) := by
  refine RX.of (by decide +kernel) (Nat.le_of_ble_eq_true rfl) (fun gr => ?_)
  unfold f_PR_restore
  refine WQ.loc [0, 1] (lv' := [(0, vr Z 0 0), (1, vi a1)]) rfl ?_
  refine wq_iload_n dX12_restore_0 1 rfl rfl ?_
  refine wq_if_lt 9 dX12_restore_1 (by decide) rfl (fun c18 => ?_) (fun c18 => ?_)
  · exact wq_throw thr_IA (Nat.le_of_ble_eq_true rfl) (by decide +kernel) rfl dX12_restore_9 dX12_restore_12 dX12_restore_13 dX12_restore_16
  · refine wq_iload_n dX12_restore_4 1 rfl rfl ?_
    refine wq_iconst dX12_restore_5 ?_
    refine wq_icmp_lt 17 dX12_restore_6 (by decide) rfl rfl (fun c17 => ?_) (fun c17 => ?_)
    · refine wq_aload_n dX12_restore_17 0 rfl rfl ?_
      refine g_0_7 ln_RX12_61 dX12_restore_18 ?_
      refine wq_iload_n dX12_restore_21 1 rfl rfl ?_
      refine wq_cVi M_His_hasKept (R_His_hasKept Z a1 _) ob_9 rfl rfl (by decide) (by decide) (Nat.le_of_ble_eq_true rfl) ln_RX12_323 dX12_restore_22 (fun gr2 x4 J3 => ?_)
      refine wq_if_ne 36 dX12_restore_25 (by decide) rfl (fun c15 => ?_) (fun c15 => ?_)
      · exact wq_throw thr_NS (Nat.le_of_ble_eq_true rfl) (by decide +kernel) rfl dX12_restore_28 dX12_restore_31 dX12_restore_32 dX12_restore_35
      · refine wq_aload_n dX12_restore_36 0 rfl rfl ?_
        refine g_0_7 ln_RX12_61 dX12_restore_37 ?_
        refine wq_iload_n dX12_restore_40 1 rfl rfl ?_
        refine wq_aload_n dX12_restore_41 0 rfl rfl ?_
        refine g_0_0 ln_RX12_12 dX12_restore_42 ?_
        refine wq_cVv M_His_bringBack (R_His_bringBack Z a1 0 _) ob_9 rfl rfl (by decide) (by decide) (Nat.le_of_ble_eq_true rfl) ln_RX12_326 dX12_restore_45 (fun gr5 _ J6 => ?_)
        refine wq_aload_n dX12_restore_48 0 rfl rfl ?_
        refine g_0_7 ln_RX12_61 dX12_restore_49 ?_
        refine wq_cVv M_His_forgetPast (R_His_forgetPast Z _) ob_9 rfl rfl (by decide) (by decide) (Nat.le_of_ble_eq_true rfl) ln_RX12_116 dX12_restore_52 (fun gr8 _ J9 => ?_)
        refine wq_aload_n dX12_restore_55 0 rfl rfl ?_
        refine g_0_0 ln_RX12_12 dX12_restore_56 ?_
        refine wq_cVi M_G_totalSize (R_G_totalSize Z 0 _) (ob_1 (by decide)) rfl rfl (by decide) (by decide) (Nat.le_of_ble_eq_true rfl) ln_RX12_148 dX12_restore_59 (fun gr11 x13 J12 => ?_)
        exact wq_iret rfl rfl dX12_restore_62
    · exact wq_throw thr_IA (Nat.le_of_ble_eq_true rfl) (by decide +kernel) rfl dX12_restore_9 dX12_restore_12 dX12_restore_13 dX12_restore_16

theorem M_G_hasSymbol : MwV yX1_hasSymbol cX1_hasSymbol 2 (some .boolean) 1 := ⟨li_4 190 (by decide +kernel) (by decide +kernel), li_4 188 (by decide +kernel) (by decide +kernel), li_4 189 (by decide +kernel) (by decide +kernel), li_1 2 (by decide +kernel) (by decide +kernel), by decide +kernel⟩
theorem ln_RX12_339 : Cond.methodLink RX12 339 yX1_lowestFree ∈ lw_good := li_4 203 (by decide +kernel) (by decide +kernel)
theorem ln_RX12_336 : Cond.methodLink RX12 336 yX1_hasSymbol ∈ lw_good := li_4 187 (by decide +kernel) (by decide +kernel)
noncomputable def f_PR_refusalOfMake (a1 : Int) (a2 : Int) (I : Mem) : Option ((Int) × Mem) :=
bnd (f_G_hasSymbol 0 a1 I) fun x3 J2 =>
if (w32 x3) = 0 then
some ((-7), J2)
else
bnd (f_G_hasSymbol 0 a2 J2) fun x6 J5 =>
if (w32 x6) = 0 then
some ((-7), J5)
else
bnd (f_PT_readFrom 0 J5) fun _ J9 =>
bnd (f_PT_pairOf a1 a2 J9) fun x13 J12 =>
bnd (f_PT_countOf x13 J12) fun x16 J15 =>
if (w32 x16) = 0 then
some ((-2), J15)
else
bnd (f_PT_keptOf x13 J15) fun x19 J18 =>
if (w32 x19) = (-1) then
bnd (f_G_lowestFree 0 J18) fun x22 J21 =>
if (w32 x22) = (-1) then
some ((-3), J21)
else
some (0, J21)
else
some (0, J18)
set_option maxRecDepth 20000 in
theorem R_PR_refusalOfMake (Z : ZT) (a1 : Int) (a2 : Int) (I : Mem) (r : Int) (J : Mem) (hf : f_PR_refusalOfMake a1 a2 I = some (r, J)) : Runs Z yX12_refusalOfMake cX12_refusalOfMake 5 (some .int) 5 [vr Z 0 0, vi a1, vi a2] I (some (vi r), J) := by
  refine Runs.of (rv := fun x => some (vi x)) (by decide +kernel) (Nat.le_of_ble_eq_true rfl) hf (fun gr => ?_)
  unfold f_PR_refusalOfMake
  refine WQ.loc [0, 1, 2] (lv' := [(0, vr Z 0 0), (1, vi a1), (2, vi a2)]) rfl ?_
  refine wq_aload_n dX12_refusalOfMake_0 0 rfl rfl ?_
  refine g_0_0 ln_RX12_12 dX12_refusalOfMake_1 ?_
  refine wq_iload_n dX12_refusalOfMake_4 1 rfl rfl ?_
  refine wq_cVi M_G_hasSymbol (R_G_hasSymbol Z 0 a1 _) (ob_1 (by decide)) rfl rfl (by decide) (by decide) (Nat.le_of_ble_eq_true rfl) ln_RX12_336 dX12_refusalOfMake_5 (fun gr1 x3 J2 => ?_)
  refine wq_if_eq 22 dX12_refusalOfMake_8 (by decide) rfl (fun c27 => ?_) (fun c27 => ?_)
  · refine wq_bipush dX12_refusalOfMake_22 (by decide) ?_
    exact wq_iret rfl rfl dX12_refusalOfMake_24
  · refine wq_aload_n dX12_refusalOfMake_11 0 rfl rfl ?_
    refine g_0_0 ln_RX12_12 dX12_refusalOfMake_12 ?_
    refine wq_iload_n dX12_refusalOfMake_15 2 rfl rfl ?_
    refine wq_cVi M_G_hasSymbol (R_G_hasSymbol Z 0 a2 _) (ob_1 (by decide)) rfl rfl (by decide) (by decide) (Nat.le_of_ble_eq_true rfl) ln_RX12_336 dX12_refusalOfMake_16 (fun gr4 x6 J5 => ?_)
    refine wq_if_ne 25 dX12_refusalOfMake_19 (by decide) rfl (fun c26 => ?_) (fun c26 => ?_)
    · refine wq_bipush dX12_refusalOfMake_22 (by decide) ?_
      exact wq_iret rfl rfl dX12_refusalOfMake_24
    · refine wq_aload_n dX12_refusalOfMake_25 0 rfl rfl ?_
      refine g_0_2 ln_RX12_22 dX12_refusalOfMake_26 ?_
      refine wq_pV (v := vr Z 4 0) M_Stp_pairs (R_Stp_pairs Z  _ _ _ rfl) ob_3 rfl rfl (by decide) (by decide) (Nat.le_of_ble_eq_true rfl) ln_RX12_167 dX12_refusalOfMake_29 (fun gr7 => ?_)
      refine wq_astore_n (lv' := [(3, vr Z 4 0), (0, vr Z 0 0), (1, vi a1), (2, vi a2)]) dX12_refusalOfMake_32 rfl (by decide) rfl ?_
      refine wq_aload_n dX12_refusalOfMake_33 0 rfl rfl ?_
      refine wq_aload_n dX12_refusalOfMake_34 1 rfl rfl ?_
      refine g_0_0 ln_RX12_12 dX12_refusalOfMake_35 ?_
      refine wq_cVv M_PT_readFrom (R_PT_readFrom Z 0 _) ob_4 rfl rfl (by decide) (by decide) (Nat.le_of_ble_eq_true rfl) ln_RX12_171 dX12_refusalOfMake_38 (fun gr8 _ J9 => ?_)
      refine wq_aload_n dX12_refusalOfMake_41 0 rfl rfl ?_
      refine wq_iload_n dX12_refusalOfMake_42 2 rfl rfl ?_
      refine wq_iload_n dX12_refusalOfMake_43 3 rfl rfl ?_
      refine wq_cVi M_PT_pairOf (R_PT_pairOf Z a1 a2 _) ob_4 rfl rfl (by decide) (by decide) (Nat.le_of_ble_eq_true rfl) ln_RX12_246 dX12_refusalOfMake_44 (fun gr11 x13 J12 => ?_)
      refine wq_istore (lv' := [(4, vi x13), (3, vr Z 4 0), (0, vr Z 0 0), (1, vi a1), (2, vi a2)]) dX12_refusalOfMake_47 (by decide) rfl ?_
      refine wq_aload_n dX12_refusalOfMake_49 1 rfl rfl ?_
      refine wq_iload dX12_refusalOfMake_50 0 rfl ?_
      refine wq_cVi M_PT_countOf (R_PT_countOf Z x13 _) ob_4 rfl rfl (by decide) (by decide) (Nat.le_of_ble_eq_true rfl) ln_RX12_250 dX12_refusalOfMake_52 (fun gr14 x16 J15 => ?_)
      refine wq_if_ne 61 dX12_refusalOfMake_55 (by decide) rfl (fun c25 => ?_) (fun c25 => ?_)
      · refine wq_bipush dX12_refusalOfMake_58 (by decide) ?_
        exact wq_iret rfl rfl dX12_refusalOfMake_60
      · refine wq_aload_n dX12_refusalOfMake_61 1 rfl rfl ?_
        refine wq_iload dX12_refusalOfMake_62 0 rfl ?_
        refine wq_cVi M_PT_keptOf (R_PT_keptOf Z x13 _) ob_4 rfl rfl (by decide) (by decide) (Nat.le_of_ble_eq_true rfl) ln_RX12_262 dX12_refusalOfMake_64 (fun gr17 x19 J18 => ?_)
        refine wq_iconst dX12_refusalOfMake_67 ?_
        refine wq_icmp_ne 87 dX12_refusalOfMake_68 (by decide) rfl rfl (fun c24 => ?_) (fun c24 => ?_)
        · refine wq_aload_n dX12_refusalOfMake_71 2 rfl rfl ?_
          refine g_0_0 ln_RX12_12 dX12_refusalOfMake_72 ?_
          refine wq_cVi M_G_lowestFree (R_G_lowestFree Z 0 _) (ob_1 (by decide)) rfl rfl (by decide) (by decide) (Nat.le_of_ble_eq_true rfl) ln_RX12_339 dX12_refusalOfMake_75 (fun gr20 x22 J21 => ?_)
          refine wq_iconst dX12_refusalOfMake_78 ?_
          refine wq_icmp_ne 87 dX12_refusalOfMake_79 (by decide) rfl rfl (fun c23 => ?_) (fun c23 => ?_)
          · refine wq_bipush dX12_refusalOfMake_82 (by decide) ?_
            refine wq_goto 88 dX12_refusalOfMake_84 (by decide) ?_
            exact wq_iret rfl rfl dX12_refusalOfMake_88
          · refine wq_iconst dX12_refusalOfMake_87 ?_
            exact wq_iret rfl rfl dX12_refusalOfMake_88
        · refine wq_iconst dX12_refusalOfMake_87 ?_
          exact wq_iret rfl rfl dX12_refusalOfMake_88

theorem M_PR_refusalOfMake : MwV yX12_refusalOfMake cX12_refusalOfMake 5 (some .int) 2 := ⟨li_4 186 (by decide +kernel) (by decide +kernel), li_4 185 (by decide +kernel) (by decide +kernel), lw_in 36 (by decide +kernel) (by decide +kernel), li_1 1 (by decide +kernel) (by decide +kernel), by decide +kernel⟩
theorem M_G_join : MwV yX1_join cX1_join 7 (some .int) 2 := ⟨li_4 115 (by decide +kernel) (by decide +kernel), li_4 113 (by decide +kernel) (by decide +kernel), li_4 114 (by decide +kernel) (by decide +kernel), li_1 2 (by decide +kernel) (by decide +kernel), by decide +kernel⟩
theorem ln_RX12_286 : Cond.methodLink RX12 286 yX1_join ∈ lw_good := li_4 204 (by decide +kernel) (by decide +kernel)
theorem ln_RX12_283 : Cond.methodLink RX12 283 yX12_refusalOfMake ∈ lw_good := li_4 183 (by decide +kernel) (by decide +kernel)
noncomputable def f_PR_doMake (a1 : Int) (a2 : Int) (I : Mem) : Option ((Int) × Mem) :=
bnd (f_PR_refusalOfMake a1 a2 I) fun x3 J2 =>
if (w32 x3) < 0 then
some (0, J2)
else
bnd (f_G_join 0 a1 a2 J2) fun x6 J5 =>
some (1, J5)
set_option maxRecDepth 20000 in
theorem R_PR_doMake (Z : ZT) (a1 : Int) (a2 : Int) (I : Mem) (r : Int) (J : Mem) (hf : f_PR_doMake a1 a2 I = some (r, J)) : Runs Z yX12_doMake cX12_doMake 3 (some .boolean) 6 [vr Z 0 0, vi a1, vi a2] I (some (vi r), J) := by
  refine Runs.of (rv := fun x => some (vi x)) (by decide +kernel) (Nat.le_of_ble_eq_true rfl) hf (fun gr => ?_)
  unfold f_PR_doMake
  refine WQ.loc [0, 1, 2] (lv' := [(0, vr Z 0 0), (1, vi a1), (2, vi a2)]) rfl ?_
  refine wq_aload_n dX12_doMake_0 0 rfl rfl ?_
  refine wq_iload_n dX12_doMake_1 1 rfl rfl ?_
  refine wq_iload_n dX12_doMake_2 2 rfl rfl ?_
  refine wq_cVi M_PR_refusalOfMake (R_PR_refusalOfMake Z a1 a2 _) ob_0 rfl rfl (by decide) (by decide) (Nat.le_of_ble_eq_true rfl) ln_RX12_283 dX12_doMake_3 (fun gr1 x3 J2 => ?_)
  refine wq_if_ge 11 dX12_doMake_6 (by decide) rfl (fun c7 => ?_) (fun c7 => ?_)
  · refine wq_iconst dX12_doMake_9 ?_
    exact wq_zret rfl (by decide) rfl dX12_doMake_10
  · refine wq_aload_n dX12_doMake_11 0 rfl rfl ?_
    refine g_0_0 ln_RX12_12 dX12_doMake_12 ?_
    refine wq_iload_n dX12_doMake_15 1 rfl rfl ?_
    refine wq_iload_n dX12_doMake_16 2 rfl rfl ?_
    refine wq_cVi M_G_join (R_G_join Z 0 a1 a2 _) (ob_1 (by decide)) rfl rfl (by decide) (by decide) (Nat.le_of_ble_eq_true rfl) ln_RX12_286 dX12_doMake_17 (fun gr4 x6 J5 => ?_)
    refine wq_pop dX12_doMake_20 rfl ?_
    refine wq_iconst dX12_doMake_21 ?_
    exact wq_zret rfl (by decide) rfl dX12_doMake_22

noncomputable def f_PR_doExpand (a1 : Int) (I : Mem) : Option ((Int) × Mem) :=
bnd (f_G_hasRule 0 a1 I) fun x3 J2 =>
if (w32 x3) = 0 then
some (0, J2)
else
bnd (f_G_dissolve 0 a1 4 J2) fun x6 J5 =>
some (1, J5)
set_option maxRecDepth 20000 in
theorem R_PR_doExpand (Z : ZT) (a1 : Int) (I : Mem) (r : Int) (J : Mem) (hf : f_PR_doExpand a1 I = some (r, J)) : Runs Z yX12_doExpand cX12_doExpand 2 (some .boolean) 4 [vr Z 0 0, vi a1] I (some (vi r), J) := by
  refine Runs.of (rv := fun x => some (vi x)) (by decide +kernel) (Nat.le_of_ble_eq_true rfl) hf (fun gr => ?_)
  unfold f_PR_doExpand
  refine WQ.loc [0, 1] (lv' := [(0, vr Z 0 0), (1, vi a1)]) rfl ?_
  refine wq_aload_n dX12_doExpand_0 0 rfl rfl ?_
  refine g_0_0 ln_RX12_12 dX12_doExpand_1 ?_
  refine wq_iload_n dX12_doExpand_4 1 rfl rfl ?_
  refine wq_cVi M_G_hasRule (R_G_hasRule Z 0 a1 _) (ob_1 (by decide)) rfl rfl (by decide) (by decide) (Nat.le_of_ble_eq_true rfl) ln_RX12_188 dX12_doExpand_5 (fun gr1 x3 J2 => ?_)
  refine wq_if_ne 13 dX12_doExpand_8 (by decide) rfl (fun c7 => ?_) (fun c7 => ?_)
  · refine wq_iconst dX12_doExpand_11 ?_
    exact wq_zret rfl (by decide) rfl dX12_doExpand_12
  · refine wq_aload_n dX12_doExpand_13 0 rfl rfl ?_
    refine g_0_0 ln_RX12_12 dX12_doExpand_14 ?_
    refine wq_iload_n dX12_doExpand_17 1 rfl rfl ?_
    refine wq_iconst dX12_doExpand_18 ?_
    refine wq_cVi M_G_dissolve (R_G_dissolve Z 0 a1 4 _) (ob_1 (by decide)) rfl rfl (by decide) (by decide) (Nat.le_of_ble_eq_true rfl) ln_RX12_289 dX12_doExpand_19 (fun gr4 x6 J5 => ?_)
    refine wq_pop dX12_doExpand_22 rfl ?_
    refine wq_iconst dX12_doExpand_23 ?_
    exact wq_zret rfl (by decide) rfl dX12_doExpand_24

theorem ln_RX12_54 : Cond.fieldLink RX12 54 RX12 "script" "LPairRules$Script;" ∈ lw_good := li_2 106 (by decide +kernel) (by decide +kernel)
theorem M_Scr_manyLetters : MwV yX6_manyLetters cX6_manyLetters 2 (some .int) 1 := ⟨li_4 218 (by decide +kernel) (by decide +kernel), li_4 216 (by decide +kernel) (by decide +kernel), li_4 217 (by decide +kernel) (by decide +kernel), li_1 9 (by decide +kernel) (by decide +kernel), by decide +kernel⟩
theorem M_Scr_letter : MwV yX6_letter cX6_letter 3 (some .int) 2 := ⟨li_4 177 (by decide +kernel) (by decide +kernel), li_4 175 (by decide +kernel) (by decide +kernel), li_4 176 (by decide +kernel) (by decide +kernel), li_1 9 (by decide +kernel) (by decide +kernel), by decide +kernel⟩
theorem ln_RX12_358 : Cond.methodLink RX12 358 yX6_letter ∈ lw_good := li_4 174 (by decide +kernel) (by decide +kernel)
theorem ln_RX12_374 : Cond.methodLink RX12 374 yX6_manyLetters ∈ lw_good := li_4 215 (by decide +kernel) (by decide +kernel)
noncomputable def f_PR_doAppend_w2 (v1 : Int) (s : Int) (I : Mem) : Option (((Int) ⊕ (Int)) × Mem) :=
bnd (f_Scr_manyLetters v1 I) fun x3 J2 =>
if (w32 s) < (w32 x3) then
bnd (f_G_textLength 0 J2) fun x6 J5 =>
if (w32 x6) < 400 then
bnd (f_Scr_letter v1 s J5) fun x9 J8 =>
bnd (f_G_addLetter 0 x9 J8) fun _ J11 =>
some (.inl (s + 1), J11)
else
some (.inr (0), J5)
else
some (.inr (1), J2)

noncomputable def f_PR_doAppend (a1 : Int) (I : Mem) : Option ((Int) × Mem) :=
whl (f_PR_doAppend_w2 a1) 0 I
set_option maxRecDepth 20000 in
theorem R_PR_doAppend (Z : ZT) (a1 : Int) (I : Mem) (r : Int) (J : Mem) (hf : f_PR_doAppend a1 I = some (r, J)) : Runs Z yX12_doAppend cX12_doAppend 3 (some .boolean) 4 [vr Z 0 0, vi a1] I (some (vi r), J) := by
  refine Runs.of (rv := fun x => some (vi x)) (by decide +kernel) (Nat.le_of_ble_eq_true rfl) hf (fun gr => ?_)
  unfold f_PR_doAppend
  refine WQ.loc [0, 1] (lv' := [(0, vr Z 0 0), (1, vi a1)]) rfl ?_
  refine wq_iconst dX12_doAppend_0 ?_
  refine wq_istore_n (lv' := [(2, vi 0), (0, vr Z 0 0), (1, vi a1)]) dX12_doAppend_1 rfl (by decide) rfl ?_
  refine WQ.loc [1, 2, 0] (lv' := [(0, vr Z 0 0), (1, vi a1), (2, vi 0)]) rfl ?_
  refine wq_loop (fun s21 => [(0, vr Z 0 0), (1, vi a1), (2, vi s21)]) (fun κ15 bk16 hr18 gr20 s21 J19 => ?_) gr _ rfl
  unfold f_PR_doAppend_w2
  refine wq_iload_n dX12_doAppend_2 2 rfl rfl ?_
  refine wq_aload_n dX12_doAppend_3 0 rfl rfl ?_
  refine g_0_6 ln_RX12_54 dX12_doAppend_4 ?_
  refine wq_iload_n dX12_doAppend_7 1 rfl rfl ?_
  refine wq_cVi M_Scr_manyLetters (R_Scr_manyLetters Z a1 _) ob_8 rfl rfl (by decide) (by decide) (Nat.le_of_ble_eq_true rfl) ln_RX12_374 dX12_doAppend_8 (fun gr22 x24 J23 => ?_)
  refine wq_icmp_ge 51 dX12_doAppend_11 (by decide) rfl rfl (fun c35 => ?_) (fun c35 => ?_)
  · refine wq_aload_n dX12_doAppend_14 0 rfl rfl ?_
    refine g_0_0 ln_RX12_12 dX12_doAppend_15 ?_
    refine wq_cVi M_G_textLength (R_G_textLength Z 0 _) (ob_1 (by decide)) rfl rfl (by decide) (by decide) (Nat.le_of_ble_eq_true rfl) ln_RX12_122 dX12_doAppend_18 (fun gr25 x27 J26 => ?_)
    refine wq_sipush dX12_doAppend_21 (by decide) ?_
    refine wq_icmp_lt 29 dX12_doAppend_24 (by decide) rfl rfl (fun c34 => ?_) (fun c34 => ?_)
    · refine wq_aload_n dX12_doAppend_29 0 rfl rfl ?_
      refine g_0_0 ln_RX12_12 dX12_doAppend_30 ?_
      refine wq_aload_n dX12_doAppend_33 0 rfl rfl ?_
      refine g_0_6 ln_RX12_54 dX12_doAppend_34 ?_
      refine wq_iload_n dX12_doAppend_37 1 rfl rfl ?_
      refine wq_iload_n dX12_doAppend_38 2 rfl rfl ?_
      refine wq_cVi M_Scr_letter (R_Scr_letter Z a1 s21 _) ob_8 rfl rfl (by decide) (by decide) (Nat.le_of_ble_eq_true rfl) ln_RX12_358 dX12_doAppend_39 (fun gr28 x30 J29 => ?_)
      refine wq_cVv M_G_addLetter (R_G_addLetter Z 0 x30 _) (ob_1 (by decide)) rfl rfl (by decide) (by decide) (Nat.le_of_ble_eq_true rfl) ln_RX12_292 dX12_doAppend_42 (fun gr31 _ J32 => ?_)
      refine wq_iinc (lv' := [(2, vi (s21 + 1)), (0, vr Z 0 0), (1, vi a1)]) dX12_doAppend_45 2 rfl (by decide) rfl ?_
      refine wq_goto 2 dX12_doAppend_48 (by decide) ?_
      exact WQ.loc [1, 2, 0] rfl (bk16 _ _ _)
    · refine wq_iconst dX12_doAppend_27 ?_
      exact wq_zret rfl (by decide) ((hr18 _ _).trans rfl) dX12_doAppend_28
  · refine wq_iconst dX12_doAppend_51 ?_
    exact wq_zret rfl (by decide) ((hr18 _ _).trans rfl) dX12_doAppend_52

noncomputable def f_PR_doCut (a1 : Int) (I : Mem) : Option ((Int) × Mem) :=
bnd (f_G_textLength 0 I) fun x3 J2 =>
if (w32 a1) < (w32 x3) then
bnd (f_G_dropLetters 0 a1 J2) fun _ J5 =>
some (1, J5)
else
some (0, J2)
set_option maxRecDepth 20000 in
theorem R_PR_doCut (Z : ZT) (a1 : Int) (I : Mem) (r : Int) (J : Mem) (hf : f_PR_doCut a1 I = some (r, J)) : Runs Z yX12_doCut cX12_doCut 2 (some .boolean) 4 [vr Z 0 0, vi a1] I (some (vi r), J) := by
  refine Runs.of (rv := fun x => some (vi x)) (by decide +kernel) (Nat.le_of_ble_eq_true rfl) hf (fun gr => ?_)
  unfold f_PR_doCut
  refine WQ.loc [0, 1] (lv' := [(0, vr Z 0 0), (1, vi a1)]) rfl ?_
  refine wq_iload_n dX12_doCut_0 1 rfl rfl ?_
  refine wq_aload_n dX12_doCut_1 0 rfl rfl ?_
  refine g_0_0 ln_RX12_12 dX12_doCut_2 ?_
  refine wq_cVi M_G_textLength (R_G_textLength Z 0 _) (ob_1 (by decide)) rfl rfl (by decide) (by decide) (Nat.le_of_ble_eq_true rfl) ln_RX12_122 dX12_doCut_5 (fun gr1 x3 J2 => ?_)
  refine wq_icmp_lt 13 dX12_doCut_8 (by decide) rfl rfl (fun c7 => ?_) (fun c7 => ?_)
  · refine wq_aload_n dX12_doCut_13 0 rfl rfl ?_
    refine g_0_0 ln_RX12_12 dX12_doCut_14 ?_
    refine wq_iload_n dX12_doCut_17 1 rfl rfl ?_
    refine wq_cVv M_G_dropLetters (R_G_dropLetters Z 0 a1 _) (ob_1 (by decide)) rfl rfl (by decide) (by decide) (Nat.le_of_ble_eq_true rfl) ln_RX12_295 dX12_doCut_18 (fun gr4 _ J5 => ?_)
    refine wq_iconst dX12_doCut_21 ?_
    exact wq_zret rfl (by decide) rfl dX12_doCut_22
  · refine wq_iconst dX12_doCut_11 ?_
    exact wq_zret rfl (by decide) rfl dX12_doCut_12

theorem ln_RX9_26 : Cond.methodLink RX9 26 yX3_bestPair ∈ lw_good := li_4 106 (by decide +kernel) (by decide +kernel)
theorem ln_RX9_30 : Cond.methodLink RX9 30 yX3_firstOf ∈ lw_good := li_4 110 (by decide +kernel) (by decide +kernel)
theorem ln_RX9_34 : Cond.methodLink RX9 34 yX3_secondOf ∈ lw_good := li_4 111 (by decide +kernel) (by decide +kernel)
theorem ln_RX9_50 : Cond.methodLink RX9 50 yX9_inlineAll ∈ lw_good := li_4 135 (by decide +kernel) (by decide +kernel)
theorem ln_RX9_47 : Cond.methodLink RX9 47 yX1_number ∈ lw_good := li_4 134 (by decide +kernel) (by decide +kernel)
theorem ln_RX9_43 : Cond.methodLink RX9 43 yX1_addTo ∈ lw_good := li_4 133 (by decide +kernel) (by decide +kernel)
theorem ln_RX9_37 : Cond.methodLink RX9 37 yX1_join ∈ lw_good := li_4 112 (by decide +kernel) (by decide +kernel)
theorem ln_RX9_22 : Cond.methodLink RX9 22 yX3_readFrom ∈ lw_good := li_4 34 (by decide +kernel) (by decide +kernel)
noncomputable def f_Stp_makeSteps_w2 (v1 : Nat) (v2 : Int) (s : Int) (I : Mem) : Option (((Int) ⊕ (Int)) × Mem) :=
if (w32 s) < (w32 v2) then
bnd (f_PT_readFrom v1 I) fun _ J2 =>
if (w32 (J2 4 0 7)) = (-1) then
some (.inr (s), J2)
else
bnd (f_G_join v1 (idv (J2 4 0 7) 66) (irm (J2 4 0 7) 66) J2) fun x9 J8 =>
bnd (f_G_addTo v1 0 1 J8) fun _ J11 =>
bnd (f_G_number v1 6 J11) fun x15 J14 =>
if (w32 x15) = 1 then
bnd (f_Stp_inlineAll v1 J14) fun x18 J17 =>
some (.inl (s + 1), J17)
else
some (.inl (s + 1), J14)
else
some (.inr (s), I)

noncomputable def f_Stp_makeSteps (a1 : Nat) (a2 : Int) (I : Mem) : Option ((Int) × Mem) :=
if a1 < 12 then
whl (f_Stp_makeSteps_w2 a1 a2) 0 I
else none
set_option maxRecDepth 20000 in
theorem R_Stp_makeSteps (Z : ZT) (a1 : Nat) (a2 : Int) (I : Mem) (r : Int) (J : Mem) (hf : f_Stp_makeSteps a1 a2 I = some (r, J)) : Runs Z yX9_makeSteps cX9_makeSteps 5 (some .int) 5 [vr Z 3 0, vr Z 1 a1, vi a2] I (some (vi r), J) := by
  refine Runs.of (rv := fun x => some (vi x)) (by decide +kernel) (Nat.le_of_ble_eq_true rfl) hf (fun gr => ?_)
  unfold f_Stp_makeSteps
  refine WQ.loc [0, 1, 2] (lv' := [(0, vr Z 3 0), (1, vr Z 1 a1), (2, vi a2)]) rfl ?_
  refine wq_grd (fun h1 => ?_)
  refine wq_iconst dX9_makeSteps_0 ?_
  refine wq_istore_n (lv' := [(3, vi 0), (0, vr Z 3 0), (1, vr Z 1 a1), (2, vi a2)]) dX9_makeSteps_1 rfl (by decide) rfl ?_
  refine WQ.loc [1, 2, 3, 0] (lv' := [(0, vr Z 3 0), (1, vr Z 1 a1), (2, vi a2), (3, vi 0)]) rfl ?_
  refine wq_loop (fun s28 => [(0, vr Z 3 0), (1, vr Z 1 a1), (2, vi a2), (3, vi s28)]) (fun κ22 bk23 hr25 gr27 s28 J26 => ?_) gr _ rfl
  unfold f_Stp_makeSteps_w2
  refine wq_iload_n dX9_makeSteps_2 3 rfl rfl ?_
  refine wq_iload_n dX9_makeSteps_3 2 rfl rfl ?_
  refine wq_icmp_ge 83 dX9_makeSteps_4 (by decide) rfl rfl (fun c49 => ?_) (fun c49 => ?_)
  · refine wq_aload_n dX9_makeSteps_7 0 rfl rfl ?_
    refine g_3_0 ln_RX9_12 dX9_makeSteps_8 ?_
    refine wq_aload_n dX9_makeSteps_11 1 rfl rfl ?_
    refine wq_cVv M_PT_readFrom (R_PT_readFrom Z a1 _) ob_4 rfl rfl (by decide) (by decide) (Nat.le_of_ble_eq_true rfl) ln_RX9_22 dX9_makeSteps_12 (fun gr29 _ J30 => ?_)
    refine wq_aload_n dX9_makeSteps_15 0 rfl rfl ?_
    refine g_3_0 ln_RX9_12 dX9_makeSteps_16 ?_
    refine wq_pV (v := vi (J30 4 0 7)) M_PT_bestPair (R_PT_bestPair Z  _ _ _ rfl) ob_4 rfl rfl (by decide) (by decide) (Nat.le_of_ble_eq_true rfl) ln_RX9_26 dX9_makeSteps_19 (fun gr32 => ?_)
    refine wq_istore (lv' := [(4, vi (J30 4 0 7)), (0, vr Z 3 0), (1, vr Z 1 a1), (2, vi a2), (3, vi s28)]) dX9_makeSteps_22 (by decide) rfl ?_
    refine wq_iload dX9_makeSteps_24 0 rfl ?_
    refine wq_iconst dX9_makeSteps_26 ?_
    refine wq_icmp_ne 32 dX9_makeSteps_27 (by decide) rfl rfl (fun c48 => ?_) (fun c48 => ?_)
    · refine wq_iload_n dX9_makeSteps_30 4 rfl rfl ?_
      exact wq_iret rfl ((hr25 _ _).trans rfl) dX9_makeSteps_31
    · refine wq_aload_n dX9_makeSteps_32 2 rfl rfl ?_
      refine wq_aload_n dX9_makeSteps_33 1 rfl rfl ?_
      refine g_3_0 ln_RX9_12 dX9_makeSteps_34 ?_
      refine wq_iload dX9_makeSteps_37 0 rfl ?_
      refine wq_pV (v := vi (idv (J30 4 0 7) 66)) M_PT_firstOf (R_PT_firstOf Z (J30 4 0 7) _ _ _ rfl) ob_4 rfl rfl (by decide) (by decide) (Nat.le_of_ble_eq_true rfl) ln_RX9_30 dX9_makeSteps_39 (fun gr33 => ?_)
      refine wq_aload_n dX9_makeSteps_42 1 rfl rfl ?_
      refine g_3_0 ln_RX9_12 dX9_makeSteps_43 ?_
      refine wq_iload dX9_makeSteps_46 0 rfl ?_
      refine wq_pV (v := vi (irm (J30 4 0 7) 66)) M_PT_secondOf (R_PT_secondOf Z (J30 4 0 7) _ _ _ rfl) ob_4 rfl rfl (by decide) (by decide) (Nat.le_of_ble_eq_true rfl) ln_RX9_34 dX9_makeSteps_48 (fun gr34 => ?_)
      refine wq_cVi M_G_join (R_G_join Z a1 (idv (J30 4 0 7) 66) (irm (J30 4 0 7) 66) _) (ob_1 h1) rfl rfl (by decide) (by decide) (Nat.le_of_ble_eq_true rfl) ln_RX9_37 dX9_makeSteps_51 (fun gr35 x37 J36 => ?_)
      refine wq_pop dX9_makeSteps_54 rfl ?_
      refine wq_aload_n dX9_makeSteps_55 2 rfl rfl ?_
      refine wq_iconst dX9_makeSteps_56 ?_
      refine wq_iconst dX9_makeSteps_57 ?_
      refine wq_cVv M_G_addTo (R_G_addTo Z a1 0 1 _) (ob_1 h1) rfl rfl (by decide) (by decide) (Nat.le_of_ble_eq_true rfl) ln_RX9_43 dX9_makeSteps_58 (fun gr38 _ J39 => ?_)
      refine wq_aload_n dX9_makeSteps_61 2 rfl rfl ?_
      refine wq_bipush dX9_makeSteps_62 (by decide) ?_
      refine wq_cVi M_G_number (R_G_number Z a1 6 _) (ob_1 h1) rfl rfl (by decide) (by decide) (Nat.le_of_ble_eq_true rfl) ln_RX9_47 dX9_makeSteps_64 (fun gr41 x43 J42 => ?_)
      refine wq_iconst dX9_makeSteps_67 ?_
      refine wq_icmp_ne 77 dX9_makeSteps_68 (by decide) rfl rfl (fun c47 => ?_) (fun c47 => ?_)
      · refine wq_aload_n dX9_makeSteps_71 1 rfl rfl ?_
        refine wq_aload_n dX9_makeSteps_72 2 rfl rfl ?_
        refine wq_cVi M_Stp_inlineAll (R_Stp_inlineAll Z a1 _) ob_3 rfl rfl (by decide) (by decide) (Nat.le_of_ble_eq_true rfl) ln_RX9_50 dX9_makeSteps_73 (fun gr44 x46 J45 => ?_)
        refine wq_pop dX9_makeSteps_76 rfl ?_
        refine wq_iinc (lv' := [(3, vi (s28 + 1)), (4, vi (J30 4 0 7)), (0, vr Z 3 0), (1, vr Z 1 a1), (2, vi a2)]) dX9_makeSteps_77 4 rfl (by decide) rfl ?_
        refine wq_goto 2 dX9_makeSteps_80 (by decide) ?_
        exact WQ.loc [2, 3, 4, 0] rfl (bk23 _ _ _)
      · refine wq_iinc (lv' := [(3, vi (s28 + 1)), (4, vi (J30 4 0 7)), (0, vr Z 3 0), (1, vr Z 1 a1), (2, vi a2)]) dX9_makeSteps_77 4 rfl (by decide) rfl ?_
        refine wq_goto 2 dX9_makeSteps_80 (by decide) ?_
        exact WQ.loc [2, 3, 4, 0] rfl (bk23 _ _ _)
  · refine wq_iload_n dX9_makeSteps_83 3 rfl rfl ?_
    exact wq_iret rfl ((hr25 _ _).trans rfl) dX9_makeSteps_84

theorem M_Set_readRule : MwV yX7_readRule cX7_readRule 4 (some .boolean) 1 := ⟨li_3 39 (by decide +kernel) (by decide +kernel), li_3 38 (by decide +kernel) (by decide +kernel), lw_in 6 (by decide +kernel) (by decide +kernel), li_1 8 (by decide +kernel) (by decide +kernel), by decide +kernel⟩
theorem ln_RX7_107 : Cond.methodLink RX7 107 yX7_readRule ∈ lw_good := li_3 36 (by decide +kernel) (by decide +kernel)
theorem ln_RX7_78 : Cond.methodLink RX7 78 yX8_is ∈ lw_good := li_3 18 (by decide +kernel) (by decide +kernel)
theorem M_Set_readLetters : MwV yX7_readLetters cX7_readLetters 4 (some .boolean) 1 := ⟨li_3 25 (by decide +kernel) (by decide +kernel), li_3 24 (by decide +kernel) (by decide +kernel), lw_in 5 (by decide +kernel) (by decide +kernel), li_1 8 (by decide +kernel) (by decide +kernel), by decide +kernel⟩
theorem ln_RX7_104 : Cond.methodLink RX7 104 yX7_readLetters ∈ lw_good := li_3 22 (by decide +kernel) (by decide +kernel)
noncomputable def f_Set_readItems_w7 (v1 : Nat) (s : Int) (I : Mem) : Option (((Int) ⊕ (Int)) × Mem) :=
if 600 < (w32 s) then
bnd (f_Src_fail 1 I) fun x4 J3 =>
if x4 = 0 ∨ x4 = 1 then
some (.inr (x4), J3)
else none
else
bnd (f_Src_is 1 I) fun x8 J7 =>
if (w32 x8) = 0 then
bnd (f_Src_is 4 J7) fun x11 J10 =>
if (w32 x11) = 0 then
if 0 < (w32 s) then
some (.inr (1), J10)
else
bnd (f_Src_fail 1 J10) fun x14 J13 =>
if (w32 x14) = 0 then
some (.inr (0), J13)
else
some (.inr (1), J13)
else
bnd (f_Set_readRule v1 J10) fun x19 J18 =>
if (w32 x19) = 0 then
some (.inr (0), J18)
else
some (.inl (s + 1), J18)
else
bnd (f_Set_readLetters v1 J7) fun x24 J23 =>
if (w32 x24) = 0 then
some (.inr (0), J23)
else
some (.inl (s + 1), J23)

noncomputable def f_Set_readItems (a1 : Nat) (I : Mem) : Option ((Int) × Mem) :=
if a1 < 516 then
ltI (sI I 7 0 3 0) fun J1 =>
whl (f_Set_readItems_w7 a1) 0 J1
else none
set_option maxRecDepth 20000 in
theorem R_Set_readItems (Z : ZT) (a1 : Nat) (I : Mem) (r : Int) (J : Mem) (hf : f_Set_readItems a1 I = some (r, J)) : Runs Z yX7_readItems cX7_readItems 4 (some .boolean) 5 [vr Z 7 0, vr Z 2 a1] I (some (vi r), J) := by
  refine Runs.of (rv := fun x => some (vi x)) (by decide +kernel) (Nat.le_of_ble_eq_true rfl) hf (fun gr => ?_)
  unfold f_Set_readItems
  refine WQ.loc [0, 1] (lv' := [(0, vr Z 7 0), (1, vr Z 2 a1)]) rfl ?_
  refine wq_grd (fun h1 => ?_)
  refine wq_aload_n dX7_readItems_0 0 rfl rfl ?_
  refine wq_iconst dX7_readItems_1 ?_
  refine p_7_3 ln_RX7_90 dX7_readItems_2 (fun J1 => ?_)
  refine wq_iconst dX7_readItems_5 ?_
  refine wq_istore_n (lv' := [(2, vi 0), (0, vr Z 7 0), (1, vr Z 2 a1)]) dX7_readItems_6 rfl (by decide) rfl ?_
  refine WQ.loc [1, 2, 0] (lv' := [(0, vr Z 7 0), (1, vr Z 2 a1), (2, vi 0)]) rfl ?_
  refine wq_loop (fun s34 => [(0, vr Z 7 0), (1, vr Z 2 a1), (2, vi s34)]) (fun κ28 bk29 hr31 gr33 s34 J32 => ?_) gr _ rfl
  unfold f_Set_readItems_w7
  refine wq_iload_n dX7_readItems_7 2 rfl rfl ?_
  refine wq_sipush dX7_readItems_8 (by decide) ?_
  refine wq_icmp_gt 87 dX7_readItems_11 (by decide) rfl rfl (fun c60 => ?_) (fun c60 => ?_)
  · refine wq_aload_n dX7_readItems_87 0 rfl rfl ?_
    refine g_7_0 ln_RX7_9 dX7_readItems_88 ?_
    refine wq_iconst dX7_readItems_91 ?_
    refine wq_cVi M_Src_fail (R_Src_fail Z 1 _) ob_6 rfl rfl (by decide) (by decide) (Nat.le_of_ble_eq_true rfl) ln_RX7_63 dX7_readItems_92 (fun gr35 x37 J36 => ?_)
    refine wq_grd (fun g38 => ?_)
    exact wq_zret rfl g38 ((hr31 _ _).trans rfl) dX7_readItems_95
  · refine wq_aload_n dX7_readItems_14 0 rfl rfl ?_
    refine g_7_0 ln_RX7_9 dX7_readItems_15 ?_
    refine wq_iconst dX7_readItems_18 ?_
    refine wq_cVi M_Src_is (R_Src_is Z 1 _) ob_6 rfl rfl (by decide) (by decide) (Nat.le_of_ble_eq_true rfl) ln_RX7_78 dX7_readItems_19 (fun gr39 x41 J40 => ?_)
    refine wq_if_eq 34 dX7_readItems_22 (by decide) rfl (fun c59 => ?_) (fun c59 => ?_)
    · refine wq_aload_n dX7_readItems_34 0 rfl rfl ?_
      refine g_7_0 ln_RX7_9 dX7_readItems_35 ?_
      refine wq_iconst dX7_readItems_38 ?_
      refine wq_cVi M_Src_is (R_Src_is Z 4 _) ob_6 rfl rfl (by decide) (by decide) (Nat.le_of_ble_eq_true rfl) ln_RX7_78 dX7_readItems_39 (fun gr42 x44 J43 => ?_)
      refine wq_if_eq 54 dX7_readItems_42 (by decide) rfl (fun c54 => ?_) (fun c54 => ?_)
      · refine wq_iload_n dX7_readItems_54 2 rfl rfl ?_
        refine wq_if_gt 69 dX7_readItems_55 (by decide) rfl (fun c49 => ?_) (fun c49 => ?_)
        · refine wq_iconst dX7_readItems_69 ?_
          refine wq_goto 74 dX7_readItems_70 (by decide) ?_
          exact wq_zret rfl (by decide) ((hr31 _ _).trans rfl) dX7_readItems_74
        · refine wq_aload_n dX7_readItems_58 0 rfl rfl ?_
          refine g_7_0 ln_RX7_9 dX7_readItems_59 ?_
          refine wq_iconst dX7_readItems_62 ?_
          refine wq_cVi M_Src_fail (R_Src_fail Z 1 _) ob_6 rfl rfl (by decide) (by decide) (Nat.le_of_ble_eq_true rfl) ln_RX7_63 dX7_readItems_63 (fun gr45 x47 J46 => ?_)
          refine wq_if_eq 73 dX7_readItems_66 (by decide) rfl (fun c48 => ?_) (fun c48 => ?_)
          · refine wq_iconst dX7_readItems_73 ?_
            exact wq_zret rfl (by decide) ((hr31 _ _).trans rfl) dX7_readItems_74
          · refine wq_iconst dX7_readItems_69 ?_
            refine wq_goto 74 dX7_readItems_70 (by decide) ?_
            exact wq_zret rfl (by decide) ((hr31 _ _).trans rfl) dX7_readItems_74
      · refine wq_aload_n dX7_readItems_45 0 rfl rfl ?_
        refine wq_aload_n dX7_readItems_46 1 rfl rfl ?_
        refine wq_cVi M_Set_readRule (R_Set_readRule Z a1 _) ob_7 rfl rfl (by decide) (by decide) (Nat.le_of_ble_eq_true rfl) ln_RX7_107 dX7_readItems_47 (fun gr50 x52 J51 => ?_)
        refine wq_istore_n (lv' := [(3, vi x52), (0, vr Z 7 0), (1, vr Z 2 a1), (2, vi s34)]) dX7_readItems_50 rfl (by decide) rfl ?_
        refine wq_goto 75 dX7_readItems_51 (by decide) ?_
        refine wq_iload_n dX7_readItems_75 0 rfl rfl ?_
        refine wq_if_ne 81 dX7_readItems_76 (by decide) rfl (fun c53 => ?_) (fun c53 => ?_)
        · refine wq_iconst dX7_readItems_79 ?_
          exact wq_zret rfl (by decide) ((hr31 _ _).trans rfl) dX7_readItems_80
        · refine wq_iinc (lv' := [(2, vi (s34 + 1)), (3, vi x52), (0, vr Z 7 0), (1, vr Z 2 a1)]) dX7_readItems_81 3 rfl (by decide) rfl ?_
          refine wq_goto 7 dX7_readItems_84 (by decide) ?_
          exact WQ.loc [2, 3, 0] rfl (bk29 _ _ _)
    · refine wq_aload_n dX7_readItems_25 0 rfl rfl ?_
      refine wq_aload_n dX7_readItems_26 1 rfl rfl ?_
      refine wq_cVi M_Set_readLetters (R_Set_readLetters Z a1 _) ob_7 rfl rfl (by decide) (by decide) (Nat.le_of_ble_eq_true rfl) ln_RX7_104 dX7_readItems_27 (fun gr55 x57 J56 => ?_)
      refine wq_istore_n (lv' := [(3, vi x57), (0, vr Z 7 0), (1, vr Z 2 a1), (2, vi s34)]) dX7_readItems_30 rfl (by decide) rfl ?_
      refine wq_goto 75 dX7_readItems_31 (by decide) ?_
      refine wq_iload_n dX7_readItems_75 0 rfl rfl ?_
      refine wq_if_ne 81 dX7_readItems_76 (by decide) rfl (fun c58 => ?_) (fun c58 => ?_)
      · refine wq_iconst dX7_readItems_79 ?_
        exact wq_zret rfl (by decide) ((hr31 _ _).trans rfl) dX7_readItems_80
      · refine wq_iinc (lv' := [(2, vi (s34 + 1)), (3, vi x57), (0, vr Z 7 0), (1, vr Z 2 a1)]) dX7_readItems_81 3 rfl (by decide) rfl ?_
        refine wq_goto 7 dX7_readItems_84 (by decide) ?_
        exact WQ.loc [2, 3, 0] rfl (bk29 _ _ _)

theorem M_Set_readStatement : MwV yX7_readStatement cX7_readStatement 2 (some .boolean) 0 := ⟨li_3 83 (by decide +kernel) (by decide +kernel), li_3 82 (by decide +kernel) (by decide +kernel), lw_in 9 (by decide +kernel) (by decide +kernel), li_1 8 (by decide +kernel) (by decide +kernel), by decide +kernel⟩
theorem ln_RX7_143 : Cond.methodLink RX7 143 yX7_readStatement ∈ lw_good := li_3 80 (by decide +kernel) (by decide +kernel)
noncomputable def f_Set_readStatements_w2  (s : Int) (I : Mem) : Option (((Int) ⊕ (Int)) × Mem) :=
if 600 < (w32 s) then
some (.inr (1), I)
else
bnd (f_Src_is 0 I) fun x3 J2 =>
if (w32 x3) = 0 then
bnd (f_Src_pass 3 J2) fun x6 J5 =>
if (w32 x6) = 0 then
some (.inr (0), J5)
else
bnd (f_Set_readStatement J5) fun x9 J8 =>
if (w32 x9) = 0 then
some (.inr (0), J8)
else
some (.inl (s + 1), J8)
else
some (.inr (1), J2)

noncomputable def f_Set_readStatements  (I : Mem) : Option ((Int) × Mem) :=
whl (f_Set_readStatements_w2) 0 I
set_option maxRecDepth 20000 in
theorem R_Set_readStatements (Z : ZT)  (I : Mem) (r : Int) (J : Mem) (hf : f_Set_readStatements I = some (r, J)) : Runs Z yX7_readStatements cX7_readStatements 2 (some .boolean) 8 [vr Z 7 0] I (some (vi r), J) := by
  refine Runs.of (rv := fun x => some (vi x)) (by decide +kernel) (Nat.le_of_ble_eq_true rfl) hf (fun gr => ?_)
  unfold f_Set_readStatements
  refine WQ.loc [0] (lv' := [(0, vr Z 7 0)]) rfl ?_
  refine wq_iconst dX7_readStatements_0 ?_
  refine wq_istore_n (lv' := [(1, vi 0), (0, vr Z 7 0)]) dX7_readStatements_1 rfl (by decide) rfl ?_
  refine WQ.loc [1, 0] (lv' := [(0, vr Z 7 0), (1, vi 0)]) rfl ?_
  refine wq_loop (fun s20 => [(0, vr Z 7 0), (1, vi s20)]) (fun κ14 bk15 hr17 gr19 s20 J18 => ?_) gr _ rfl
  unfold f_Set_readStatements_w2
  refine wq_iload_n dX7_readStatements_2 1 rfl rfl ?_
  refine wq_sipush dX7_readStatements_3 (by decide) ?_
  refine wq_icmp_gt 46 dX7_readStatements_6 (by decide) rfl rfl (fun c33 => ?_) (fun c33 => ?_)
  · refine wq_iconst dX7_readStatements_46 ?_
    exact wq_zret rfl (by decide) ((hr17 _ _).trans rfl) dX7_readStatements_47
  · refine wq_aload_n dX7_readStatements_9 0 rfl rfl ?_
    refine g_7_0 ln_RX7_9 dX7_readStatements_10 ?_
    refine wq_iconst dX7_readStatements_13 ?_
    refine wq_cVi M_Src_is (R_Src_is Z 0 _) ob_6 rfl rfl (by decide) (by decide) (Nat.le_of_ble_eq_true rfl) ln_RX7_78 dX7_readStatements_14 (fun gr21 x23 J22 => ?_)
    refine wq_if_ne 46 dX7_readStatements_17 (by decide) rfl (fun c32 => ?_) (fun c32 => ?_)
    · refine wq_aload_n dX7_readStatements_20 0 rfl rfl ?_
      refine g_7_0 ln_RX7_9 dX7_readStatements_21 ?_
      refine wq_iconst dX7_readStatements_24 ?_
      refine wq_cVi M_Src_pass (R_Src_pass Z 3 _) ob_6 rfl rfl (by decide) (by decide) (Nat.le_of_ble_eq_true rfl) ln_RX7_87 dX7_readStatements_25 (fun gr24 x26 J25 => ?_)
      refine wq_if_eq 38 dX7_readStatements_28 (by decide) rfl (fun c31 => ?_) (fun c31 => ?_)
      · refine wq_iconst dX7_readStatements_38 ?_
        exact wq_zret rfl (by decide) ((hr17 _ _).trans rfl) dX7_readStatements_39
      · refine wq_aload_n dX7_readStatements_31 0 rfl rfl ?_
        refine wq_cVi M_Set_readStatement (R_Set_readStatement Z _) ob_7 rfl rfl (by decide) (by decide) (Nat.le_of_ble_eq_true rfl) ln_RX7_143 dX7_readStatements_32 (fun gr27 x29 J28 => ?_)
        refine wq_if_ne 40 dX7_readStatements_35 (by decide) rfl (fun c30 => ?_) (fun c30 => ?_)
        · refine wq_iconst dX7_readStatements_38 ?_
          exact wq_zret rfl (by decide) ((hr17 _ _).trans rfl) dX7_readStatements_39
        · refine wq_iinc (lv' := [(1, vi (s20 + 1)), (0, vr Z 7 0)]) dX7_readStatements_40 1 rfl (by decide) rfl ?_
          refine wq_goto 2 dX7_readStatements_43 (by decide) ?_
          exact WQ.loc [1, 0] rfl (bk15 _ _ _)
    · refine wq_iconst dX7_readStatements_46 ?_
      exact wq_zret rfl (by decide) ((hr17 _ _).trans rfl) dX7_readStatements_47
