section
theorem ln_RX1_128 : Cond.constant RX1 128 (Int32.ofInt 1000000) ∈ lw_good := li_4 231 (by decide +kernel) (by decide +kernel)
theorem M_Row_drop : MwV yX5_drop cX5_drop 2 (none) 1 := ⟨li_4 235 (by decide +kernel) (by decide +kernel), li_4 233 (by decide +kernel) (by decide +kernel), li_4 234 (by decide +kernel) (by decide +kernel), li_1 3 (by decide +kernel) (by decide +kernel), by decide +kernel⟩
theorem ln_RX1_132 : Cond.methodLink RX1 132 yX5_putAll ∈ lw_good := li_4 236 (by decide +kernel) (by decide +kernel)
theorem ln_RX1_129 : Cond.methodLink RX1 129 yX5_drop ∈ lw_good := li_4 232 (by decide +kernel) (by decide +kernel)
noncomputable def f_G_dropLetters_w4 (v0 : Nat) (v1 : Int) (s : Int × Int) (I : Mem) : Option (((Int × Int) ⊕ (Unit)) × Mem) :=
if (w32 s.2) < 1000000 then
if 0 < (w32 s.1) then
if 0 < (w32 (I 2 (43 * v0) 1)) then
bnd (f_Row_at (43 * v0) ((I 2 (43 * v0) 1) - 1) I) fun x5 J4 =>
bnd (f_Row_drop (43 * v0) 1 J4) fun _ J7 =>
bnd (f_G_lengthOf v0 x5 J7) fun x11 J10 =>
if (w32 s.1) < (w32 x11) then
bnd (f_G_body v0 (x5 - 26) J10) fun x14 J13 =>
if x14 < 516 then
bnd (f_Row_putAll (43 * v0) x14 J13) fun _ J17 =>
bnd (f_G_addTo v0 8 1 J17) fun _ J20 =>
some (.inl (s.1, (s.2 + 1)), J20)
else none
else
bnd (f_G_lengthOf v0 x5 J10) fun x24 J23 =>
some (.inl ((s.1 - x24), (s.2 + 1)), J23)
else
some (.inr (), I)
else
some (.inr (), I)
else
some (.inr (), I)

noncomputable def f_G_dropLetters (t : Nat) (a1 : Int) (I : Mem) : Option ((Unit) × Mem) :=
if t < 12 then
bnd (whl (f_G_dropLetters_w4 t a1) (a1, 0) I) fun r64 J65 =>
bnd (f_Row_drop (43 * t + 1) a1 J65) fun _ J68 =>
bnd (f_G_addTo t 7 a1 J68) fun _ J71 =>
some ((), J71)
else none
set_option maxRecDepth 20000 in
theorem R_G_dropLetters (Z : ZT) (t : Nat) (a1 : Int) (I : Mem) (r : Unit) (J : Mem) (hf : f_G_dropLetters t a1 I = some (r, J)) : Runs Z yX1_dropLetters cX1_dropLetters 5 (none) 3 [vr Z 1 t, vi a1] I (none, J) := by
  refine Runs.of (rv := fun _ => none) (by decide +kernel) (Nat.le_of_ble_eq_true rfl) hf (fun gr => ?_)
  unfold f_G_dropLetters
  refine WQ.loc [0, 1] (lv' := [(0, vr Z 1 t), (1, vi a1)]) rfl ?_
  refine wq_grd (fun ht => ?_)
  refine wq_iload_n dX1_dropLetters_0 1 rfl rfl ?_
  refine wq_istore_n (lv' := [(2, vi a1), (0, vr Z 1 t), (1, vi a1)]) dX1_dropLetters_1 rfl (by decide) rfl ?_
  refine wq_iconst dX1_dropLetters_2 ?_
  refine wq_istore_n (lv' := [(3, vi 0), (2, vi a1), (0, vr Z 1 t), (1, vi a1)]) dX1_dropLetters_3 rfl (by decide) rfl ?_
  refine WQ.loc [2, 3, 1, 0] (lv' := [(0, vr Z 1 t), (1, vi a1), (2, vi a1), (3, vi 0)]) rfl ?_
  refine wq_loopS (fun s35 => [(0, vr Z 1 t), (1, vi a1), (2, vi s35.1), (3, vi s35.2)]) 101 (fun _ => [(0, vr Z 1 t), (1, vi a1)]) (fun κ29 bk30 ex31 gr34 s35 J33 => ?_) (fun gr66 r64 J65 => ?_) gr _ rfl
  · unfold f_G_dropLetters_w4
    refine wq_iload_n dX1_dropLetters_4 3 rfl rfl ?_
    refine wq_ldc ln_RX1_128 dX1_dropLetters_5 ?_
    refine wq_icmp_ge 101 dX1_dropLetters_7 (by decide) rfl rfl (fun c63 => ?_) (fun c63 => ?_)
    · refine wq_iload_n dX1_dropLetters_10 2 rfl rfl ?_
      refine wq_if_le 101 dX1_dropLetters_11 (by decide) rfl (fun c62 => ?_) (fun c62 => ?_)
      · refine wq_aload_n dX1_dropLetters_14 0 rfl rfl ?_
        refine g_1_0 ht ln_RX1_12 dX1_dropLetters_15 ?_
        refine wq_pV (v := vi (J33 2 (43 * t) 1)) M_Row_many (R_Row_many Z (43 * t) _ _ _ (if_pos (by omega))) (ob_2 (by omega)) rfl rfl (by decide) (by decide) (Nat.le_of_ble_eq_true rfl) ln_RX1_73 dX1_dropLetters_18 (fun gr36 => ?_)
        refine wq_if_le 101 dX1_dropLetters_21 (by decide) rfl (fun c61 => ?_) (fun c61 => ?_)
        · refine wq_aload_n dX1_dropLetters_24 0 rfl rfl ?_
          refine g_1_0 ht ln_RX1_12 dX1_dropLetters_25 ?_
          refine wq_aload_n dX1_dropLetters_28 0 rfl rfl ?_
          refine g_1_0 ht ln_RX1_12 dX1_dropLetters_29 ?_
          refine wq_pV (v := vi (J33 2 (43 * t) 1)) M_Row_many (R_Row_many Z (43 * t) _ _ _ (if_pos (by omega))) (ob_2 (by omega)) rfl rfl (by decide) (by decide) (Nat.le_of_ble_eq_true rfl) ln_RX1_73 dX1_dropLetters_32 (fun gr37 => ?_)
          refine wq_iconst dX1_dropLetters_35 ?_
          refine wq_isub dX1_dropLetters_36 ?_
          refine wq_cVi M_Row_at (R_Row_at Z (43 * t) ((J33 2 (43 * t) 1) - 1) _) (ob_2 (by omega)) rfl rfl (by decide) (by decide) (Nat.le_of_ble_eq_true rfl) ln_RX1_89 dX1_dropLetters_37 (fun gr38 x40 J39 => ?_)
          refine wq_istore (lv' := [(4, vi x40), (0, vr Z 1 t), (1, vi a1), (2, vi s35.1), (3, vi s35.2)]) dX1_dropLetters_40 (by decide) rfl ?_
          refine wq_aload_n dX1_dropLetters_42 1 rfl rfl ?_
          refine g_1_0 ht ln_RX1_12 dX1_dropLetters_43 ?_
          refine wq_iconst dX1_dropLetters_46 ?_
          refine wq_cVv M_Row_drop (R_Row_drop Z (43 * t) 1 _) (ob_2 (by omega)) rfl rfl (by decide) (by decide) (Nat.le_of_ble_eq_true rfl) ln_RX1_129 dX1_dropLetters_47 (fun gr41 _ J42 => ?_)
          refine wq_aload_n dX1_dropLetters_50 1 rfl rfl ?_
          refine wq_iload dX1_dropLetters_51 0 rfl ?_
          refine wq_cVi M_G_lengthOf (R_G_lengthOf Z t x40 _) (ob_1 ht) rfl rfl (by decide) (by decide) (Nat.le_of_ble_eq_true rfl) ln_RX1_93 dX1_dropLetters_53 (fun gr44 x46 J45 => ?_)
          refine wq_iload_n dX1_dropLetters_56 3 rfl rfl ?_
          refine wq_icmp_gt 72 dX1_dropLetters_57 (by decide) rfl rfl (fun c60 => ?_) (fun c60 => ?_)
          · refine wq_aload_n dX1_dropLetters_72 1 rfl rfl ?_
            refine g_1_0 ht ln_RX1_12 dX1_dropLetters_73 ?_
            refine wq_aload_n dX1_dropLetters_76 1 rfl rfl ?_
            refine wq_iload dX1_dropLetters_77 0 rfl ?_
            refine wq_bipush dX1_dropLetters_79 (by decide) ?_
            refine wq_isub dX1_dropLetters_81 ?_
            refine wq_cVr 2 M_G_body (R_G_body Z t (x40 - 26) _) (ob_1 ht) rfl rfl (by decide) (by decide) (Nat.le_of_ble_eq_true rfl) ln_RX1_69 dX1_dropLetters_82 (fun gr47 x49 J48 => ?_)
            refine wq_grd (fun g50 => ?_)
            refine wq_cVv M_Row_putAll (R_Row_putAll Z (43 * t) x49 _) (ob_2 (by omega)) rfl rfl (by decide) (by decide) (Nat.le_of_ble_eq_true rfl) ln_RX1_132 dX1_dropLetters_85 (fun gr51 _ J52 => ?_)
            refine wq_aload_n dX1_dropLetters_88 1 rfl rfl ?_
            refine wq_bipush dX1_dropLetters_89 (by decide) ?_
            refine wq_iconst dX1_dropLetters_91 ?_
            refine wq_cVv M_G_addTo (R_G_addTo Z t 8 1 _) (ob_1 ht) rfl rfl (by decide) (by decide) (Nat.le_of_ble_eq_true rfl) ln_RX1_117 dX1_dropLetters_92 (fun gr54 _ J55 => ?_)
            refine wq_iinc (lv' := [(3, vi (s35.2 + 1)), (4, vi x40), (0, vr Z 1 t), (1, vi a1), (2, vi s35.1)]) dX1_dropLetters_95 4 rfl (by decide) rfl ?_
            refine wq_goto 4 dX1_dropLetters_98 (by decide) ?_
            exact WQ.loc [2, 3, 4, 0] rfl (bk30 _ _ _)
          · refine wq_iload_n dX1_dropLetters_60 3 rfl rfl ?_
            refine wq_aload_n dX1_dropLetters_61 1 rfl rfl ?_
            refine wq_iload dX1_dropLetters_62 0 rfl ?_
            refine wq_cVi M_G_lengthOf (R_G_lengthOf Z t x40 _) (ob_1 ht) rfl rfl (by decide) (by decide) (Nat.le_of_ble_eq_true rfl) ln_RX1_93 dX1_dropLetters_64 (fun gr57 x59 J58 => ?_)
            refine wq_isub dX1_dropLetters_67 ?_
            refine wq_istore_n (lv' := [(2, vi (s35.1 - x59)), (4, vi x40), (0, vr Z 1 t), (1, vi a1), (3, vi s35.2)]) dX1_dropLetters_68 rfl (by decide) rfl ?_
            refine wq_goto 95 dX1_dropLetters_69 (by decide) ?_
            refine wq_iinc (lv' := [(3, vi (s35.2 + 1)), (2, vi (s35.1 - x59)), (4, vi x40), (0, vr Z 1 t), (1, vi a1)]) dX1_dropLetters_95 4 rfl (by decide) rfl ?_
            refine wq_goto 4 dX1_dropLetters_98 (by decide) ?_
            exact WQ.loc [3, 4, 1, 0] rfl (bk30 _ _ _)
        · exact WQ.loc [0, 1] rfl (ex31 _ _ _)
      · exact WQ.loc [0, 1] rfl (ex31 _ _ _)
    · exact WQ.loc [0, 1] rfl (ex31 _ _ _)
  · refine wq_aload_n dX1_dropLetters_101 0 rfl rfl ?_
    refine g_1_1 ht ln_RX1_18 dX1_dropLetters_102 ?_
    refine wq_iload_n dX1_dropLetters_105 1 rfl rfl ?_
    refine wq_cVv M_Row_drop (R_Row_drop Z (43 * t + 1) a1 _) (ob_2 (by omega)) rfl rfl (by decide) (by decide) (Nat.le_of_ble_eq_true rfl) ln_RX1_129 dX1_dropLetters_106 (fun gr67 _ J68 => ?_)
    refine wq_aload_n dX1_dropLetters_109 0 rfl rfl ?_
    refine wq_bipush dX1_dropLetters_110 (by decide) ?_
    refine wq_iload_n dX1_dropLetters_112 1 rfl rfl ?_
    refine wq_cVv M_G_addTo (R_G_addTo Z t 7 a1 _) (ob_1 ht) rfl rfl (by decide) (by decide) (Nat.le_of_ble_eq_true rfl) ln_RX1_117 dX1_dropLetters_113 (fun gr70 _ J71 => ?_)
    exact wq_vret rfl rfl dX1_dropLetters_116

theorem M_Stp_countUses : MwV yX9_countUses cX9_countUses 3 (none) 1 := ⟨li_4 142 (by decide +kernel) (by decide +kernel), li_4 141 (by decide +kernel) (by decide +kernel), lw_in 32 (by decide +kernel) (by decide +kernel), li_1 4 (by decide +kernel) (by decide +kernel), by decide +kernel⟩
theorem M_Stp_lowestHardlyUsed : MwV yX9_lowestHardlyUsed cX9_lowestHardlyUsed 3 (some .int) 1 := ⟨li_4 154 (by decide +kernel) (by decide +kernel), li_4 153 (by decide +kernel) (by decide +kernel), lw_in 34 (by decide +kernel) (by decide +kernel), li_1 4 (by decide +kernel) (by decide +kernel), by decide +kernel⟩
theorem M_G_dissolve : MwV yX1_dissolve cX1_dissolve 7 (some .int) 2 := ⟨li_4 163 (by decide +kernel) (by decide +kernel), li_4 161 (by decide +kernel) (by decide +kernel), li_4 162 (by decide +kernel) (by decide +kernel), li_1 2 (by decide +kernel) (by decide +kernel), by decide +kernel⟩
theorem ln_RX9_60 : Cond.methodLink RX9 60 yX1_dissolve ∈ lw_good := li_4 160 (by decide +kernel) (by decide +kernel)
theorem ln_RX9_57 : Cond.methodLink RX9 57 yX9_lowestHardlyUsed ∈ lw_good := li_4 151 (by decide +kernel) (by decide +kernel)
theorem ln_RX9_54 : Cond.methodLink RX9 54 yX9_countUses ∈ lw_good := li_4 139 (by decide +kernel) (by decide +kernel)
noncomputable def f_Stp_inlineAll_w7 (v1 : Nat) (s : Int) (I : Mem) : Option (((Int) ⊕ (Int)) × Mem) :=
if (w32 s) < 40 then
bnd (f_Stp_lowestHardlyUsed v1 I) fun x6 J5 =>
if (w32 x6) = (-1) then
some (.inr (s), J5)
else
if 0 ≤ (w32 x6) ∧ (w32 x6) < 40 then
if (w32 (J5 17 0 (w32 x6).toNat)) = 1 then
bnd (f_G_dissolve v1 x6 2 J5) fun x20 J19 =>
some (.inl (s + 1), J19)
else
bnd (f_G_body v1 x6 J5) fun x10 J9 =>
if x10 < 516 then
bnd (f_Stp_noteUses x10 (-1) J9) fun _ J13 =>
bnd (f_G_dissolve v1 x6 3 J13) fun x17 J16 =>
some (.inl (s + 1), J16)
else none
else none
else
some (.inr (40), I)

noncomputable def f_Stp_inlineAll (a1 : Nat) (I : Mem) : Option ((Int) × Mem) :=
if a1 < 12 then
bnd (f_Stp_countUses a1 I) fun _ J2 =>
whl (f_Stp_inlineAll_w7 a1) 0 J2
else none
set_option maxRecDepth 20000 in
theorem R_Stp_inlineAll (Z : ZT) (a1 : Nat) (I : Mem) (r : Int) (J : Mem) (hf : f_Stp_inlineAll a1 I = some (r, J)) : Runs Z yX9_inlineAll cX9_inlineAll 4 (some .int) 4 [vr Z 3 0, vr Z 1 a1] I (some (vi r), J) := by
  refine Runs.of (rv := fun x => some (vi x)) (by decide +kernel) (Nat.le_of_ble_eq_true rfl) hf (fun gr => ?_)
  unfold f_Stp_inlineAll
  refine WQ.loc [0, 1] (lv' := [(0, vr Z 3 0), (1, vr Z 1 a1)]) rfl ?_
  refine wq_grd (fun h1 => ?_)
  refine wq_aload_n dX9_inlineAll_0 0 rfl rfl ?_
  refine wq_aload_n dX9_inlineAll_1 1 rfl rfl ?_
  refine wq_cVv M_Stp_countUses (R_Stp_countUses Z a1 _) ob_3 rfl rfl (by decide) (by decide) (Nat.le_of_ble_eq_true rfl) ln_RX9_54 dX9_inlineAll_2 (fun gr1 _ J2 => ?_)
  refine wq_iconst dX9_inlineAll_5 ?_
  refine wq_istore_n (lv' := [(2, vi 0), (0, vr Z 3 0), (1, vr Z 1 a1)]) dX9_inlineAll_6 rfl (by decide) rfl ?_
  refine WQ.loc [1, 2, 0] (lv' := [(0, vr Z 3 0), (1, vr Z 1 a1), (2, vi 0)]) rfl ?_
  refine wq_loop (fun s30 => [(0, vr Z 3 0), (1, vr Z 1 a1), (2, vi s30)]) (fun κ24 bk25 hr27 gr29 s30 J28 => ?_) gr1 _ rfl
  unfold f_Stp_inlineAll_w7
  refine wq_iload_n dX9_inlineAll_7 2 rfl rfl ?_
  refine wq_bipush dX9_inlineAll_8 (by decide) ?_
  refine wq_icmp_ge 69 dX9_inlineAll_10 (by decide) rfl rfl (fun c50 => ?_) (fun c50 => ?_)
  · refine wq_aload_n dX9_inlineAll_13 0 rfl rfl ?_
    refine wq_aload_n dX9_inlineAll_14 1 rfl rfl ?_
    refine wq_cVi M_Stp_lowestHardlyUsed (R_Stp_lowestHardlyUsed Z a1 _) ob_3 rfl rfl (by decide) (by decide) (Nat.le_of_ble_eq_true rfl) ln_RX9_57 dX9_inlineAll_15 (fun gr31 x33 J32 => ?_)
    refine wq_istore_n (lv' := [(3, vi x33), (0, vr Z 3 0), (1, vr Z 1 a1), (2, vi s30)]) dX9_inlineAll_18 rfl (by decide) rfl ?_
    refine wq_iload_n dX9_inlineAll_19 0 rfl rfl ?_
    refine wq_iconst dX9_inlineAll_20 ?_
    refine wq_icmp_ne 26 dX9_inlineAll_21 (by decide) rfl rfl (fun c49 => ?_) (fun c49 => ?_)
    · refine wq_iload_n dX9_inlineAll_24 3 rfl rfl ?_
      exact wq_iret rfl ((hr27 _ _).trans rfl) dX9_inlineAll_25
    · refine wq_aload_n dX9_inlineAll_26 1 rfl rfl ?_
      refine g_3_1 ln_RX9_18 dX9_inlineAll_27 ?_
      refine wq_iload_n dX9_inlineAll_30 0 rfl rfl ?_
      refine wq_grd (fun g34 => ?_)
      refine wq_iald (k := 17) (i := 0) rfl (by decide) rfl rfl (m := 40) g34 (Nat.le_refl _) dX9_inlineAll_31 ?_
      refine wq_iconst dX9_inlineAll_32 ?_
      refine wq_icmp_ne 46 dX9_inlineAll_33 (by decide) rfl rfl (fun c48 => ?_) (fun c48 => ?_)
      · refine wq_aload_n dX9_inlineAll_36 2 rfl rfl ?_
        refine wq_iload_n dX9_inlineAll_37 0 rfl rfl ?_
        refine wq_iconst dX9_inlineAll_38 ?_
        refine wq_cVi M_G_dissolve (R_G_dissolve Z a1 x33 2 _) (ob_1 h1) rfl rfl (by decide) (by decide) (Nat.le_of_ble_eq_true rfl) ln_RX9_60 dX9_inlineAll_39 (fun gr45 x47 J46 => ?_)
        refine wq_pop dX9_inlineAll_42 rfl ?_
        refine wq_goto 63 dX9_inlineAll_43 (by decide) ?_
        refine wq_iinc (lv' := [(2, vi (s30 + 1)), (3, vi x33), (0, vr Z 3 0), (1, vr Z 1 a1)]) dX9_inlineAll_63 3 rfl (by decide) rfl ?_
        refine wq_goto 7 dX9_inlineAll_66 (by decide) ?_
        exact WQ.loc [2, 3, 0] rfl (bk25 _ _ _)
      · refine wq_aload_n dX9_inlineAll_46 1 rfl rfl ?_
        refine wq_aload_n dX9_inlineAll_47 2 rfl rfl ?_
        refine wq_iload_n dX9_inlineAll_48 0 rfl rfl ?_
        refine wq_cVr 2 M_G_body (R_G_body Z a1 x33 _) (ob_1 h1) rfl rfl (by decide) (by decide) (Nat.le_of_ble_eq_true rfl) ln_RX9_63 dX9_inlineAll_49 (fun gr35 x37 J36 => ?_)
        refine wq_grd (fun g38 => ?_)
        refine wq_iconst dX9_inlineAll_52 ?_
        refine wq_cVv M_Stp_noteUses (R_Stp_noteUses Z x37 (-1) _) ob_3 rfl rfl (by decide) (by decide) (Nat.le_of_ble_eq_true rfl) ln_RX9_67 dX9_inlineAll_53 (fun gr39 _ J40 => ?_)
        refine wq_aload_n dX9_inlineAll_56 2 rfl rfl ?_
        refine wq_iload_n dX9_inlineAll_57 0 rfl rfl ?_
        refine wq_iconst dX9_inlineAll_58 ?_
        refine wq_cVi M_G_dissolve (R_G_dissolve Z a1 x33 3 _) (ob_1 h1) rfl rfl (by decide) (by decide) (Nat.le_of_ble_eq_true rfl) ln_RX9_60 dX9_inlineAll_59 (fun gr42 x44 J43 => ?_)
        refine wq_pop dX9_inlineAll_62 rfl ?_
        refine wq_iinc (lv' := [(2, vi (s30 + 1)), (3, vi x33), (0, vr Z 3 0), (1, vr Z 1 a1)]) dX9_inlineAll_63 3 rfl (by decide) rfl ?_
        refine wq_goto 7 dX9_inlineAll_66 (by decide) ?_
        exact WQ.loc [2, 3, 0] rfl (bk25 _ _ _)
  · refine wq_bipush dX9_inlineAll_69 (by decide) ?_
    exact wq_iret rfl ((hr27 _ _).trans rfl) dX9_inlineAll_71

theorem M_PT_clear : MwV yX3_clear cX3_clear 2 (none) 0 := ⟨li_4 41 (by decide +kernel) (by decide +kernel), li_4 40 (by decide +kernel) (by decide +kernel), lw_in 24 (by decide +kernel) (by decide +kernel), li_1 5 (by decide +kernel) (by decide +kernel), by decide +kernel⟩
theorem M_PT_noteKept : MwV yX3_noteKept cX3_noteKept 4 (none) 2 := ⟨li_4 51 (by decide +kernel) (by decide +kernel), li_4 50 (by decide +kernel) (by decide +kernel), lw_in 25 (by decide +kernel) (by decide +kernel), li_1 5 (by decide +kernel) (by decide +kernel), by decide +kernel⟩
theorem ln_RX3_54 : Cond.methodLink RX3 54 yX3_noteKept ∈ lw_good := li_4 48 (by decide +kernel) (by decide +kernel)
theorem ln_RX3_45 : Cond.methodLink RX3 45 yX1_body ∈ lw_good := li_4 46 (by decide +kernel) (by decide +kernel)
theorem ln_RX3_58 : Cond.methodLink RX3 58 yX1_startRow ∈ lw_good := li_4 64 (by decide +kernel) (by decide +kernel)
theorem M_PT_noteRow : MwV yX3_noteRow cX3_noteRow 7 (none) 2 := ⟨li_4 68 (by decide +kernel) (by decide +kernel), li_4 67 (by decide +kernel) (by decide +kernel), lw_in 27 (by decide +kernel) (by decide +kernel), li_1 5 (by decide +kernel) (by decide +kernel), by decide +kernel⟩
theorem ln_RX3_62 : Cond.methodLink RX3 62 yX3_noteRow ∈ lw_good := li_4 65 (by decide +kernel) (by decide +kernel)
theorem M_PT_choose : MwV yX3_choose cX3_choose 3 (none) 0 := ⟨li_4 76 (by decide +kernel) (by decide +kernel), li_4 75 (by decide +kernel) (by decide +kernel), lw_in 29 (by decide +kernel) (by decide +kernel), li_1 5 (by decide +kernel) (by decide +kernel), by decide +kernel⟩
theorem ln_RX3_66 : Cond.methodLink RX3 66 yX3_choose ∈ lw_good := li_4 73 (by decide +kernel) (by decide +kernel)
theorem ln_RX3_35 : Cond.methodLink RX3 35 yX1_lowestFree ∈ lw_good := li_4 42 (by decide +kernel) (by decide +kernel)
theorem ln_RX3_28 : Cond.methodLink RX3 28 yX3_clear ∈ lw_good := li_4 38 (by decide +kernel) (by decide +kernel)
noncomputable def f_PT_readFrom_w28 (v1 : Nat) (s : Int) (I : Mem) : Option (((Int) ⊕ (Unit)) × Mem) :=
if (w32 s) < 40 then
bnd (f_G_body v1 s I) fun x11 J10 =>
if x11 < 516 then
if (w32 (J10 2 x11 1)) = 2 then
bnd (f_G_body v1 s J10) fun x16 J15 =>
if x16 < 516 then
bnd (f_PT_noteKept s x16 J15) fun _ J19 =>
some (.inl (s + 1), J19)
else none
else
some (.inl (s + 1), J10)
else none
else
some (.inr (), I)

noncomputable def f_PT_readFrom_w73 (v1 : Nat) (s : Int) (I : Mem) : Option (((Int) ⊕ (Unit)) × Mem) :=
if (w32 s) < 40 then
bnd (f_G_body v1 s I) fun x53 J52 =>
if x53 < 516 then
if 2 < (w32 (J52 2 x53 1)) then
bnd (f_G_body v1 s J52) fun x58 J57 =>
if x58 < 516 then
bnd (f_PT_noteRow x58 ((s + 1) * 400) J57) fun _ J61 =>
some (.inl (s + 1), J61)
else none
else
some (.inl (s + 1), J52)
else none
else
some (.inr (), I)

noncomputable def f_PT_readFrom (a1 : Nat) (I : Mem) : Option ((Unit) × Mem) :=
if a1 < 12 then
bnd (f_PT_clear I) fun _ J2 =>
ltI (sI J2 4 0 5 ((a1 : Nat) : Int)) fun J4 =>
bnd (f_G_lowestFree a1 J4) fun x7 J6 =>
ltI (sI J6 4 0 6 (if (w32 x7) = (-1) then 0 else 1)) fun J8 =>
bnd (whl (f_PT_readFrom_w28 a1) 0 J8) fun r44 J45 =>
bnd (f_PT_noteRow (43 * a1) 0 J45) fun _ J49 =>
bnd (whl (f_PT_readFrom_w73 a1) 0 J49) fun r86 J87 =>
bnd (f_PT_choose J87) fun _ J90 =>
some ((), J90)
else none
set_option maxRecDepth 20000 in
theorem R_PT_readFrom (Z : ZT) (a1 : Nat) (I : Mem) (r : Unit) (J : Mem) (hf : f_PT_readFrom a1 I = some (r, J)) : Runs Z yX3_readFrom cX3_readFrom 3 (none) 4 [vr Z 4 0, vr Z 1 a1] I (none, J) := by
  refine Runs.of (rv := fun _ => none) (by decide +kernel) (Nat.le_of_ble_eq_true rfl) hf (fun gr => ?_)
  unfold f_PT_readFrom
  refine WQ.loc [0, 1] (lv' := [(0, vr Z 4 0), (1, vr Z 1 a1)]) rfl ?_
  refine wq_grd (fun h1 => ?_)
  refine wq_aload_n dX3_readFrom_0 0 rfl rfl ?_
  refine wq_cVv M_PT_clear (R_PT_clear Z _) ob_4 rfl rfl (by decide) (by decide) (Nat.le_of_ble_eq_true rfl) ln_RX3_28 dX3_readFrom_1 (fun gr1 _ J2 => ?_)
  refine wq_aload_n dX3_readFrom_4 0 rfl rfl ?_
  refine wq_aload_n dX3_readFrom_5 1 rfl rfl ?_
  refine p_4_5 ln_RX3_31 dX3_readFrom_6 (fun J4 => ?_)
  refine wq_aload_n dX3_readFrom_9 0 rfl rfl ?_
  refine wq_aload_n dX3_readFrom_10 1 rfl rfl ?_
  refine wq_cVi M_G_lowestFree (R_G_lowestFree Z a1 _) (ob_1 h1) rfl rfl (by decide) (by decide) (Nat.le_of_ble_eq_true rfl) ln_RX3_35 dX3_readFrom_11 (fun gr5 x7 J6 => ?_)
  refine wq_iconst dX3_readFrom_14 ?_
  refine WQ.via 23 [vi (if (w32 x7) = (-1) then 0 else 1), vr Z 4 0] (by
      refine p_4_6 (by split <;> simp) ln_RX3_41 dX3_readFrom_23 (fun J8 => ?_)
      refine wq_iconst dX3_readFrom_26 ?_
      refine wq_istore_n (lv' := [(2, vi 0), (0, vr Z 4 0), (1, vr Z 1 a1)]) dX3_readFrom_27 rfl (by decide) rfl ?_
      refine WQ.loc [1, 2, 0] (lv' := [(0, vr Z 4 0), (1, vr Z 1 a1), (2, vi 0)]) rfl ?_
      refine wq_loopS (fun s29 => [(0, vr Z 4 0), (1, vr Z 1 a1), (2, vi s29)]) 62 (fun _ => [(0, vr Z 4 0), (1, vr Z 1 a1)]) (fun κ23 bk24 ex25 gr28 s29 J27 => ?_) (fun gr46 r44 J45 => ?_) gr5 _ rfl
      · unfold f_PT_readFrom_w28
        refine wq_iload_n dX3_readFrom_28 2 rfl rfl ?_
        refine wq_bipush dX3_readFrom_29 (by decide) ?_
        refine wq_icmp_ge 62 dX3_readFrom_31 (by decide) rfl rfl (fun c43 => ?_) (fun c43 => ?_)
        · refine wq_aload_n dX3_readFrom_34 1 rfl rfl ?_
          refine wq_iload_n dX3_readFrom_35 2 rfl rfl ?_
          refine wq_cVr 2 M_G_body (R_G_body Z a1 s29 _) (ob_1 h1) rfl rfl (by decide) (by decide) (Nat.le_of_ble_eq_true rfl) ln_RX3_45 dX3_readFrom_36 (fun gr30 x32 J31 => ?_)
          refine wq_grd (fun g33 => ?_)
          refine wq_pV (v := vi (J31 2 x32 1)) M_Row_many (R_Row_many Z x32 _ _ _ (if_pos g33)) (ob_2 g33) rfl rfl (by decide) (by decide) (Nat.le_of_ble_eq_true rfl) ln_RX3_49 dX3_readFrom_39 (fun gr34 => ?_)
          refine wq_iconst dX3_readFrom_42 ?_
          refine wq_icmp_ne 56 dX3_readFrom_43 (by decide) rfl rfl (fun c42 => ?_) (fun c42 => ?_)
          · refine wq_aload_n dX3_readFrom_46 0 rfl rfl ?_
            refine wq_iload_n dX3_readFrom_47 2 rfl rfl ?_
            refine wq_aload_n dX3_readFrom_48 1 rfl rfl ?_
            refine wq_iload_n dX3_readFrom_49 2 rfl rfl ?_
            refine wq_cVr 2 M_G_body (R_G_body Z a1 s29 _) (ob_1 h1) rfl rfl (by decide) (by decide) (Nat.le_of_ble_eq_true rfl) ln_RX3_45 dX3_readFrom_50 (fun gr35 x37 J36 => ?_)
            refine wq_grd (fun g38 => ?_)
            refine wq_cVv M_PT_noteKept (R_PT_noteKept Z s29 x37 _) ob_4 rfl rfl (by decide) (by decide) (Nat.le_of_ble_eq_true rfl) ln_RX3_54 dX3_readFrom_53 (fun gr39 _ J40 => ?_)
            refine wq_iinc (lv' := [(2, vi (s29 + 1)), (0, vr Z 4 0), (1, vr Z 1 a1)]) dX3_readFrom_56 2 rfl (by decide) rfl ?_
            refine wq_goto 28 dX3_readFrom_59 (by decide) ?_
            exact WQ.loc [1, 2, 0] rfl (bk24 _ _ _)
          · refine wq_iinc (lv' := [(2, vi (s29 + 1)), (0, vr Z 4 0), (1, vr Z 1 a1)]) dX3_readFrom_56 2 rfl (by decide) rfl ?_
            refine wq_goto 28 dX3_readFrom_59 (by decide) ?_
            exact WQ.loc [1, 2, 0] rfl (bk24 _ _ _)
        · exact WQ.loc [0, 1] rfl (ex25 _ _ _)
      · refine wq_aload_n dX3_readFrom_62 0 rfl rfl ?_
        refine wq_aload_n dX3_readFrom_63 1 rfl rfl ?_
        refine wq_pV (v := vr Z 2 (43 * a1)) M_G_startRow (R_G_startRow Z a1 _ _ _ (if_pos h1)) (ob_1 h1) rfl rfl (by decide) (by decide) (Nat.le_of_ble_eq_true rfl) ln_RX3_58 dX3_readFrom_64 (fun gr47 => ?_)
        refine wq_iconst dX3_readFrom_67 ?_
        refine wq_cVv M_PT_noteRow (R_PT_noteRow Z (43 * a1) 0 _) ob_4 rfl rfl (by decide) (by decide) (Nat.le_of_ble_eq_true rfl) ln_RX3_62 dX3_readFrom_68 (fun gr48 _ J49 => ?_)
        refine wq_iconst dX3_readFrom_71 ?_
        refine wq_istore_n (lv' := [(2, vi 0), (0, vr Z 4 0), (1, vr Z 1 a1)]) dX3_readFrom_72 rfl (by decide) rfl ?_
        refine WQ.loc [1, 2, 0] (lv' := [(0, vr Z 4 0), (1, vr Z 1 a1), (2, vi 0)]) rfl ?_
        refine wq_loopS (fun s71 => [(0, vr Z 4 0), (1, vr Z 1 a1), (2, vi s71)]) 113 (fun _ => [(0, vr Z 4 0)]) (fun κ65 bk66 ex67 gr70 s71 J69 => ?_) (fun gr88 r86 J87 => ?_) gr48 _ rfl
        · unfold f_PT_readFrom_w73
          refine wq_iload_n dX3_readFrom_73 2 rfl rfl ?_
          refine wq_bipush dX3_readFrom_74 (by decide) ?_
          refine wq_icmp_ge 113 dX3_readFrom_76 (by decide) rfl rfl (fun c85 => ?_) (fun c85 => ?_)
          · refine wq_aload_n dX3_readFrom_79 1 rfl rfl ?_
            refine wq_iload_n dX3_readFrom_80 2 rfl rfl ?_
            refine wq_cVr 2 M_G_body (R_G_body Z a1 s71 _) (ob_1 h1) rfl rfl (by decide) (by decide) (Nat.le_of_ble_eq_true rfl) ln_RX3_45 dX3_readFrom_81 (fun gr72 x74 J73 => ?_)
            refine wq_grd (fun g75 => ?_)
            refine wq_pV (v := vi (J73 2 x74 1)) M_Row_many (R_Row_many Z x74 _ _ _ (if_pos g75)) (ob_2 g75) rfl rfl (by decide) (by decide) (Nat.le_of_ble_eq_true rfl) ln_RX3_49 dX3_readFrom_84 (fun gr76 => ?_)
            refine wq_iconst dX3_readFrom_87 ?_
            refine wq_icmp_le 107 dX3_readFrom_88 (by decide) rfl rfl (fun c84 => ?_) (fun c84 => ?_)
            · refine wq_aload_n dX3_readFrom_91 0 rfl rfl ?_
              refine wq_aload_n dX3_readFrom_92 1 rfl rfl ?_
              refine wq_iload_n dX3_readFrom_93 2 rfl rfl ?_
              refine wq_cVr 2 M_G_body (R_G_body Z a1 s71 _) (ob_1 h1) rfl rfl (by decide) (by decide) (Nat.le_of_ble_eq_true rfl) ln_RX3_45 dX3_readFrom_94 (fun gr77 x79 J78 => ?_)
              refine wq_grd (fun g80 => ?_)
              refine wq_iload_n dX3_readFrom_97 2 rfl rfl ?_
              refine wq_iconst dX3_readFrom_98 ?_
              refine wq_iadd dX3_readFrom_99 ?_
              refine wq_sipush dX3_readFrom_100 (by decide) ?_
              refine wq_imul dX3_readFrom_103 ?_
              refine wq_cVv M_PT_noteRow (R_PT_noteRow Z x79 ((s71 + 1) * 400) _) ob_4 rfl rfl (by decide) (by decide) (Nat.le_of_ble_eq_true rfl) ln_RX3_62 dX3_readFrom_104 (fun gr81 _ J82 => ?_)
              refine wq_iinc (lv' := [(2, vi (s71 + 1)), (0, vr Z 4 0), (1, vr Z 1 a1)]) dX3_readFrom_107 2 rfl (by decide) rfl ?_
              refine wq_goto 73 dX3_readFrom_110 (by decide) ?_
              exact WQ.loc [1, 2, 0] rfl (bk66 _ _ _)
            · refine wq_iinc (lv' := [(2, vi (s71 + 1)), (0, vr Z 4 0), (1, vr Z 1 a1)]) dX3_readFrom_107 2 rfl (by decide) rfl ?_
              refine wq_goto 73 dX3_readFrom_110 (by decide) ?_
              exact WQ.loc [1, 2, 0] rfl (bk66 _ _ _)
          · exact WQ.loc [0] rfl (ex67 _ _ _)
        · refine wq_aload_n dX3_readFrom_113 0 rfl rfl ?_
          refine wq_cVv M_PT_choose (R_PT_choose Z _) ob_4 rfl rfl (by decide) (by decide) (Nat.le_of_ble_eq_true rfl) ln_RX3_66 dX3_readFrom_114 (fun gr89 _ J90 => ?_)
          exact wq_vret rfl rfl dX3_readFrom_117) (fun hj92 => ?_)
  refine WQ.both ((w32 x7) = (-1)) ?_
  refine wq_icmp_eq 22 dX3_readFrom_15 (by decide) rfl rfl (fun c93 => ?_) (fun c93 => ?_)
  · refine wq_iconst dX3_readFrom_22 ?_
    exact WQ.top (if_pos c93) hj92
  · refine wq_iconst dX3_readFrom_18 ?_
    refine wq_goto 23 dX3_readFrom_19 (by decide) ?_
    exact WQ.top (if_neg c93) hj92

theorem M_Sv_orderByLength : MwV yX10_orderByLength cX10_orderByLength 5 (none) 1 := ⟨li_5 155 (by decide +kernel) (by decide +kernel), li_5 154 (by decide +kernel) (by decide +kernel), lw_in 44 (by decide +kernel) (by decide +kernel), li_1 6 (by decide +kernel) (by decide +kernel), by decide +kernel⟩
theorem M_Sv_deepestIn : MwV yX10_deepestIn cX10_deepestIn 4 (some .int) 1 := ⟨li_5 161 (by decide +kernel) (by decide +kernel), li_5 159 (by decide +kernel) (by decide +kernel), li_5 160 (by decide +kernel) (by decide +kernel), li_1 6 (by decide +kernel) (by decide +kernel), by decide +kernel⟩
theorem ln_RX10_44 : Cond.methodLink RX10 44 yX10_deepestIn ∈ lw_good := li_5 158 (by decide +kernel) (by decide +kernel)
theorem M_Sv_addComings : MwV yX10_addComings cX10_addComings 5 (none) 2 := ⟨li_5 169 (by decide +kernel) (by decide +kernel), li_5 168 (by decide +kernel) (by decide +kernel), lw_in 45 (by decide +kernel) (by decide +kernel), li_1 6 (by decide +kernel) (by decide +kernel), by decide +kernel⟩
theorem ln_RX10_52 : Cond.methodLink RX10 52 yX10_addComings ∈ lw_good := li_5 166 (by decide +kernel) (by decide +kernel)
theorem ln_RX10_30 : Cond.methodLink RX10 30 yX10_orderByLength ∈ lw_good := li_5 152 (by decide +kernel) (by decide +kernel)
noncomputable def f_Sv_measure_w7 (v1 : Nat) (s : Int) (I : Mem) : Option (((Int) ⊕ (Unit)) × Mem) :=
if (w32 s) < 40 then
if 0 ≤ (w32 s) ∧ (w32 s) < 40 then
ltI (sI I 18 1 (w32 s).toNat 0) fun J5 =>
ltI (sI J5 18 2 (w32 s).toNat 0) fun J6 =>
some (.inl (s + 1), J6)
else none
else
some (.inr (), I)

noncomputable def f_Sv_measure_w35 (v1 : Nat) (s : Int) (I : Mem) : Option (((Int) ⊕ (Unit)) × Mem) :=
if (w32 s) < (w32 (I 5 0 6)) then
if 0 ≤ (w32 s) ∧ (w32 s) < 40 then
bnd (f_G_body v1 (I 18 0 (w32 s).toNat) I) fun x25 J24 =>
if x25 < 516 then
bnd (f_Sv_deepestIn x25 J24) fun x29 J28 =>
if 0 ≤ (w32 (I 18 0 (w32 s).toNat)) ∧ (w32 (I 18 0 (w32 s).toNat)) < 40 then
ltI (sI J28 18 1 (w32 (I 18 0 (w32 s).toNat)).toNat (1 + x29)) fun J31 =>
some (.inl (s + 1), J31)
else none
else none
else none
else
some (.inr (), I)

noncomputable def f_Sv_measure_w92 (v1 : Nat) (s : Int) (I : Mem) : Option (((Int) ⊕ (Unit)) × Mem) :=
if (w32 s) < 0 then
some (.inr (), I)
else
if 0 ≤ (w32 s) ∧ (w32 s) < 40 then
bnd (f_G_body v1 (I 18 0 (w32 s).toNat) I) fun x61 J60 =>
if x61 < 516 then
if 0 ≤ (w32 (J60 18 0 (w32 s).toNat)) ∧ (w32 (J60 18 0 (w32 s).toNat)) < 40 then
bnd (f_Sv_addComings x61 (J60 18 2 (w32 (J60 18 0 (w32 s).toNat)).toNat) J60) fun _ J65 =>
some (.inl (s + (-1)), J65)
else none
else none
else none

noncomputable def f_Sv_measure (a1 : Nat) (I : Mem) : Option ((Unit) × Mem) :=
if a1 < 12 then
bnd (f_Sv_orderByLength a1 I) fun _ J2 =>
bnd (whl (f_Sv_measure_w7 a1) 0 J2) fun r19 J20 =>
bnd (whl (f_Sv_measure_w35 a1) 0 J20) fun r51 J52 =>
bnd (f_Sv_addComings (43 * a1) 1 J52) fun _ J56 =>
bnd (whl (f_Sv_measure_w92 a1) ((J56 5 0 6) - 1) J56) fun r85 J86 =>
some ((), J86)
else none
set_option maxRecDepth 20000 in
theorem R_Sv_measure (Z : ZT) (a1 : Nat) (I : Mem) (r : Unit) (J : Mem) (hf : f_Sv_measure a1 I = some (r, J)) : Runs Z yX10_measure cX10_measure 3 (none) 4 [vr Z 5 0, vr Z 1 a1] I (none, J) := by
  refine Runs.of (rv := fun _ => none) (by decide +kernel) (Nat.le_of_ble_eq_true rfl) hf (fun gr => ?_)
  unfold f_Sv_measure
  refine WQ.loc [0, 1] (lv' := [(0, vr Z 5 0), (1, vr Z 1 a1)]) rfl ?_
  refine wq_grd (fun h1 => ?_)
  refine wq_aload_n dX10_measure_0 0 rfl rfl ?_
  refine wq_aload_n dX10_measure_1 1 rfl rfl ?_
  refine wq_cVv M_Sv_orderByLength (R_Sv_orderByLength Z a1 _) ob_5 rfl rfl (by decide) (by decide) (Nat.le_of_ble_eq_true rfl) ln_RX10_30 dX10_measure_2 (fun gr1 _ J2 => ?_)
  refine wq_iconst dX10_measure_5 ?_
  refine wq_istore_n (lv' := [(2, vi 0), (0, vr Z 5 0), (1, vr Z 1 a1)]) dX10_measure_6 rfl (by decide) rfl ?_
  refine WQ.loc [1, 2, 0] (lv' := [(0, vr Z 5 0), (1, vr Z 1 a1), (2, vi 0)]) rfl ?_
  refine wq_loopS (fun s14 => [(0, vr Z 5 0), (1, vr Z 1 a1), (2, vi s14)]) 33 (fun _ => [(0, vr Z 5 0), (1, vr Z 1 a1)]) (fun κ8 bk9 ex10 gr13 s14 J12 => ?_) (fun gr21 r19 J20 => ?_) gr1 _ rfl
  · unfold f_Sv_measure_w7
    refine wq_iload_n dX10_measure_7 2 rfl rfl ?_
    refine wq_bipush dX10_measure_8 (by decide) ?_
    refine wq_icmp_ge 33 dX10_measure_10 (by decide) rfl rfl (fun c18 => ?_) (fun c18 => ?_)
    · refine wq_aload_n dX10_measure_13 0 rfl rfl ?_
      refine g_5_1 ln_RX10_15 dX10_measure_14 ?_
      refine wq_iload_n dX10_measure_17 2 rfl rfl ?_
      refine wq_iconst dX10_measure_18 ?_
      refine wq_grd (fun g15 => ?_)
      refine wq_iast (k := 18) (i := 1) (fun _ _ => rfl) (by decide) rfl rfl (m := 40) g15 (by decide) (by decide) (by decide) (by decide) dX10_measure_19 (fun J16 => ?_)
      refine wq_aload_n dX10_measure_20 0 rfl rfl ?_
      refine g_5_2 ln_RX10_18 dX10_measure_21 ?_
      refine wq_iload_n dX10_measure_24 2 rfl rfl ?_
      refine wq_iconst dX10_measure_25 ?_
      refine wq_iast (k := 18) (i := 2) (fun _ _ => rfl) (by decide) rfl rfl (m := 40) g15 (by decide) (by decide) (by decide) (by decide) dX10_measure_26 (fun J17 => ?_)
      refine wq_iinc (lv' := [(2, vi (s14 + 1)), (0, vr Z 5 0), (1, vr Z 1 a1)]) dX10_measure_27 2 rfl (by decide) rfl ?_
      refine wq_goto 7 dX10_measure_30 (by decide) ?_
      exact WQ.loc [1, 2, 0] rfl (bk9 _ _ _)
    · exact WQ.loc [0, 1] rfl (ex10 _ _ _)
  · refine wq_iconst dX10_measure_33 ?_
    refine wq_istore_n (lv' := [(2, vi 0), (0, vr Z 5 0), (1, vr Z 1 a1)]) dX10_measure_34 rfl (by decide) rfl ?_
    refine WQ.loc [1, 2, 0] (lv' := [(0, vr Z 5 0), (1, vr Z 1 a1), (2, vi 0)]) rfl ?_
    refine wq_loopS (fun s39 => [(0, vr Z 5 0), (1, vr Z 1 a1), (2, vi s39)]) 76 (fun _ => [(0, vr Z 5 0), (1, vr Z 1 a1)]) (fun κ33 bk34 ex35 gr38 s39 J37 => ?_) (fun gr53 r51 J52 => ?_) gr21 _ rfl
    · unfold f_Sv_measure_w35
      refine wq_iload_n dX10_measure_35 2 rfl rfl ?_
      refine wq_aload_n dX10_measure_36 0 rfl rfl ?_
      refine g_5_6 ln_RX10_34 dX10_measure_37 ?_
      refine wq_icmp_ge 76 dX10_measure_40 (by decide) rfl rfl (fun c50 => ?_) (fun c50 => ?_)
      · refine wq_aload_n dX10_measure_43 0 rfl rfl ?_
        refine g_5_1 ln_RX10_15 dX10_measure_44 ?_
        refine wq_aload_n dX10_measure_47 0 rfl rfl ?_
        refine g_5_0 ln_RX10_9 dX10_measure_48 ?_
        refine wq_iload_n dX10_measure_51 2 rfl rfl ?_
        refine wq_grd (fun g40 => ?_)
        refine wq_iald (k := 18) (i := 0) rfl (by decide) rfl rfl (m := 40) g40 (by decide) dX10_measure_52 ?_
        refine wq_iconst dX10_measure_53 ?_
        refine wq_aload_n dX10_measure_54 0 rfl rfl ?_
        refine wq_aload_n dX10_measure_55 1 rfl rfl ?_
        refine wq_aload_n dX10_measure_56 0 rfl rfl ?_
        refine g_5_0 ln_RX10_9 dX10_measure_57 ?_
        refine wq_iload_n dX10_measure_60 2 rfl rfl ?_
        refine wq_iald (k := 18) (i := 0) rfl (by decide) rfl rfl (m := 40) g40 (by decide) dX10_measure_61 ?_
        refine wq_cVr 2 M_G_body (R_G_body Z a1 (J37 18 0 (w32 s39).toNat) _) (ob_1 h1) rfl rfl (by decide) (by decide) (Nat.le_of_ble_eq_true rfl) ln_RX10_38 dX10_measure_62 (fun gr41 x43 J42 => ?_)
        refine wq_grd (fun g44 => ?_)
        refine wq_cVi M_Sv_deepestIn (R_Sv_deepestIn Z x43 _) ob_5 rfl rfl (by decide) (by decide) (Nat.le_of_ble_eq_true rfl) ln_RX10_44 dX10_measure_65 (fun gr45 x47 J46 => ?_)
        refine wq_iadd dX10_measure_68 ?_
        refine wq_grd (fun g48 => ?_)
        refine wq_iast (k := 18) (i := 1) (fun _ _ => rfl) (by decide) rfl rfl (m := 40) g48 (by decide) (by decide) (by decide) (by decide) dX10_measure_69 (fun J49 => ?_)
        refine wq_iinc (lv' := [(2, vi (s39 + 1)), (0, vr Z 5 0), (1, vr Z 1 a1)]) dX10_measure_70 2 rfl (by decide) rfl ?_
        refine wq_goto 35 dX10_measure_73 (by decide) ?_
        exact WQ.loc [1, 2, 0] rfl (bk34 _ _ _)
      · exact WQ.loc [0, 1] rfl (ex35 _ _ _)
    · refine wq_aload_n dX10_measure_76 0 rfl rfl ?_
      refine wq_aload_n dX10_measure_77 1 rfl rfl ?_
      refine wq_pV (v := vr Z 2 (43 * a1)) M_G_startRow (R_G_startRow Z a1 _ _ _ (if_pos h1)) (ob_1 h1) rfl rfl (by decide) (by decide) (Nat.le_of_ble_eq_true rfl) ln_RX10_48 dX10_measure_78 (fun gr54 => ?_)
      refine wq_iconst dX10_measure_81 ?_
      refine wq_cVv M_Sv_addComings (R_Sv_addComings Z (43 * a1) 1 _) ob_5 rfl rfl (by decide) (by decide) (Nat.le_of_ble_eq_true rfl) ln_RX10_52 dX10_measure_82 (fun gr55 _ J56 => ?_)
      refine wq_aload_n dX10_measure_85 0 rfl rfl ?_
      refine g_5_6 ln_RX10_34 dX10_measure_86 ?_
      refine wq_iconst dX10_measure_89 ?_
      refine wq_isub dX10_measure_90 ?_
      refine wq_istore_n (lv' := [(2, vi ((J56 5 0 6) - 1)), (0, vr Z 5 0), (1, vr Z 1 a1)]) dX10_measure_91 rfl (by decide) rfl ?_
      refine WQ.loc [1, 2, 0] (lv' := [(0, vr Z 5 0), (1, vr Z 1 a1), (2, vi ((J56 5 0 6) - 1))]) rfl ?_
      refine wq_loopS (fun s74 => [(0, vr Z 5 0), (1, vr Z 1 a1), (2, vi s74)]) 127 (fun _ => []) (fun κ68 bk69 ex70 gr73 s74 J72 => ?_) (fun gr87 r85 J86 => ?_) gr55 _ rfl
      · unfold f_Sv_measure_w92
        refine wq_iload_n dX10_measure_92 2 rfl rfl ?_
        refine wq_if_lt 127 dX10_measure_93 (by decide) rfl (fun c84 => ?_) (fun c84 => ?_)
        · exact WQ.loc [] rfl (ex70 _ _ _)
        · refine wq_aload_n dX10_measure_96 0 rfl rfl ?_
          refine wq_aload_n dX10_measure_97 1 rfl rfl ?_
          refine wq_aload_n dX10_measure_98 0 rfl rfl ?_
          refine g_5_0 ln_RX10_9 dX10_measure_99 ?_
          refine wq_iload_n dX10_measure_102 2 rfl rfl ?_
          refine wq_grd (fun g75 => ?_)
          refine wq_iald (k := 18) (i := 0) rfl (by decide) rfl rfl (m := 40) g75 (by decide) dX10_measure_103 ?_
          refine wq_cVr 2 M_G_body (R_G_body Z a1 (J72 18 0 (w32 s74).toNat) _) (ob_1 h1) rfl rfl (by decide) (by decide) (Nat.le_of_ble_eq_true rfl) ln_RX10_38 dX10_measure_104 (fun gr76 x78 J77 => ?_)
          refine wq_grd (fun g79 => ?_)
          refine wq_aload_n dX10_measure_107 0 rfl rfl ?_
          refine g_5_2 ln_RX10_18 dX10_measure_108 ?_
          refine wq_aload_n dX10_measure_111 0 rfl rfl ?_
          refine g_5_0 ln_RX10_9 dX10_measure_112 ?_
          refine wq_iload_n dX10_measure_115 2 rfl rfl ?_
          refine wq_iald (k := 18) (i := 0) rfl (by decide) rfl rfl (m := 40) g75 (by decide) dX10_measure_116 ?_
          refine wq_grd (fun g80 => ?_)
          refine wq_iald (k := 18) (i := 2) rfl (by decide) rfl rfl (m := 40) g80 (by decide) dX10_measure_117 ?_
          refine wq_cVv M_Sv_addComings (R_Sv_addComings Z x78 (J77 18 2 (w32 (J77 18 0 (w32 s74).toNat)).toNat) _) ob_5 rfl rfl (by decide) (by decide) (Nat.le_of_ble_eq_true rfl) ln_RX10_52 dX10_measure_118 (fun gr81 _ J82 => ?_)
          refine wq_iinc (lv' := [(2, vi (s74 + (-1))), (0, vr Z 5 0), (1, vr Z 1 a1)]) dX10_measure_121 2 rfl (by decide) rfl ?_
          refine wq_goto 92 dX10_measure_124 (by decide) ?_
          exact WQ.loc [1, 2, 0] rfl (bk69 _ _ _)
      · exact wq_vret rfl rfl dX10_measure_127

theorem ln_RX8_28 : Cond.methodLink RX8 28 yX8_advance ∈ lw_good := li_2 164 (by decide +kernel) (by decide +kernel)
noncomputable def f_Src_rewind  (I : Mem) : Option ((Unit) × Mem) :=
ltI (sI I 6 0 4 0) fun J1 =>
ltI (sI J1 6 0 6 0) fun J2 =>
ltI (sI J2 6 0 7 (-1)) fun J3 =>
bnd (f_Src_advance J3) fun _ J5 =>
some ((), J5)
set_option maxRecDepth 20000 in
theorem R_Src_rewind (Z : ZT)  (I : Mem) (r : Unit) (J : Mem) (hf : f_Src_rewind I = some (r, J)) : Runs Z yX8_rewind cX8_rewind 1 (none) 3 [vr Z 6 0] I (none, J) := by
  refine Runs.of (rv := fun _ => none) (by decide +kernel) (Nat.le_of_ble_eq_true rfl) hf (fun gr => ?_)
  unfold f_Src_rewind
  refine WQ.loc [0] (lv' := [(0, vr Z 6 0)]) rfl ?_
  refine wq_aload_n dX8_rewind_0 0 rfl rfl ?_
  refine wq_iconst dX8_rewind_1 ?_
  refine p_6_4 ln_RX8_19 dX8_rewind_2 (fun J1 => ?_)
  refine wq_aload_n dX8_rewind_5 0 rfl rfl ?_
  refine wq_iconst dX8_rewind_6 ?_
  refine p_6_6 ln_RX8_22 dX8_rewind_7 (fun J2 => ?_)
  refine wq_aload_n dX8_rewind_10 0 rfl rfl ?_
  refine wq_iconst dX8_rewind_11 ?_
  refine p_6_7 ln_RX8_25 dX8_rewind_12 (fun J3 => ?_)
  refine wq_aload_n dX8_rewind_15 0 rfl rfl ?_
  refine wq_cVv M_Src_advance (R_Src_advance Z _) ob_6 rfl rfl (by decide) (by decide) (Nat.le_of_ble_eq_true rfl) ln_RX8_28 dX8_rewind_16 (fun gr4 _ J5 => ?_)
  exact wq_vret rfl rfl dX8_rewind_19

theorem ln_RX8_72 : Cond.methodLink RX8 72 yX8_fail ∈ lw_good := li_3 44 (by decide +kernel) (by decide +kernel)
noncomputable def f_Src_readNumber_w44 (v1 : Int) (v2 : Int) (s : Int) (I : Mem) : Option (((Int) ⊕ (Unit)) × Mem) :=
if (w32 s) < (w32 (I 6 0 4)) then
bnd (f_Src_byteAt s I) fun x4 J3 =>
ltI (sI J3 6 0 5 ((((I 6 0 5) * 10) + x4) - 48)) fun J5 =>
some (.inl (s + 1), J5)
else
some (.inr (), I)

noncomputable def f_Src_readNumber_j94    (I : Mem) : Option ((Int) × Mem) :=
bnd (f_Src_fail 2 I) fun x27 J26 =>
if (w32 x27) = 0 then
some (0, J26)
else
some (1, J26)

noncomputable def f_Src_readNumber (a1 : Int) (a2 : Int) (I : Mem) : Option ((Int) × Mem) :=
if (w32 (I 6 0 2)) = 2 then
if 6 < (w32 ((I 6 0 4) - (I 6 0 3))) then
bnd (f_Src_fail 2 I) fun x37 J36 =>
if x37 = 0 ∨ x37 = 1 then
some (x37, J36)
else none
else
ltI (sI I 6 0 5 0) fun J1 =>
bnd (whl (f_Src_readNumber_w44 a1 a2) (J1 6 0 3) J1) fun r19 J20 =>
if (w32 (J20 6 0 5)) < (w32 a1) then
f_Src_readNumber_j94 J20
else
if (w32 a2) < (w32 (J20 6 0 5)) then
f_Src_readNumber_j94 J20
else
some (1, J20)
else
bnd (f_Src_fail 1 I) fun x42 J41 =>
if x42 = 0 ∨ x42 = 1 then
some (x42, J41)
else none
set_option maxRecDepth 20000 in
theorem R_Src_readNumber (Z : ZT) (a1 : Int) (a2 : Int) (I : Mem) (r : Int) (J : Mem) (hf : f_Src_readNumber a1 a2 I = some (r, J)) : Runs Z yX8_readNumber cX8_readNumber 4 (some .boolean) 3 [vr Z 6 0, vi a1, vi a2] I (some (vi r), J) := by
  refine Runs.of (rv := fun x => some (vi x)) (by decide +kernel) (Nat.le_of_ble_eq_true rfl) hf (fun gr => ?_)
  unfold f_Src_readNumber
  refine WQ.loc [0, 1, 2] (lv' := [(0, vr Z 6 0), (1, vi a1), (2, vi a2)]) rfl ?_
  refine wq_aload_n dX8_readNumber_0 0 rfl rfl ?_
  refine g_6_2 ln_RX8_38 dX8_readNumber_1 ?_
  refine wq_iconst dX8_readNumber_4 ?_
  refine wq_icmp_eq 14 dX8_readNumber_5 (by decide) rfl rfl (fun c44 => ?_) (fun c44 => ?_)
  · refine wq_aload_n dX8_readNumber_14 0 rfl rfl ?_
    refine g_6_4 ln_RX8_19 dX8_readNumber_15 ?_
    refine wq_aload_n dX8_readNumber_18 0 rfl rfl ?_
    refine g_6_3 ln_RX8_31 dX8_readNumber_19 ?_
    refine wq_isub dX8_readNumber_22 ?_
    refine wq_bipush dX8_readNumber_23 (by decide) ?_
    refine wq_icmp_le 34 dX8_readNumber_25 (by decide) rfl rfl (fun c39 => ?_) (fun c39 => ?_)
    · refine wq_aload_n dX8_readNumber_28 0 rfl rfl ?_
      refine wq_iconst dX8_readNumber_29 ?_
      refine wq_cVi M_Src_fail (R_Src_fail Z 2 _) ob_6 rfl rfl (by decide) (by decide) (Nat.le_of_ble_eq_true rfl) ln_RX8_72 dX8_readNumber_30 (fun gr35 x37 J36 => ?_)
      refine wq_grd (fun g38 => ?_)
      exact wq_zret rfl g38 rfl dX8_readNumber_33
    · refine wq_aload_n dX8_readNumber_34 0 rfl rfl ?_
      refine wq_iconst dX8_readNumber_35 ?_
      refine p_6_5 ln_RX8_76 dX8_readNumber_36 (fun J1 => ?_)
      refine wq_aload_n dX8_readNumber_39 0 rfl rfl ?_
      refine g_6_3 ln_RX8_31 dX8_readNumber_40 ?_
      refine wq_istore_n (lv' := [(3, vi (J1 6 0 3)), (0, vr Z 6 0), (1, vi a1), (2, vi a2)]) dX8_readNumber_43 rfl (by decide) rfl ?_
      refine WQ.loc [1, 2, 3, 0] (lv' := [(0, vr Z 6 0), (1, vi a1), (2, vi a2), (3, vi (J1 6 0 3))]) rfl ?_
      refine wq_loopS (fun s13 => [(0, vr Z 6 0), (1, vi a1), (2, vi a2), (3, vi s13)]) 78 (fun _ => [(0, vr Z 6 0), (1, vi a1), (2, vi a2)]) (fun κ7 bk8 ex9 gr12 s13 J11 => ?_) (fun gr21 r19 J20 => ?_) gr _ rfl
      · unfold f_Src_readNumber_w44
        refine wq_iload_n dX8_readNumber_44 3 rfl rfl ?_
        refine wq_aload_n dX8_readNumber_45 0 rfl rfl ?_
        refine g_6_4 ln_RX8_19 dX8_readNumber_46 ?_
        refine wq_icmp_ge 78 dX8_readNumber_49 (by decide) rfl rfl (fun c18 => ?_) (fun c18 => ?_)
        · refine wq_aload_n dX8_readNumber_52 0 rfl rfl ?_
          refine wq_aload_n dX8_readNumber_53 0 rfl rfl ?_
          refine g_6_5 ln_RX8_76 dX8_readNumber_54 ?_
          refine wq_bipush dX8_readNumber_57 (by decide) ?_
          refine wq_imul dX8_readNumber_59 ?_
          refine wq_aload_n dX8_readNumber_60 0 rfl rfl ?_
          refine wq_iload_n dX8_readNumber_61 3 rfl rfl ?_
          refine wq_cVi M_Src_byteAt (R_Src_byteAt Z s13 _) ob_6 rfl rfl (by decide) (by decide) (Nat.le_of_ble_eq_true rfl) ln_RX8_65 dX8_readNumber_62 (fun gr14 x16 J15 => ?_)
          refine wq_iadd dX8_readNumber_65 ?_
          refine wq_bipush dX8_readNumber_66 (by decide) ?_
          refine wq_isub dX8_readNumber_68 ?_
          refine p_6_5 ln_RX8_76 dX8_readNumber_69 (fun J17 => ?_)
          refine wq_iinc (lv' := [(3, vi (s13 + 1)), (0, vr Z 6 0), (1, vi a1), (2, vi a2)]) dX8_readNumber_72 3 rfl (by decide) rfl ?_
          refine wq_goto 44 dX8_readNumber_75 (by decide) ?_
          exact WQ.loc [1, 2, 3, 0] rfl (bk8 _ _ _)
        · exact WQ.loc [0, 1, 2] rfl (ex9 _ _ _)
      · refine wq_aload_n dX8_readNumber_78 0 rfl rfl ?_
        refine g_6_5 ln_RX8_76 dX8_readNumber_79 ?_
        refine wq_iload_n dX8_readNumber_82 1 rfl rfl ?_
        have hj22 : ∀ (gr30 : Nat → Nat)   (J29 : Mem), WQ Z (yX8_readNumber, cX8_readNumber, 4, some .boolean, 3) I gr30 94 [(0, vr Z 6 0)] [] J29 (f_Src_readNumber_j94 J29) (fun b K => some (.inl ((fun x => some (vi x)) b), K)) := by
          intro gr30 J29
          unfold f_Src_readNumber_j94
          refine wq_aload_n dX8_readNumber_94 0 rfl rfl ?_
          refine wq_iconst dX8_readNumber_95 ?_
          refine wq_cVi M_Src_fail (R_Src_fail Z 2 _) ob_6 rfl rfl (by decide) (by decide) (Nat.le_of_ble_eq_true rfl) ln_RX8_72 dX8_readNumber_96 (fun gr31 x33 J32 => ?_)
          refine wq_if_eq 106 dX8_readNumber_99 (by decide) rfl (fun c34 => ?_) (fun c34 => ?_)
          · refine wq_iconst dX8_readNumber_106 ?_
            exact wq_zret rfl (by decide) rfl dX8_readNumber_107
          · refine wq_iconst dX8_readNumber_102 ?_
            refine wq_goto 107 dX8_readNumber_103 (by decide) ?_
            exact wq_zret rfl (by decide) rfl dX8_readNumber_107
        refine wq_icmp_lt 94 dX8_readNumber_83 (by decide) rfl rfl (fun c24 => ?_) (fun c24 => ?_)
        · exact WQ.loc [0] rfl (hj22 _   _)
        · refine wq_aload_n dX8_readNumber_86 0 rfl rfl ?_
          refine g_6_5 ln_RX8_76 dX8_readNumber_87 ?_
          refine wq_iload_n dX8_readNumber_90 2 rfl rfl ?_
          refine wq_icmp_le 102 dX8_readNumber_91 (by decide) rfl rfl (fun c23 => ?_) (fun c23 => ?_)
          · exact WQ.loc [0] rfl (hj22 _   _)
          · refine wq_iconst dX8_readNumber_102 ?_
            refine wq_goto 107 dX8_readNumber_103 (by decide) ?_
            exact wq_zret rfl (by decide) rfl dX8_readNumber_107
  · refine wq_aload_n dX8_readNumber_8 0 rfl rfl ?_
    refine wq_iconst dX8_readNumber_9 ?_
    refine wq_cVi M_Src_fail (R_Src_fail Z 1 _) ob_6 rfl rfl (by decide) (by decide) (Nat.le_of_ble_eq_true rfl) ln_RX8_72 dX8_readNumber_10 (fun gr40 x42 J41 => ?_)
    refine wq_grd (fun g43 => ?_)
    exact wq_zret rfl g43 rfl dX8_readNumber_13

noncomputable def f_Src_pass (a1 : Int) (I : Mem) : Option ((Int) × Mem) :=
if (w32 (I 6 0 2)) = (w32 a1) then
bnd (f_Src_advance I) fun _ J2 =>
some (1, J2)
else
bnd (f_Src_fail 1 I) fun x6 J5 =>
if x6 = 0 ∨ x6 = 1 then
some (x6, J5)
else none
set_option maxRecDepth 20000 in
theorem R_Src_pass (Z : ZT) (a1 : Int) (I : Mem) (r : Int) (J : Mem) (hf : f_Src_pass a1 I = some (r, J)) : Runs Z yX8_pass cX8_pass 2 (some .boolean) 3 [vr Z 6 0, vi a1] I (some (vi r), J) := by
  refine Runs.of (rv := fun x => some (vi x)) (by decide +kernel) (Nat.le_of_ble_eq_true rfl) hf (fun gr => ?_)
  unfold f_Src_pass
  refine WQ.loc [0, 1] (lv' := [(0, vr Z 6 0), (1, vi a1)]) rfl ?_
  refine wq_aload_n dX8_pass_0 0 rfl rfl ?_
  refine g_6_2 ln_RX8_38 dX8_pass_1 ?_
  refine wq_iload_n dX8_pass_4 1 rfl rfl ?_
  refine wq_icmp_eq 14 dX8_pass_5 (by decide) rfl rfl (fun c8 => ?_) (fun c8 => ?_)
  · refine wq_aload_n dX8_pass_14 0 rfl rfl ?_
    refine wq_cVv M_Src_advance (R_Src_advance Z _) ob_6 rfl rfl (by decide) (by decide) (Nat.le_of_ble_eq_true rfl) ln_RX8_28 dX8_pass_15 (fun gr1 _ J2 => ?_)
    refine wq_iconst dX8_pass_18 ?_
    exact wq_zret rfl (by decide) rfl dX8_pass_19
  · refine wq_aload_n dX8_pass_8 0 rfl rfl ?_
    refine wq_iconst dX8_pass_9 ?_
    refine wq_cVi M_Src_fail (R_Src_fail Z 1 _) ob_6 rfl rfl (by decide) (by decide) (Nat.le_of_ble_eq_true rfl) ln_RX8_72 dX8_pass_10 (fun gr4 x6 J5 => ?_)
    refine wq_grd (fun g7 => ?_)
    exact wq_zret rfl g7 rfl dX8_pass_13

theorem ln_RX7_57 : Cond.fieldLink RX7 57 RX11 "RULE" "LPairRules$Word;" ∈ lw_good := li_2 239 (by decide +kernel) (by decide +kernel)
theorem ln_RX7_124 : Cond.fieldLinkNest RX7 124 RX11 "lowest" "I" RX12 ∈ lw_nw := nw_in 2322 (by decide +kernel) (by decide +kernel)
theorem ln_RX7_127 : Cond.fieldLinkNest RX7 127 RX11 "highest" "I" RX12 ∈ lw_nw := nw_in 2323 (by decide +kernel) (by decide +kernel)
theorem M_Src_readNumber : MwV yX8_readNumber cX8_readNumber 4 (some .boolean) 2 := ⟨li_3 43 (by decide +kernel) (by decide +kernel), li_3 41 (by decide +kernel) (by decide +kernel), li_3 42 (by decide +kernel) (by decide +kernel), li_1 7 (by decide +kernel) (by decide +kernel), by decide +kernel⟩
theorem ln_RX7_81 : Cond.methodLink RX7 81 yX5_many ∈ lw_good := li_3 45 (by decide +kernel) (by decide +kernel)
theorem M_Src_value : MwV yX8_value cX8_value 1 (some .int) 0 := ⟨li_3 53 (by decide +kernel) (by decide +kernel), li_3 51 (by decide +kernel) (by decide +kernel), li_3 52 (by decide +kernel) (by decide +kernel), li_1 7 (by decide +kernel) (by decide +kernel), by decide +kernel⟩
theorem ln_RX7_137 : Cond.methodLink RX7 137 yX8_value ∈ lw_good := li_3 50 (by decide +kernel) (by decide +kernel)
theorem ln_RX7_24 : Cond.fieldLink RX7 24 RX7 "rulesTold" "I" ∈ lw_good := li_1 210 (by decide +kernel) (by decide +kernel)
theorem M_Src_pass : MwV yX8_pass cX8_pass 2 (some .boolean) 1 := ⟨li_3 61 (by decide +kernel) (by decide +kernel), li_3 59 (by decide +kernel) (by decide +kernel), li_3 60 (by decide +kernel) (by decide +kernel), li_1 7 (by decide +kernel) (by decide +kernel), by decide +kernel⟩
theorem ln_RX7_87 : Cond.methodLink RX7 87 yX8_pass ∈ lw_good := li_3 58 (by decide +kernel) (by decide +kernel)
theorem ln_RX7_134 : Cond.methodLink RX7 134 yX8_failAt ∈ lw_good := li_3 49 (by decide +kernel) (by decide +kernel)
theorem ln_RX7_140 : Cond.methodLink RX7 140 yX1_lengthOf ∈ lw_good := li_3 54 (by decide +kernel) (by decide +kernel)
theorem ln_RX7_130 : Cond.methodLink RX7 130 yX8_readNumber ∈ lw_good := li_3 40 (by decide +kernel) (by decide +kernel)
noncomputable def f_Set_readRule (a1 : Nat) (I : Mem) : Option ((Int) × Mem) :=
if a1 < 516 then
bnd (f_Src_advance I) fun _ J3 =>
bnd (f_Src_readNumber (wLow 0) (wHig 0) J3) fun x7 J6 =>
if (w32 x7) = 0 then
some (0, J6)
else
if (w32 (J6 2 a1 1)) < 400 then
if (w32 (J6 6 0 5)) < (w32 (J6 7 0 2)) then
bnd (f_G_lengthOf 1 (26 + (J6 6 0 5)) J6) fun x12 J11 =>
ltI (sI J11 7 0 3 ((J6 7 0 3) + x12)) fun J13 =>
if 400 < (w32 (J13 7 0 3)) then
bnd (f_Src_failAt 5 (I 6 0 3) J13) fun x26 J25 =>
if x26 = 0 ∨ x26 = 1 then
some (x26, J25)
else none
else
bnd (f_Row_put a1 (26 + (J6 6 0 5)) J13) fun _ J15 =>
bnd (f_Src_advance J15) fun _ J18 =>
bnd (f_Src_pass 5 J18) fun x22 J21 =>
if x22 = 0 ∨ x22 = 1 then
some (x22, J21)
else none
else
bnd (f_Src_fail 4 J6) fun x31 J30 =>
if x31 = 0 ∨ x31 = 1 then
some (x31, J30)
else none
else
bnd (f_Src_failAt 5 (I 6 0 3) J6) fun x36 J35 =>
if x36 = 0 ∨ x36 = 1 then
some (x36, J35)
else none
else none
set_option maxRecDepth 20000 in
theorem R_Set_readRule (Z : ZT) (a1 : Nat) (I : Mem) (r : Int) (J : Mem) (hf : f_Set_readRule a1 I = some (r, J)) : Runs Z yX7_readRule cX7_readRule 4 (some .boolean) 4 [vr Z 7 0, vr Z 2 a1] I (some (vi r), J) := by
  refine Runs.of (rv := fun x => some (vi x)) (by decide +kernel) (Nat.le_of_ble_eq_true rfl) hf (fun gr => ?_)
  unfold f_Set_readRule
  refine WQ.loc [0, 1] (lv' := [(0, vr Z 7 0), (1, vr Z 2 a1)]) rfl ?_
  refine wq_grd (fun h1 => ?_)
  refine wq_aload_n dX7_readRule_0 0 rfl rfl ?_
  refine g_7_0 ln_RX7_9 dX7_readRule_1 ?_
  refine wq_pV (v := vi (I 6 0 3)) M_Src_from (R_Src_from Z  _ _ _ rfl) ob_6 rfl rfl (by decide) (by decide) (Nat.le_of_ble_eq_true rfl) ln_RX7_113 dX7_readRule_4 (fun gr1 => ?_)
  refine wq_istore_n (lv' := [(2, vi (I 6 0 3)), (0, vr Z 7 0), (1, vr Z 2 a1)]) dX7_readRule_7 rfl (by decide) rfl ?_
  refine wq_aload_n dX7_readRule_8 1 rfl rfl ?_
  refine g_7_0 ln_RX7_9 dX7_readRule_9 ?_
  refine wq_cVv M_Src_advance (R_Src_advance Z _) ob_6 rfl rfl (by decide) (by decide) (Nat.le_of_ble_eq_true rfl) ln_RX7_67 dX7_readRule_12 (fun gr2 _ J3 => ?_)
  refine wq_aload_n dX7_readRule_15 1 rfl rfl ?_
  refine g_7_0 ln_RX7_9 dX7_readRule_16 ?_
  refine wq_gets (sta_word 0 (by decide)) ln_RX7_57 dX7_readRule_19 ?_
  refine wq_wordLowest (by decide) ln_RX7_124 dX7_readRule_22 ?_
  refine wq_gets (sta_word 0 (by decide)) ln_RX7_57 dX7_readRule_25 ?_
  refine wq_wordHighest (by decide) ln_RX7_127 dX7_readRule_28 ?_
  refine wq_cVi M_Src_readNumber (R_Src_readNumber Z (wLow 0) (wHig 0) _) ob_6 rfl rfl (by decide) (by decide) (Nat.le_of_ble_eq_true rfl) ln_RX7_130 dX7_readRule_31 (fun gr5 x7 J6 => ?_)
  refine wq_if_ne 39 dX7_readRule_34 (by decide) rfl (fun c39 => ?_) (fun c39 => ?_)
  · refine wq_iconst dX7_readRule_37 ?_
    exact wq_zret rfl (by decide) rfl dX7_readRule_38
  · refine wq_aload_n dX7_readRule_39 2 rfl rfl ?_
    refine wq_pV (v := vi (J6 2 a1 1)) M_Row_many (R_Row_many Z a1 _ _ _ (if_pos h1)) (ob_2 h1) rfl rfl (by decide) (by decide) (Nat.le_of_ble_eq_true rfl) ln_RX7_81 dX7_readRule_40 (fun gr8 => ?_)
    refine wq_sipush dX7_readRule_43 (by decide) ?_
    refine wq_icmp_lt 59 dX7_readRule_46 (by decide) rfl rfl (fun c38 => ?_) (fun c38 => ?_)
    · refine wq_aload_n dX7_readRule_59 1 rfl rfl ?_
      refine g_7_0 ln_RX7_9 dX7_readRule_60 ?_
      refine wq_pV (v := vi (J6 6 0 5)) M_Src_value (R_Src_value Z  _ _ _ rfl) ob_6 rfl rfl (by decide) (by decide) (Nat.le_of_ble_eq_true rfl) ln_RX7_137 dX7_readRule_63 (fun gr9 => ?_)
      refine wq_istore_n (lv' := [(3, vi (J6 6 0 5)), (2, vi (I 6 0 3)), (0, vr Z 7 0), (1, vr Z 2 a1)]) dX7_readRule_66 rfl (by decide) rfl ?_
      refine wq_iload_n dX7_readRule_67 0 rfl rfl ?_
      refine wq_aload_n dX7_readRule_68 2 rfl rfl ?_
      refine g_7_2 ln_RX7_24 dX7_readRule_69 ?_
      refine wq_icmp_lt 84 dX7_readRule_72 (by decide) rfl rfl (fun c33 => ?_) (fun c33 => ?_)
      · refine wq_aload_n dX7_readRule_84 2 rfl rfl ?_
        refine wq_dup dX7_readRule_85 rfl ?_
        refine g_7_3 ln_RX7_90 dX7_readRule_86 ?_
        refine wq_aload_n dX7_readRule_89 2 rfl rfl ?_
        refine g_7_1 ln_RX7_15 dX7_readRule_90 ?_
        refine wq_bipush dX7_readRule_93 (by decide) ?_
        refine wq_iload_n dX7_readRule_95 0 rfl rfl ?_
        refine wq_iadd dX7_readRule_96 ?_
        refine wq_cVi M_G_lengthOf (R_G_lengthOf Z 1 (26 + (J6 6 0 5)) _) (ob_1 (by decide)) rfl rfl (by decide) (by decide) (Nat.le_of_ble_eq_true rfl) ln_RX7_140 dX7_readRule_97 (fun gr10 x12 J11 => ?_)
        refine wq_iadd dX7_readRule_100 ?_
        refine p_7_3 ln_RX7_90 dX7_readRule_101 (fun J13 => ?_)
        refine wq_aload_n dX7_readRule_104 2 rfl rfl ?_
        refine g_7_3 ln_RX7_90 dX7_readRule_105 ?_
        refine wq_sipush dX7_readRule_108 (by decide) ?_
        refine wq_icmp_le 124 dX7_readRule_111 (by decide) rfl rfl (fun c28 => ?_) (fun c28 => ?_)
        · refine wq_aload_n dX7_readRule_114 2 rfl rfl ?_
          refine g_7_0 ln_RX7_9 dX7_readRule_115 ?_
          refine wq_iconst dX7_readRule_118 ?_
          refine wq_iload_n dX7_readRule_119 1 rfl rfl ?_
          refine wq_cVi M_Src_failAt (R_Src_failAt Z 5 (I 6 0 3) _) ob_6 rfl rfl (by decide) (by decide) (Nat.le_of_ble_eq_true rfl) ln_RX7_134 dX7_readRule_120 (fun gr24 x26 J25 => ?_)
          refine wq_grd (fun g27 => ?_)
          exact wq_zret rfl g27 rfl dX7_readRule_123
        · refine wq_aload_n dX7_readRule_124 3 rfl rfl ?_
          refine wq_bipush dX7_readRule_125 (by decide) ?_
          refine wq_iload_n dX7_readRule_127 0 rfl rfl ?_
          refine wq_iadd dX7_readRule_128 ?_
          refine wq_cVv M_Row_put (R_Row_put Z a1 (26 + (J6 6 0 5)) _) (ob_2 h1) rfl rfl (by decide) (by decide) (Nat.le_of_ble_eq_true rfl) ln_RX7_120 dX7_readRule_129 (fun gr14 _ J15 => ?_)
          refine wq_aload_n dX7_readRule_132 2 rfl rfl ?_
          refine g_7_0 ln_RX7_9 dX7_readRule_133 ?_
          refine wq_cVv M_Src_advance (R_Src_advance Z _) ob_6 rfl rfl (by decide) (by decide) (Nat.le_of_ble_eq_true rfl) ln_RX7_67 dX7_readRule_136 (fun gr17 _ J18 => ?_)
          refine wq_aload_n dX7_readRule_139 2 rfl rfl ?_
          refine g_7_0 ln_RX7_9 dX7_readRule_140 ?_
          refine wq_iconst dX7_readRule_143 ?_
          refine wq_cVi M_Src_pass (R_Src_pass Z 5 _) ob_6 rfl rfl (by decide) (by decide) (Nat.le_of_ble_eq_true rfl) ln_RX7_87 dX7_readRule_144 (fun gr20 x22 J21 => ?_)
          refine wq_grd (fun g23 => ?_)
          exact wq_zret rfl g23 rfl dX7_readRule_147
      · refine wq_aload_n dX7_readRule_75 2 rfl rfl ?_
        refine g_7_0 ln_RX7_9 dX7_readRule_76 ?_
        refine wq_iconst dX7_readRule_79 ?_
        refine wq_cVi M_Src_fail (R_Src_fail Z 4 _) ob_6 rfl rfl (by decide) (by decide) (Nat.le_of_ble_eq_true rfl) ln_RX7_63 dX7_readRule_80 (fun gr29 x31 J30 => ?_)
        refine wq_grd (fun g32 => ?_)
        exact wq_zret rfl g32 rfl dX7_readRule_83
    · refine wq_aload_n dX7_readRule_49 1 rfl rfl ?_
      refine g_7_0 ln_RX7_9 dX7_readRule_50 ?_
      refine wq_iconst dX7_readRule_53 ?_
      refine wq_iload_n dX7_readRule_54 0 rfl rfl ?_
      refine wq_cVi M_Src_failAt (R_Src_failAt Z 5 (I 6 0 3) _) ob_6 rfl rfl (by decide) (by decide) (Nat.le_of_ble_eq_true rfl) ln_RX7_134 dX7_readRule_55 (fun gr34 x36 J35 => ?_)
      refine wq_grd (fun g37 => ?_)
      exact wq_zret rfl g37 rfl dX7_readRule_58

theorem M_Src_word : MwV yX8_word cX8_word 2 (some (.object RX11)) 0 := ⟨li_2 179 (by decide +kernel) (by decide +kernel), li_2 177 (by decide +kernel) (by decide +kernel), li_2 178 (by decide +kernel) (by decide +kernel), li_1 7 (by decide +kernel) (by decide +kernel), by decide +kernel⟩
theorem ln_RX7_146 : Cond.fieldLink RX7 146 RX11 "LEAST" "LPairRules$Word;" ∈ lw_good := li_3 84 (by decide +kernel) (by decide +kernel)
theorem ln_RX7_149 : Cond.fieldLink RX7 149 RX11 "TIE" "LPairRules$Word;" ∈ lw_good := li_3 86 (by decide +kernel) (by decide +kernel)
theorem ln_RX7_152 : Cond.fieldLink RX7 152 RX11 "INLINE" "LPairRules$Word;" ∈ lw_good := li_3 88 (by decide +kernel) (by decide +kernel)
theorem M_Set_isTold : MwV yX7_isTold cX7_isTold 2 (some .boolean) 1 := ⟨li_3 93 (by decide +kernel) (by decide +kernel), li_3 92 (by decide +kernel) (by decide +kernel), lw_in 10 (by decide +kernel) (by decide +kernel), li_1 8 (by decide +kernel) (by decide +kernel), by decide +kernel⟩
theorem M_Set_noteTold : MwV yX7_noteTold cX7_noteTold 3 (none) 2 := ⟨li_3 105 (by decide +kernel) (by decide +kernel), li_3 104 (by decide +kernel) (by decide +kernel), lw_in 11 (by decide +kernel) (by decide +kernel), li_1 8 (by decide +kernel) (by decide +kernel), by decide +kernel⟩
theorem ln_RX7_159 : Cond.methodLink RX7 159 yX7_noteTold ∈ lw_good := li_3 102 (by decide +kernel) (by decide +kernel)
theorem ln_RX7_155 : Cond.methodLink RX7 155 yX7_isTold ∈ lw_good := li_3 90 (by decide +kernel) (by decide +kernel)
theorem ln_RX7_53 : Cond.methodLink RX7 53 yX8_word ∈ lw_good := li_2 176 (by decide +kernel) (by decide +kernel)
noncomputable def f_Set_readStatement_j38 (v1 : Nat)   (I : Mem) : Option ((Int) × Mem) :=
bnd (f_Set_isTold v1 I) fun x15 J14 =>
if (w32 x15) = 0 then
bnd (f_Src_advance J14) fun _ J17 =>
bnd (f_Src_readNumber (wLow v1) (wHig v1) J17) fun x21 J20 =>
if (w32 x21) = 0 then
some (0, J20)
else
bnd (f_Set_noteTold v1 (J20 6 0 5) J20) fun _ J24 =>
bnd (f_Src_advance J24) fun _ J27 =>
some (1, J27)
else
bnd (f_Src_fail 3 J14) fun x32 J31 =>
if x32 = 0 ∨ x32 = 1 then
some (x32, J31)
else none

noncomputable def f_Set_readStatement  (I : Mem) : Option ((Int) × Mem) :=
bnd (f_Src_word I) fun x3 J2 =>
if x3 < 15 then
if x3 = 3 then
f_Set_readStatement_j38 x3 J2
else
if x3 = 4 then
f_Set_readStatement_j38 x3 J2
else
if x3 = 2 then
f_Set_readStatement_j38 x3 J2
else
bnd (f_Src_fail 1 J2) fun x8 J7 =>
if x8 = 0 ∨ x8 = 1 then
some (x8, J7)
else none
else none
set_option maxRecDepth 20000 in
theorem R_Set_readStatement (Z : ZT)  (I : Mem) (r : Int) (J : Mem) (hf : f_Set_readStatement I = some (r, J)) : Runs Z yX7_readStatement cX7_readStatement 2 (some .boolean) 7 [vr Z 7 0] I (some (vi r), J) := by
  refine Runs.of (rv := fun x => some (vi x)) (by decide +kernel) (Nat.le_of_ble_eq_true rfl) hf (fun gr => ?_)
  unfold f_Set_readStatement
  refine WQ.loc [0] (lv' := [(0, vr Z 7 0)]) rfl ?_
  refine wq_aload_n dX7_readStatement_0 0 rfl rfl ?_
  refine g_7_0 ln_RX7_9 dX7_readStatement_1 ?_
  refine wq_cVr 11 M_Src_word (R_Src_word Z _) ob_6 rfl rfl (by decide) (by decide) (Nat.le_of_ble_eq_true rfl) ln_RX7_53 dX7_readStatement_4 (fun gr1 x3 J2 => ?_)
  refine wq_grd (fun g4 => ?_)
  refine wq_astore_n (lv' := [(1, vr Z 11 x3), (0, vr Z 7 0)]) dX7_readStatement_7 rfl (by decide) rfl ?_
  refine wq_aload_n dX7_readStatement_8 0 rfl rfl ?_
  refine wq_gets (sta_word 3 (by decide)) ln_RX7_146 dX7_readStatement_9 ?_
  have hj5 : ∀ (gr36 : Nat → Nat)   (J35 : Mem), WQ Z (yX7_readStatement, cX7_readStatement, 2, some .boolean, 7) I gr36 38 [(0, vr Z 7 0), (1, vr Z 11 x3)] [] J35 (f_Set_readStatement_j38 x3 J35) (fun b K => some (.inl ((fun x => some (vi x)) b), K)) := by
    intro gr36 J35
    unfold f_Set_readStatement_j38
    refine wq_aload_n dX7_readStatement_38 0 rfl rfl ?_
    refine wq_aload_n dX7_readStatement_39 1 rfl rfl ?_
    refine wq_cVi M_Set_isTold (R_Set_isTold Z x3 _) ob_7 rfl rfl (by decide) (by decide) (Nat.le_of_ble_eq_true rfl) ln_RX7_155 dX7_readStatement_40 (fun gr37 x39 J38 => ?_)
    refine wq_if_eq 55 dX7_readStatement_43 (by decide) rfl (fun c58 => ?_) (fun c58 => ?_)
    · refine wq_aload_n dX7_readStatement_55 0 rfl rfl ?_
      refine g_7_0 ln_RX7_9 dX7_readStatement_56 ?_
      refine wq_cVv M_Src_advance (R_Src_advance Z _) ob_6 rfl rfl (by decide) (by decide) (Nat.le_of_ble_eq_true rfl) ln_RX7_67 dX7_readStatement_59 (fun gr40 _ J41 => ?_)
      refine wq_aload_n dX7_readStatement_62 0 rfl rfl ?_
      refine g_7_0 ln_RX7_9 dX7_readStatement_63 ?_
      refine wq_aload_n dX7_readStatement_66 1 rfl rfl ?_
      refine wq_wordLowest g4 ln_RX7_124 dX7_readStatement_67 ?_
      refine wq_aload_n dX7_readStatement_70 1 rfl rfl ?_
      refine wq_wordHighest g4 ln_RX7_127 dX7_readStatement_71 ?_
      refine wq_cVi M_Src_readNumber (R_Src_readNumber Z (wLow x3) (wHig x3) _) ob_6 rfl rfl (by decide) (by decide) (Nat.le_of_ble_eq_true rfl) ln_RX7_130 dX7_readStatement_74 (fun gr43 x45 J44 => ?_)
      refine wq_if_ne 82 dX7_readStatement_77 (by decide) rfl (fun c53 => ?_) (fun c53 => ?_)
      · refine wq_iconst dX7_readStatement_80 ?_
        exact wq_zret rfl (by decide) rfl dX7_readStatement_81
      · refine wq_aload_n dX7_readStatement_82 0 rfl rfl ?_
        refine wq_aload_n dX7_readStatement_83 1 rfl rfl ?_
        refine wq_aload_n dX7_readStatement_84 0 rfl rfl ?_
        refine g_7_0 ln_RX7_9 dX7_readStatement_85 ?_
        refine wq_pV (v := vi (J44 6 0 5)) M_Src_value (R_Src_value Z  _ _ _ rfl) ob_6 rfl rfl (by decide) (by decide) (Nat.le_of_ble_eq_true rfl) ln_RX7_137 dX7_readStatement_88 (fun gr46 => ?_)
        refine wq_cVv M_Set_noteTold (R_Set_noteTold Z x3 (J44 6 0 5) _) ob_7 rfl rfl (by decide) (by decide) (Nat.le_of_ble_eq_true rfl) ln_RX7_159 dX7_readStatement_91 (fun gr47 _ J48 => ?_)
        refine wq_aload_n dX7_readStatement_94 0 rfl rfl ?_
        refine g_7_0 ln_RX7_9 dX7_readStatement_95 ?_
        refine wq_cVv M_Src_advance (R_Src_advance Z _) ob_6 rfl rfl (by decide) (by decide) (Nat.le_of_ble_eq_true rfl) ln_RX7_67 dX7_readStatement_98 (fun gr50 _ J51 => ?_)
        refine wq_iconst dX7_readStatement_101 ?_
        exact wq_zret rfl (by decide) rfl dX7_readStatement_102
    · refine wq_aload_n dX7_readStatement_46 0 rfl rfl ?_
      refine g_7_0 ln_RX7_9 dX7_readStatement_47 ?_
      refine wq_iconst dX7_readStatement_50 ?_
      refine wq_cVi M_Src_fail (R_Src_fail Z 3 _) ob_6 rfl rfl (by decide) (by decide) (Nat.le_of_ble_eq_true rfl) ln_RX7_63 dX7_readStatement_51 (fun gr54 x56 J55 => ?_)
      refine wq_grd (fun g57 => ?_)
      exact wq_zret rfl g57 rfl dX7_readStatement_54
  refine wq_acmp_eq 38 dX7_readStatement_12 (by decide) g4 (by decide) (fun c12 => ?_) (fun c12 => ?_)
  · exact WQ.loc [1, 0] rfl (hj5 _   _)
  · refine wq_aload_n dX7_readStatement_15 0 rfl rfl ?_
    refine wq_gets (sta_word 4 (by decide)) ln_RX7_149 dX7_readStatement_16 ?_
    refine wq_acmp_eq 38 dX7_readStatement_19 (by decide) g4 (by decide) (fun c11 => ?_) (fun c11 => ?_)
    · exact WQ.loc [1, 0] rfl (hj5 _   _)
    · refine wq_aload_n dX7_readStatement_22 0 rfl rfl ?_
      refine wq_gets (sta_word 2 (by decide)) ln_RX7_152 dX7_readStatement_23 ?_
      refine wq_acmp_eq 38 dX7_readStatement_26 (by decide) g4 (by decide) (fun c10 => ?_) (fun c10 => ?_)
      · exact WQ.loc [1, 0] rfl (hj5 _   _)
      · refine wq_aload_n dX7_readStatement_29 1 rfl rfl ?_
        refine g_7_0 ln_RX7_9 dX7_readStatement_30 ?_
        refine wq_iconst dX7_readStatement_33 ?_
        refine wq_cVi M_Src_fail (R_Src_fail Z 1 _) ob_6 rfl rfl (by decide) (by decide) (Nat.le_of_ble_eq_true rfl) ln_RX7_63 dX7_readStatement_34 (fun gr6 x8 J7 => ?_)
        refine wq_grd (fun g9 => ?_)
        exact wq_zret rfl g9 rfl dX7_readStatement_37

theorem M_Scr_addEntry : MwV yX6_addEntry cX6_addEntry 3 (some .int) 1 := ⟨li_3 201 (by decide +kernel) (by decide +kernel), li_3 200 (by decide +kernel) (by decide +kernel), lw_in 15 (by decide +kernel) (by decide +kernel), li_1 9 (by decide +kernel) (by decide +kernel), by decide +kernel⟩
theorem ln_RX6_51 : Cond.fieldLink RX6 51 RX6 "open" "I" ∈ lw_good := li_2 10 (by decide +kernel) (by decide +kernel)
theorem ln_RX6_33 : Cond.fieldLink RX6 33 RX6 "openAgains" "[I" ∈ lw_good := li_2 7 (by decide +kernel) (by decide +kernel)
theorem ln_RX6_83 : Cond.methodLink RX6 83 yX8_pass ∈ lw_good := li_3 204 (by decide +kernel) (by decide +kernel)
theorem ln_RX6_76 : Cond.methodLink RX6 76 yX6_addEntry ∈ lw_good := li_3 198 (by decide +kernel) (by decide +kernel)
noncomputable def f_Scr_readClose_j46 (v1 : Int)  (e0 : Int) (I : Mem) : Option ((Int) × Mem) :=
if 0 ≤ (w32 e0) ∧ (w32 e0) < 60 then
ltI (sI I 21 3 (w32 e0).toNat v1) fun J11 =>
if 0 ≤ (w32 v1) ∧ (w32 v1) < 60 then
ltI (sI J11 21 3 (w32 v1).toNat e0) fun J13 =>
bnd (f_Src_advance J13) fun _ J15 =>
bnd (f_Src_pass 3 J15) fun x19 J18 =>
if x19 = 0 ∨ x19 = 1 then
some (x19, J18)
else none
else none
else none

noncomputable def f_Scr_readClose_j45 (v1 : Int)   (I : Mem) : Option ((Int) × Mem) :=
f_Scr_readClose_j46 v1 0 I

noncomputable def f_Scr_readClose  (I : Mem) : Option ((Int) × Mem) :=
bnd (f_Scr_addEntry 13 I) fun x3 J2 =>
ltI (sI J2 8 0 10 ((J2 8 0 10) - 1)) fun J4 =>
if (w32 (J4 8 0 10)) < 0 then
f_Scr_readClose_j45 x3 J4
else
if (w32 (J4 8 0 10)) < 2 then
if 0 ≤ (w32 (J4 8 0 10)) ∧ (w32 (J4 8 0 10)) < 2 then
f_Scr_readClose_j46 x3 (J4 21 5 (w32 (J4 8 0 10)).toNat) J4
else none
else
f_Scr_readClose_j45 x3 J4
set_option maxRecDepth 20000 in
theorem R_Scr_readClose (Z : ZT)  (I : Mem) (r : Int) (J : Mem) (hf : f_Scr_readClose I = some (r, J)) : Runs Z yX6_readClose cX6_readClose 3 (some .boolean) 4 [vr Z 8 0] I (some (vi r), J) := by
  refine Runs.of (rv := fun x => some (vi x)) (by decide +kernel) (Nat.le_of_ble_eq_true rfl) hf (fun gr => ?_)
  unfold f_Scr_readClose
  refine WQ.loc [0] (lv' := [(0, vr Z 8 0)]) rfl ?_
  refine wq_aload_n dX6_readClose_0 0 rfl rfl ?_
  refine wq_gets (sta_word 13 (by decide)) ln_RX6_73 dX6_readClose_1 ?_
  refine wq_cVi M_Scr_addEntry (R_Scr_addEntry Z 13 _) ob_8 rfl rfl (by decide) (by decide) (Nat.le_of_ble_eq_true rfl) ln_RX6_76 dX6_readClose_4 (fun gr1 x3 J2 => ?_)
  refine wq_istore_n (lv' := [(1, vi x3), (0, vr Z 8 0)]) dX6_readClose_7 rfl (by decide) rfl ?_
  refine wq_aload_n dX6_readClose_8 1 rfl rfl ?_
  refine wq_dup dX6_readClose_9 rfl ?_
  refine g_8_10 ln_RX6_51 dX6_readClose_10 ?_
  refine wq_iconst dX6_readClose_13 ?_
  refine wq_isub dX6_readClose_14 ?_
  refine p_8_10 ln_RX6_51 dX6_readClose_15 (fun J4 => ?_)
  refine wq_aload_n dX6_readClose_18 1 rfl rfl ?_
  refine g_8_10 ln_RX6_51 dX6_readClose_19 ?_
  have hj5 : ∀ (gr22 : Nat → Nat)  (hj5e0 : Int) (J21 : Mem), WQ Z (yX6_readClose, cX6_readClose, 3, some .boolean, 4) I gr22 46 [(0, vr Z 8 0), (1, vi x3)] [vi hj5e0] J21 (f_Scr_readClose_j46 x3 hj5e0 J21) (fun b K => some (.inl ((fun x => some (vi x)) b), K)) := by
    intro gr22 hj5e0 J21
    unfold f_Scr_readClose_j46
    refine wq_istore_n (lv' := [(2, vi hj5e0), (0, vr Z 8 0), (1, vi x3)]) dX6_readClose_46 rfl (by decide) rfl ?_
    refine wq_aload_n dX6_readClose_47 1 rfl rfl ?_
    refine g_8_5 ln_RX6_27 dX6_readClose_48 ?_
    refine wq_iload_n dX6_readClose_51 0 rfl rfl ?_
    refine wq_iload_n dX6_readClose_52 2 rfl rfl ?_
    refine wq_grd (fun g23 => ?_)
    refine wq_iast (k := 21) (i := 3) (fun _ _ => rfl) (by decide) rfl rfl (m := 60) g23 (by decide) (by decide) (by decide) (by decide) dX6_readClose_53 (fun J24 => ?_)
    refine wq_aload_n dX6_readClose_54 1 rfl rfl ?_
    refine g_8_5 ln_RX6_27 dX6_readClose_55 ?_
    refine wq_iload_n dX6_readClose_58 2 rfl rfl ?_
    refine wq_iload_n dX6_readClose_59 0 rfl rfl ?_
    refine wq_grd (fun g25 => ?_)
    refine wq_iast (k := 21) (i := 3) (fun _ _ => rfl) (by decide) rfl rfl (m := 60) g25 (by decide) (by decide) (by decide) (by decide) dX6_readClose_60 (fun J26 => ?_)
    refine wq_aload_n dX6_readClose_61 1 rfl rfl ?_
    refine g_8_0 ln_RX6_36 dX6_readClose_62 ?_
    refine wq_cVv M_Src_advance (R_Src_advance Z _) ob_6 rfl rfl (by decide) (by decide) (Nat.le_of_ble_eq_true rfl) ln_RX6_80 dX6_readClose_65 (fun gr27 _ J28 => ?_)
    refine wq_aload_n dX6_readClose_68 1 rfl rfl ?_
    refine g_8_0 ln_RX6_36 dX6_readClose_69 ?_
    refine wq_iconst dX6_readClose_72 ?_
    refine wq_cVi M_Src_pass (R_Src_pass Z 3 _) ob_6 rfl rfl (by decide) (by decide) (Nat.le_of_ble_eq_true rfl) ln_RX6_83 dX6_readClose_73 (fun gr30 x32 J31 => ?_)
    refine wq_grd (fun g33 => ?_)
    exact wq_zret rfl g33 rfl dX6_readClose_76
  have hj6 : ∀ (gr35 : Nat → Nat)   (J34 : Mem), WQ Z (yX6_readClose, cX6_readClose, 3, some .boolean, 4) I gr35 45 [(0, vr Z 8 0), (1, vi x3)] [] J34 (f_Scr_readClose_j45 x3 J34) (fun b K => some (.inl ((fun x => some (vi x)) b), K)) := by
    intro gr35 J34
    unfold f_Scr_readClose_j45
    refine wq_iconst dX6_readClose_45 ?_
    exact WQ.loc [0, 1] rfl (hj5 _  _ _)
  refine wq_if_lt 45 dX6_readClose_22 (by decide) rfl (fun c9 => ?_) (fun c9 => ?_)
  · exact WQ.loc [1, 0] rfl (hj6 _   _)
  · refine wq_aload_n dX6_readClose_25 1 rfl rfl ?_
    refine g_8_10 ln_RX6_51 dX6_readClose_26 ?_
    refine wq_iconst dX6_readClose_29 ?_
    refine wq_icmp_ge 45 dX6_readClose_30 (by decide) rfl rfl (fun c8 => ?_) (fun c8 => ?_)
    · refine wq_aload_n dX6_readClose_33 1 rfl rfl ?_
      refine g_8_7 ln_RX6_33 dX6_readClose_34 ?_
      refine wq_aload_n dX6_readClose_37 1 rfl rfl ?_
      refine g_8_10 ln_RX6_51 dX6_readClose_38 ?_
      refine wq_grd (fun g7 => ?_)
      refine wq_iald (k := 21) (i := 5) rfl (by decide) rfl rfl (m := 2) g7 (by decide) dX6_readClose_41 ?_
      refine wq_goto 46 dX6_readClose_42 (by decide) ?_
      exact WQ.loc [1, 0] rfl (hj5 _  _ _)
    · exact WQ.loc [1, 0] rfl (hj6 _   _)

theorem ln_RX6_117 : Cond.fieldLinkNest RX6 117 RX11 "lowest" "I" RX12 ∈ lw_nw := nw_in 2326 (by decide +kernel) (by decide +kernel)
theorem ln_RX6_120 : Cond.fieldLinkNest RX6 120 RX11 "highest" "I" RX12 ∈ lw_nw := nw_in 2327 (by decide +kernel) (by decide +kernel)
theorem ln_RX6_126 : Cond.methodLink RX6 126 yX8_value ∈ lw_good := li_3 226 (by decide +kernel) (by decide +kernel)
theorem ln_RX6_123 : Cond.methodLink RX6 123 yX8_readNumber ∈ lw_good := li_3 225 (by decide +kernel) (by decide +kernel)
noncomputable def f_Scr_readNumber (a1 : Int) (I : Mem) : Option ((Int) × Mem) :=
if 0 ≤ (w32 a1) ∧ (w32 a1) < 60 then
if (I 20 0 (w32 a1).toNat).toNat < 15 then
if (I 20 0 (w32 a1).toNat).toNat < 15 then
bnd (f_Src_readNumber (wLow ((I 20 0 (w32 a1).toNat).toNat)) (wHig ((I 20 0 (w32 a1).toNat).toNat)) I) fun x8 J7 =>
if (w32 x8) = 0 then
some (0, J7)
else
ltI (sI J7 21 0 (w32 a1).toNat (J7 6 0 5)) fun J10 =>
bnd (f_Src_advance J10) fun _ J12 =>
some (1, J12)
else none
else none
else none
set_option maxRecDepth 20000 in
theorem R_Scr_readNumber (Z : ZT) (a1 : Int) (I : Mem) (r : Int) (J : Mem) (hf : f_Scr_readNumber a1 I = some (r, J)) : Runs Z yX6_readNumber cX6_readNumber 2 (some .boolean) 4 [vr Z 8 0, vi a1] I (some (vi r), J) := by
  refine Runs.of (rv := fun x => some (vi x)) (by decide +kernel) (Nat.le_of_ble_eq_true rfl) hf (fun gr => ?_)
  unfold f_Scr_readNumber
  refine WQ.loc [0, 1] (lv' := [(0, vr Z 8 0), (1, vi a1)]) rfl ?_
  refine wq_aload_n dX6_readNumber_0 0 rfl rfl ?_
  refine g_8_0 ln_RX6_36 dX6_readNumber_1 ?_
  refine wq_aload_n dX6_readNumber_4 0 rfl rfl ?_
  refine g_8_1 ln_RX6_13 dX6_readNumber_5 ?_
  refine wq_iload_n dX6_readNumber_8 1 rfl rfl ?_
  refine wq_grd (fun g1 => ?_)
  refine wq_aald (k := 20) (i := 0) (t0 := 6) rfl rfl (by decide) rfl rfl (m := 60) g1 (Nat.le_refl _) dX6_readNumber_9 ?_
  refine wq_grd (fun g2 => ?_)
  refine wq_wordLowest g2 ln_RX6_117 dX6_readNumber_10 ?_
  refine wq_aload_n dX6_readNumber_13 0 rfl rfl ?_
  refine g_8_1 ln_RX6_13 dX6_readNumber_14 ?_
  refine wq_iload_n dX6_readNumber_17 1 rfl rfl ?_
  refine wq_aald (k := 20) (i := 0) (t0 := 6) rfl rfl (by decide) rfl rfl (m := 60) g1 (Nat.le_refl _) dX6_readNumber_18 ?_
  refine wq_grd (fun g4 => ?_)
  refine wq_wordHighest g4 ln_RX6_120 dX6_readNumber_19 ?_
  refine wq_cVi M_Src_readNumber (R_Src_readNumber Z (wLow ((I 20 0 (w32 a1).toNat).toNat)) (wHig ((I 20 0 (w32 a1).toNat).toNat)) _) ob_6 rfl rfl (by decide) (by decide) (Nat.le_of_ble_eq_true rfl) ln_RX6_123 dX6_readNumber_22 (fun gr6 x8 J7 => ?_)
  refine wq_if_ne 30 dX6_readNumber_25 (by decide) rfl (fun c14 => ?_) (fun c14 => ?_)
  · refine wq_iconst dX6_readNumber_28 ?_
    exact wq_zret rfl (by decide) rfl dX6_readNumber_29
  · refine wq_aload_n dX6_readNumber_30 0 rfl rfl ?_
    refine g_8_2 ln_RX6_17 dX6_readNumber_31 ?_
    refine wq_iload_n dX6_readNumber_34 1 rfl rfl ?_
    refine wq_aload_n dX6_readNumber_35 0 rfl rfl ?_
    refine g_8_0 ln_RX6_36 dX6_readNumber_36 ?_
    refine wq_pV (v := vi (J7 6 0 5)) M_Src_value (R_Src_value Z  _ _ _ rfl) ob_6 rfl rfl (by decide) (by decide) (Nat.le_of_ble_eq_true rfl) ln_RX6_126 dX6_readNumber_39 (fun gr9 => ?_)
    refine wq_iast (k := 21) (i := 0) (fun _ _ => rfl) (by decide) rfl rfl (m := 60) g1 (by decide) (by decide) (by decide) (by decide) dX6_readNumber_42 (fun J10 => ?_)
    refine wq_aload_n dX6_readNumber_43 0 rfl rfl ?_
    refine g_8_0 ln_RX6_36 dX6_readNumber_44 ?_
    refine wq_cVv M_Src_advance (R_Src_advance Z _) ob_6 rfl rfl (by decide) (by decide) (Nat.le_of_ble_eq_true rfl) ln_RX6_80 dX6_readNumber_47 (fun gr11 _ J12 => ?_)
    refine wq_iconst dX6_readNumber_50 ?_
    exact wq_zret rfl (by decide) rfl dX6_readNumber_51

noncomputable def f_Scr_readOpen_j28 (v1 : Int)   (I : Mem) : Option ((Int) × Mem) :=
bnd (f_Src_pass 4 I) fun x13 J12 =>
if (w32 x13) = 0 then
some (0, J12)
else
if 0 ≤ (w32 (J12 8 0 10)) ∧ (w32 (J12 8 0 10)) < 2 then
ltI (sI J12 21 5 (w32 (J12 8 0 10)).toNat v1) fun J15 =>
ltI (sI J15 8 0 10 ((J15 8 0 10) + 1)) fun J16 =>
some (1, J16)
else none

noncomputable def f_Scr_readOpen (a1 : Int) (I : Mem) : Option ((Int) × Mem) :=
bnd (f_Src_is 4 I) fun x3 J2 =>
if (w32 x3) = 0 then
f_Scr_readOpen_j28 a1 J2
else
if (w32 (J2 8 0 10)) < 2 then
f_Scr_readOpen_j28 a1 J2
else
bnd (f_Src_fail 5 J2) fun x7 J6 =>
if x7 = 0 ∨ x7 = 1 then
some (x7, J6)
else none
set_option maxRecDepth 20000 in
theorem R_Scr_readOpen (Z : ZT) (a1 : Int) (I : Mem) (r : Int) (J : Mem) (hf : f_Scr_readOpen a1 I = some (r, J)) : Runs Z yX6_readOpen cX6_readOpen 2 (some .boolean) 4 [vr Z 8 0, vi a1] I (some (vi r), J) := by
  refine Runs.of (rv := fun x => some (vi x)) (by decide +kernel) (Nat.le_of_ble_eq_true rfl) hf (fun gr => ?_)
  unfold f_Scr_readOpen
  refine WQ.loc [0, 1] (lv' := [(0, vr Z 8 0), (1, vi a1)]) rfl ?_
  refine wq_aload_n dX6_readOpen_0 0 rfl rfl ?_
  refine g_8_0 ln_RX6_36 dX6_readOpen_1 ?_
  refine wq_iconst dX6_readOpen_4 ?_
  refine wq_cVi M_Src_is (R_Src_is Z 4 _) ob_6 rfl rfl (by decide) (by decide) (Nat.le_of_ble_eq_true rfl) ln_RX6_59 dX6_readOpen_5 (fun gr1 x3 J2 => ?_)
  have hj4 : ∀ (gr19 : Nat → Nat)   (J18 : Mem), WQ Z (yX6_readOpen, cX6_readOpen, 2, some .boolean, 4) I gr19 28 [(0, vr Z 8 0), (1, vi a1)] [] J18 (f_Scr_readOpen_j28 a1 J18) (fun b K => some (.inl ((fun x => some (vi x)) b), K)) := by
    intro gr19 J18
    unfold f_Scr_readOpen_j28
    refine wq_aload_n dX6_readOpen_28 0 rfl rfl ?_
    refine g_8_0 ln_RX6_36 dX6_readOpen_29 ?_
    refine wq_iconst dX6_readOpen_32 ?_
    refine wq_cVi M_Src_pass (R_Src_pass Z 4 _) ob_6 rfl rfl (by decide) (by decide) (Nat.le_of_ble_eq_true rfl) ln_RX6_83 dX6_readOpen_33 (fun gr20 x22 J21 => ?_)
    refine wq_if_ne 41 dX6_readOpen_36 (by decide) rfl (fun c26 => ?_) (fun c26 => ?_)
    · refine wq_iconst dX6_readOpen_39 ?_
      exact wq_zret rfl (by decide) rfl dX6_readOpen_40
    · refine wq_aload_n dX6_readOpen_41 0 rfl rfl ?_
      refine g_8_7 ln_RX6_33 dX6_readOpen_42 ?_
      refine wq_aload_n dX6_readOpen_45 0 rfl rfl ?_
      refine g_8_10 ln_RX6_51 dX6_readOpen_46 ?_
      refine wq_iload_n dX6_readOpen_49 1 rfl rfl ?_
      refine wq_grd (fun g23 => ?_)
      refine wq_iast (k := 21) (i := 5) (fun _ _ => rfl) (by decide) rfl rfl (m := 2) g23 (by decide) (by decide) (by decide) (by decide) dX6_readOpen_50 (fun J24 => ?_)
      refine wq_aload_n dX6_readOpen_51 0 rfl rfl ?_
      refine wq_dup dX6_readOpen_52 rfl ?_
      refine g_8_10 ln_RX6_51 dX6_readOpen_53 ?_
      refine wq_iconst dX6_readOpen_56 ?_
      refine wq_iadd dX6_readOpen_57 ?_
      refine p_8_10 ln_RX6_51 dX6_readOpen_58 (fun J25 => ?_)
      refine wq_iconst dX6_readOpen_61 ?_
      exact wq_zret rfl (by decide) rfl dX6_readOpen_62
  refine wq_if_eq 28 dX6_readOpen_8 (by decide) rfl (fun c10 => ?_) (fun c10 => ?_)
  · exact WQ.loc [0, 1] rfl (hj4 _   _)
  · refine wq_aload_n dX6_readOpen_11 0 rfl rfl ?_
    refine g_8_10 ln_RX6_51 dX6_readOpen_12 ?_
    refine wq_iconst dX6_readOpen_15 ?_
    refine wq_icmp_lt 28 dX6_readOpen_16 (by decide) rfl rfl (fun c9 => ?_) (fun c9 => ?_)
    · exact WQ.loc [0, 1] rfl (hj4 _   _)
    · refine wq_aload_n dX6_readOpen_19 0 rfl rfl ?_
      refine g_8_0 ln_RX6_36 dX6_readOpen_20 ?_
      refine wq_iconst dX6_readOpen_23 ?_
      refine wq_cVi M_Src_fail (R_Src_fail Z 5 _) ob_6 rfl rfl (by decide) (by decide) (Nat.le_of_ble_eq_true rfl) ln_RX6_70 dX6_readOpen_24 (fun gr5 x7 J6 => ?_)
      refine wq_grd (fun g8 => ?_)
      exact wq_zret rfl g8 rfl dX6_readOpen_27

theorem M_Scr_orderFrom : MwV yX6_orderFrom cX6_orderFrom 4 (some .int) 1 := ⟨li_4 4 (by decide +kernel) (by decide +kernel), li_4 3 (by decide +kernel) (by decide +kernel), lw_in 20 (by decide +kernel) (by decide +kernel), li_1 9 (by decide +kernel) (by decide +kernel), by decide +kernel⟩
theorem ln_RX6_145 : Cond.methodLink RX6 145 yX6_orderFrom ∈ lw_good := li_4 1 (by decide +kernel) (by decide +kernel)
noncomputable def f_Scr_firstOrder  (I : Mem) : Option ((Int) × Mem) :=
bnd (f_Scr_orderFrom 0 I) fun x3 J2 =>
some (x3, J2)
set_option maxRecDepth 20000 in
theorem R_Scr_firstOrder (Z : ZT)  (I : Mem) (r : Int) (J : Mem) (hf : f_Scr_firstOrder I = some (r, J)) : Runs Z yX6_firstOrder cX6_firstOrder 1 (some .int) 3 [vr Z 8 0] I (some (vi r), J) := by
  refine Runs.of (rv := fun x => some (vi x)) (by decide +kernel) (Nat.le_of_ble_eq_true rfl) hf (fun gr => ?_)
  unfold f_Scr_firstOrder
  refine WQ.loc [0] (lv' := [(0, vr Z 8 0)]) rfl ?_
  refine wq_aload_n dX6_firstOrder_0 0 rfl rfl ?_
  refine wq_iconst dX6_firstOrder_1 ?_
  refine wq_cVi M_Scr_orderFrom (R_Scr_orderFrom Z 0 _) ob_8 rfl rfl (by decide) (by decide) (Nat.le_of_ble_eq_true rfl) ln_RX6_145 dX6_firstOrder_2 (fun gr1 x3 J2 => ?_)
  exact wq_iret rfl rfl dX6_firstOrder_5

noncomputable def f_Scr_orderBehind (a1 : Int) (I : Mem) : Option ((Int) × Mem) :=
bnd (f_Scr_orderFrom (a1 + 1) I) fun x3 J2 =>
some (x3, J2)
set_option maxRecDepth 20000 in
theorem R_Scr_orderBehind (Z : ZT) (a1 : Int) (I : Mem) (r : Int) (J : Mem) (hf : f_Scr_orderBehind a1 I = some (r, J)) : Runs Z yX6_orderBehind cX6_orderBehind 2 (some .int) 3 [vr Z 8 0, vi a1] I (some (vi r), J) := by
  refine Runs.of (rv := fun x => some (vi x)) (by decide +kernel) (Nat.le_of_ble_eq_true rfl) hf (fun gr => ?_)
  unfold f_Scr_orderBehind
  refine WQ.loc [0, 1] (lv' := [(0, vr Z 8 0), (1, vi a1)]) rfl ?_
  refine wq_aload_n dX6_orderBehind_0 0 rfl rfl ?_
  refine wq_iload_n dX6_orderBehind_1 1 rfl rfl ?_
  refine wq_iconst dX6_orderBehind_2 ?_
  refine wq_iadd dX6_orderBehind_3 ?_
  refine wq_cVi M_Scr_orderFrom (R_Scr_orderFrom Z (a1 + 1) _) ob_8 rfl rfl (by decide) (by decide) (Nat.le_of_ble_eq_true rfl) ln_RX6_145 dX6_orderBehind_4 (fun gr1 x3 J2 => ?_)
  exact wq_iret rfl rfl dX6_orderBehind_7

theorem ln_RX2_11 : Cond.fieldLink RX2 11 RX2 "past" "[LPairRules$Grammar;" ∈ lw_good := li_2 43 (by decide +kernel) (by decide +kernel)
theorem ln_RX2_27 : Cond.fieldLink RX2 27 RX2 "next" "I" ∈ lw_good := li_2 46 (by decide +kernel) (by decide +kernel)
theorem M_G_takeFrom : MwV yX1_takeFrom cX1_takeFrom 3 (none) 1 := ⟨li_3 159 (by decide +kernel) (by decide +kernel), li_3 157 (by decide +kernel) (by decide +kernel), li_3 158 (by decide +kernel) (by decide +kernel), li_1 2 (by decide +kernel) (by decide +kernel), by decide +kernel⟩
theorem ln_RX2_34 : Cond.methodLink RX2 34 Lib.Math.min.name ∈ lw_good := li_3 236 (by decide +kernel) (by decide +kernel)
theorem ln_RX2_30 : Cond.methodLink RX2 30 yX1_takeFrom ∈ lw_good := li_3 235 (by decide +kernel) (by decide +kernel)
noncomputable def f_His_remember_j35   (e0 : Int) (I : Mem) : Option ((Unit) × Mem) :=
ltI (sI I 9 0 3 e0) fun J8 =>
ltI (sI J8 9 0 4 (imn ((J8 9 0 4) + 1) 8)) fun J9 =>
some ((), J9)

noncomputable def f_His_remember (a1 : Nat) (I : Mem) : Option ((Unit) × Mem) :=
if a1 < 12 then
if 0 ≤ (w32 (I 9 0 3)) ∧ (w32 (I 9 0 3)) < 8 then
bnd (f_G_takeFrom (2 + (w32 (I 9 0 3)).toNat) a1 I) fun _ J4 =>
if (w32 ((J4 9 0 3) + 1)) < 8 then
f_His_remember_j35 ((J4 9 0 3) + 1) J4
else
f_His_remember_j35 0 J4
else none
else none
set_option maxRecDepth 20000 in
theorem R_His_remember (Z : ZT) (a1 : Nat) (I : Mem) (r : Unit) (J : Mem) (hf : f_His_remember a1 I = some (r, J)) : Runs Z yX2_remember cX2_remember 2 (none) 5 [vr Z 9 0, vr Z 1 a1] I (none, J) := by
  refine Runs.of (rv := fun _ => none) (by decide +kernel) (Nat.le_of_ble_eq_true rfl) hf (fun gr => ?_)
  unfold f_His_remember
  refine WQ.loc [0, 1] (lv' := [(0, vr Z 9 0), (1, vr Z 1 a1)]) rfl ?_
  refine wq_grd (fun h1 => ?_)
  refine wq_aload_n dX2_remember_0 0 rfl rfl ?_
  refine g_9_0 ln_RX2_11 dX2_remember_1 ?_
  refine wq_aload_n dX2_remember_4 0 rfl rfl ?_
  refine g_9_3 ln_RX2_27 dX2_remember_5 ?_
  refine wq_grd (fun g1 => ?_)
  refine wq_aald (k := 22) (i := 0) (t0 := 5) rfl rfl (by decide) rfl rfl (m := 8) g1 (Nat.le_refl _) dX2_remember_8 ?_
  have hb2 : (2 + (w32 (I 9 0 3)).toNat) < 12 := by omega
  refine wq_aload_n dX2_remember_9 1 rfl rfl ?_
  refine wq_cVv M_G_takeFrom (R_G_takeFrom Z (2 + (w32 (I 9 0 3)).toNat) a1 _) (ob_1 hb2) rfl rfl (by decide) (by decide) (Nat.le_of_ble_eq_true rfl) ln_RX2_30 dX2_remember_10 (fun gr3 _ J4 => ?_)
  refine wq_aload_n dX2_remember_13 0 rfl rfl ?_
  refine wq_aload_n dX2_remember_14 0 rfl rfl ?_
  refine g_9_3 ln_RX2_27 dX2_remember_15 ?_
  refine wq_iconst dX2_remember_18 ?_
  refine wq_iadd dX2_remember_19 ?_
  refine wq_bipush dX2_remember_20 (by decide) ?_
  have hj6 : ∀ (gr11 : Nat → Nat)  (hj6e0 : Int) (J10 : Mem), WQ Z (yX2_remember, cX2_remember, 2, none, 5) I gr11 35 [(0, vr Z 9 0)] [vi hj6e0, vr Z 9 0] J10 (f_His_remember_j35 hj6e0 J10) (fun b K => some (.inl ((fun _ => none) b), K)) := by
    intro gr11 hj6e0 J10
    unfold f_His_remember_j35
    refine p_9_3 ln_RX2_27 dX2_remember_35 (fun J12 => ?_)
    refine wq_aload_n dX2_remember_38 0 rfl rfl ?_
    refine wq_aload_n dX2_remember_39 0 rfl rfl ?_
    refine g_9_4 ln_RX2_23 dX2_remember_40 ?_
    refine wq_iconst dX2_remember_43 ?_
    refine wq_iadd dX2_remember_44 ?_
    refine wq_bipush dX2_remember_45 (by decide) ?_
    refine wq_min (by decide) (Nat.le_of_ble_eq_true rfl) ln_RX2_34 mt_min_s mt_i mt_min_c dX2_remember_47 ?_
    refine p_9_4 ln_RX2_23 dX2_remember_50 (fun J13 => ?_)
    exact wq_vret rfl rfl dX2_remember_53
  refine wq_icmp_ge 34 dX2_remember_22 (by decide) rfl rfl (fun c7 => ?_) (fun c7 => ?_)
  · refine wq_aload_n dX2_remember_25 0 rfl rfl ?_
    refine g_9_3 ln_RX2_27 dX2_remember_26 ?_
    refine wq_iconst dX2_remember_29 ?_
    refine wq_iadd dX2_remember_30 ?_
    refine wq_goto 35 dX2_remember_31 (by decide) ?_
    exact WQ.loc [0] rfl (hj6 _  _ _)
  · refine wq_iconst dX2_remember_34 ?_
    exact WQ.loc [0] rfl (hj6 _  _ _)

noncomputable def f_His_goBack_j26 (v1 : Nat)  (e0 : Int) (I : Mem) : Option ((Unit) × Mem) :=
ltI (sI I 9 0 3 e0) fun J3 =>
ltI (sI J3 9 0 4 ((J3 9 0 4) - 1)) fun J4 =>
if 0 ≤ (w32 (J4 9 0 3)) ∧ (w32 (J4 9 0 3)) < 8 then
bnd (f_G_takeFrom v1 (2 + (w32 (J4 9 0 3)).toNat) J4) fun _ J8 =>
some ((), J8)
else none

noncomputable def f_His_goBack (a1 : Nat) (I : Mem) : Option ((Unit) × Mem) :=
if a1 < 12 then
if 0 < (w32 (I 9 0 4)) then
if 0 < (w32 (I 9 0 3)) then
f_His_goBack_j26 a1 ((I 9 0 3) - 1) I
else
f_His_goBack_j26 a1 7 I
else
some ((), I)
else none
set_option maxRecDepth 20000 in
theorem R_His_goBack (Z : ZT) (a1 : Nat) (I : Mem) (r : Unit) (J : Mem) (hf : f_His_goBack a1 I = some (r, J)) : Runs Z yX2_goBack cX2_goBack 2 (none) 5 [vr Z 9 0, vr Z 1 a1] I (none, J) := by
  refine Runs.of (rv := fun _ => none) (by decide +kernel) (Nat.le_of_ble_eq_true rfl) hf (fun gr => ?_)
  unfold f_His_goBack
  refine WQ.loc [0, 1] (lv' := [(0, vr Z 9 0), (1, vr Z 1 a1)]) rfl ?_
  refine wq_grd (fun h1 => ?_)
  refine wq_aload_n dX2_goBack_0 0 rfl rfl ?_
  refine g_9_4 ln_RX2_23 dX2_goBack_1 ?_
  refine wq_if_le 52 dX2_goBack_4 (by decide) rfl (fun c19 => ?_) (fun c19 => ?_)
  · refine wq_aload_n dX2_goBack_7 0 rfl rfl ?_
    refine wq_aload_n dX2_goBack_8 0 rfl rfl ?_
    refine g_9_3 ln_RX2_27 dX2_goBack_9 ?_
    have hj1 : ∀ (gr11 : Nat → Nat)  (hj1e0 : Int) (J10 : Mem), WQ Z (yX2_goBack, cX2_goBack, 2, none, 5) I gr11 26 [(0, vr Z 9 0), (1, vr Z 1 a1)] [vi hj1e0, vr Z 9 0] J10 (f_His_goBack_j26 a1 hj1e0 J10) (fun b K => some (.inl ((fun _ => none) b), K)) := by
      intro gr11 hj1e0 J10
      unfold f_His_goBack_j26
      refine p_9_3 ln_RX2_27 dX2_goBack_26 (fun J12 => ?_)
      refine wq_aload_n dX2_goBack_29 0 rfl rfl ?_
      refine wq_dup dX2_goBack_30 rfl ?_
      refine g_9_4 ln_RX2_23 dX2_goBack_31 ?_
      refine wq_iconst dX2_goBack_34 ?_
      refine wq_isub dX2_goBack_35 ?_
      refine p_9_4 ln_RX2_23 dX2_goBack_36 (fun J13 => ?_)
      refine wq_aload_n dX2_goBack_39 1 rfl rfl ?_
      refine wq_aload_n dX2_goBack_40 0 rfl rfl ?_
      refine g_9_0 ln_RX2_11 dX2_goBack_41 ?_
      refine wq_aload_n dX2_goBack_44 0 rfl rfl ?_
      refine g_9_3 ln_RX2_27 dX2_goBack_45 ?_
      refine wq_grd (fun g14 => ?_)
      refine wq_aald (k := 22) (i := 0) (t0 := 5) rfl rfl (by decide) rfl rfl (m := 8) g14 (Nat.le_refl _) dX2_goBack_48 ?_
      have hb15 : (2 + (w32 (J13 9 0 3)).toNat) < 12 := by omega
      refine wq_cVv M_G_takeFrom (R_G_takeFrom Z a1 (2 + (w32 (J13 9 0 3)).toNat) _) (ob_1 h1) rfl rfl (by decide) (by decide) (Nat.le_of_ble_eq_true rfl) ln_RX2_30 dX2_goBack_49 (fun gr16 _ J17 => ?_)
      exact wq_vret rfl rfl dX2_goBack_52
    refine wq_if_le 24 dX2_goBack_12 (by decide) rfl (fun c2 => ?_) (fun c2 => ?_)
    · refine wq_aload_n dX2_goBack_15 0 rfl rfl ?_
      refine g_9_3 ln_RX2_27 dX2_goBack_16 ?_
      refine wq_iconst dX2_goBack_19 ?_
      refine wq_isub dX2_goBack_20 ?_
      refine wq_goto 26 dX2_goBack_21 (by decide) ?_
      exact WQ.loc [0, 1] rfl (hj1 _  _ _)
    · refine wq_bipush dX2_goBack_24 (by decide) ?_
      exact WQ.loc [0, 1] rfl (hj1 _  _ _)
  · exact wq_vret rfl rfl dX2_goBack_52

theorem ln_RX2_15 : Cond.fieldLink RX2 15 RX2 "kept" "[LPairRules$Grammar;" ∈ lw_good := li_2 44 (by decide +kernel) (by decide +kernel)
noncomputable def f_His_keep (a1 : Int) (a2 : Nat) (I : Mem) : Option ((Unit) × Mem) :=
if a2 < 12 then
if (w32 a1) < 0 then
some ((), I)
else
if (w32 a1) < 2 then
if 0 ≤ (w32 a1) ∧ (w32 a1) < 2 then
bnd (f_G_takeFrom (10 + (w32 a1).toNat) a2 I) fun _ J4 =>
ltI (sI J4 24 0 (w32 a1).toNat 1) fun J6 =>
some ((), J6)
else none
else
some ((), I)
else none
set_option maxRecDepth 20000 in
theorem R_His_keep (Z : ZT) (a1 : Int) (a2 : Nat) (I : Mem) (r : Unit) (J : Mem) (hf : f_His_keep a1 a2 I = some (r, J)) : Runs Z yX2_keep cX2_keep 3 (none) 5 [vr Z 9 0, vi a1, vr Z 1 a2] I (none, J) := by
  refine Runs.of (rv := fun _ => none) (by decide +kernel) (Nat.le_of_ble_eq_true rfl) hf (fun gr => ?_)
  unfold f_His_keep
  refine WQ.loc [0, 1, 2] (lv' := [(0, vr Z 9 0), (1, vi a1), (2, vr Z 1 a2)]) rfl ?_
  refine wq_grd (fun h2 => ?_)
  refine wq_iload_n dX2_keep_0 1 rfl rfl ?_
  refine wq_if_lt 26 dX2_keep_1 (by decide) rfl (fun c8 => ?_) (fun c8 => ?_)
  · exact wq_vret rfl rfl dX2_keep_26
  · refine wq_iload_n dX2_keep_4 1 rfl rfl ?_
    refine wq_iconst dX2_keep_5 ?_
    refine wq_icmp_ge 26 dX2_keep_6 (by decide) rfl rfl (fun c7 => ?_) (fun c7 => ?_)
    · refine wq_aload_n dX2_keep_9 0 rfl rfl ?_
      refine g_9_1 ln_RX2_15 dX2_keep_10 ?_
      refine wq_iload_n dX2_keep_13 1 rfl rfl ?_
      refine wq_grd (fun g1 => ?_)
      refine wq_aald (k := 23) (i := 0) (t0 := 5) rfl rfl (by decide) rfl rfl (m := 2) g1 (Nat.le_refl _) dX2_keep_14 ?_
      have hb2 : (10 + (w32 a1).toNat) < 12 := by omega
      refine wq_aload_n dX2_keep_15 2 rfl rfl ?_
      refine wq_cVv M_G_takeFrom (R_G_takeFrom Z (10 + (w32 a1).toNat) a2 _) (ob_1 hb2) rfl rfl (by decide) (by decide) (Nat.le_of_ble_eq_true rfl) ln_RX2_30 dX2_keep_16 (fun gr3 _ J4 => ?_)
      refine wq_aload_n dX2_keep_19 0 rfl rfl ?_
      refine g_9_2 ln_RX2_18 dX2_keep_20 ?_
      refine wq_iload_n dX2_keep_23 1 rfl rfl ?_
      refine wq_iconst dX2_keep_24 ?_
      refine wq_zast (k := 24) (i := 0) (fun _ => rfl) (by decide) rfl rfl (m := 2) g1 (Nat.le_refl _) rfl (by decide) (by decide) (by decide) dX2_keep_25 (fun J6 => ?_)
      exact wq_vret rfl rfl dX2_keep_26
    · exact wq_vret rfl rfl dX2_keep_26

theorem M_His_hasKept : MwV yX2_hasKept cX2_hasKept 2 (some .boolean) 1 := ⟨li_7 0 (by decide +kernel) (by decide +kernel), li_6 238 (by decide +kernel) (by decide +kernel), li_6 239 (by decide +kernel) (by decide +kernel), li_1 12 (by decide +kernel) (by decide +kernel), by decide +kernel⟩
theorem ln_RX2_40 : Cond.methodLink RX2 40 yX2_hasKept ∈ lw_good := li_7 5 (by decide +kernel) (by decide +kernel)
noncomputable def f_His_bringBack (a1 : Int) (a2 : Nat) (I : Mem) : Option ((Unit) × Mem) :=
if a2 < 12 then
bnd (f_His_hasKept a1 I) fun x3 J2 =>
if (w32 x3) = 0 then
some ((), J2)
else
if 0 ≤ (w32 a1) ∧ (w32 a1) < 2 then
bnd (f_G_takeFrom a2 (10 + (w32 a1).toNat) J2) fun _ J7 =>
some ((), J7)
else none
else none
set_option maxRecDepth 20000 in
theorem R_His_bringBack (Z : ZT) (a1 : Int) (a2 : Nat) (I : Mem) (r : Unit) (J : Mem) (hf : f_His_bringBack a1 a2 I = some (r, J)) : Runs Z yX2_bringBack cX2_bringBack 3 (none) 5 [vr Z 9 0, vi a1, vr Z 1 a2] I (none, J) := by
  refine Runs.of (rv := fun _ => none) (by decide +kernel) (Nat.le_of_ble_eq_true rfl) hf (fun gr => ?_)
  unfold f_His_bringBack
  refine WQ.loc [0, 1, 2] (lv' := [(0, vr Z 9 0), (1, vi a1), (2, vr Z 1 a2)]) rfl ?_
  refine wq_grd (fun h2 => ?_)
  refine wq_aload_n dX2_bringBack_0 0 rfl rfl ?_
  refine wq_iload_n dX2_bringBack_1 1 rfl rfl ?_
  refine wq_cVi M_His_hasKept (R_His_hasKept Z a1 _) ob_9 rfl rfl (by decide) (by decide) (Nat.le_of_ble_eq_true rfl) ln_RX2_40 dX2_bringBack_2 (fun gr1 x3 J2 => ?_)
  refine wq_if_eq 18 dX2_bringBack_5 (by decide) rfl (fun c9 => ?_) (fun c9 => ?_)
  · exact wq_vret rfl rfl dX2_bringBack_18
  · refine wq_aload_n dX2_bringBack_8 2 rfl rfl ?_
    refine wq_aload_n dX2_bringBack_9 0 rfl rfl ?_
    refine g_9_1 ln_RX2_15 dX2_bringBack_10 ?_
    refine wq_iload_n dX2_bringBack_13 1 rfl rfl ?_
    refine wq_grd (fun g4 => ?_)
    refine wq_aald (k := 23) (i := 0) (t0 := 5) rfl rfl (by decide) rfl rfl (m := 2) g4 (Nat.le_refl _) dX2_bringBack_14 ?_
    have hb5 : (10 + (w32 a1).toNat) < 12 := by omega
    refine wq_cVv M_G_takeFrom (R_G_takeFrom Z a2 (10 + (w32 a1).toNat) _) (ob_1 h2) rfl rfl (by decide) (by decide) (Nat.le_of_ble_eq_true rfl) ln_RX2_30 dX2_bringBack_15 (fun gr6 _ J7 => ?_)
    exact wq_vret rfl rfl dX2_bringBack_18

theorem ln_RX4_44 : Cond.methodLink RX4 44 yX5_many ∈ lw_good := li_5 108 (by decide +kernel) (by decide +kernel)
theorem M_Rep_putNumber : MwV yX4_putNumber cX4_putNumber 2 (none) 1 := ⟨li_5 119 (by decide +kernel) (by decide +kernel), li_5 118 (by decide +kernel) (by decide +kernel), lw_in 43 (by decide +kernel) (by decide +kernel), li_1 13 (by decide +kernel) (by decide +kernel), by decide +kernel⟩
theorem ln_RX4_37 : Cond.methodLink RX4 37 yX4_putNumber ∈ lw_good := li_5 116 (by decide +kernel) (by decide +kernel)
theorem ln_RX4_49 : Cond.methodLink RX4 49 yX5_at ∈ lw_good := li_5 109 (by decide +kernel) (by decide +kernel)
noncomputable def f_Rep_putRow_w2 (v1 : Nat) (s : Int) (I : Mem) : Option (((Int) ⊕ (Unit)) × Mem) :=
if (w32 s) < (w32 (I 2 v1 1)) then
bnd (f_Row_at v1 s I) fun x4 J3 =>
if (w32 x4) < 26 then
bnd (f_Rep_put (97 + x4) J3) fun _ J15 =>
some (.inl (s + 1), J15)
else
bnd (f_Rep_put 40 J3) fun _ J6 =>
bnd (f_Rep_putNumber (x4 - 26) J6) fun _ J9 =>
bnd (f_Rep_put 41 J9) fun _ J12 =>
some (.inl (s + 1), J12)
else
some (.inr (), I)

noncomputable def f_Rep_putRow (a1 : Nat) (I : Mem) : Option ((Unit) × Mem) :=
if a1 < 516 then
bnd (whl (f_Rep_putRow_w2 a1) 0 I) fun r44 J45 =>
some ((), J45)
else none
set_option maxRecDepth 20000 in
theorem R_Rep_putRow (Z : ZT) (a1 : Nat) (I : Mem) (r : Unit) (J : Mem) (hf : f_Rep_putRow a1 I = some (r, J)) : Runs Z yX4_putRow cX4_putRow 4 (none) 3 [vr Z 10 0, vr Z 2 a1] I (none, J) := by
  refine Runs.of (rv := fun _ => none) (by decide +kernel) (Nat.le_of_ble_eq_true rfl) hf (fun gr => ?_)
  unfold f_Rep_putRow
  refine WQ.loc [0, 1] (lv' := [(0, vr Z 10 0), (1, vr Z 2 a1)]) rfl ?_
  refine wq_grd (fun h1 => ?_)
  refine wq_iconst dX4_putRow_0 ?_
  refine wq_istore_n (lv' := [(2, vi 0), (0, vr Z 10 0), (1, vr Z 2 a1)]) dX4_putRow_1 rfl (by decide) rfl ?_
  refine WQ.loc [1, 2, 0] (lv' := [(0, vr Z 10 0), (1, vr Z 2 a1), (2, vi 0)]) rfl ?_
  refine wq_loopS (fun s25 => [(0, vr Z 10 0), (1, vr Z 2 a1), (2, vi s25)]) 59 (fun _ => []) (fun κ19 bk20 ex21 gr24 s25 J23 => ?_) (fun gr46 r44 J45 => ?_) gr _ rfl
  · unfold f_Rep_putRow_w2
    refine wq_iload_n dX4_putRow_2 2 rfl rfl ?_
    refine wq_aload_n dX4_putRow_3 1 rfl rfl ?_
    refine wq_pV (v := vi (J23 2 a1 1)) M_Row_many (R_Row_many Z a1 _ _ _ (if_pos h1)) (ob_2 h1) rfl rfl (by decide) (by decide) (Nat.le_of_ble_eq_true rfl) ln_RX4_44 dX4_putRow_4 (fun gr26 => ?_)
    refine wq_icmp_ge 59 dX4_putRow_7 (by decide) rfl rfl (fun c43 => ?_) (fun c43 => ?_)
    · refine wq_aload_n dX4_putRow_10 1 rfl rfl ?_
      refine wq_iload_n dX4_putRow_11 2 rfl rfl ?_
      refine wq_cVi M_Row_at (R_Row_at Z a1 s25 _) (ob_2 h1) rfl rfl (by decide) (by decide) (Nat.le_of_ble_eq_true rfl) ln_RX4_49 dX4_putRow_12 (fun gr27 x29 J28 => ?_)
      refine wq_istore_n (lv' := [(3, vi x29), (0, vr Z 10 0), (1, vr Z 2 a1), (2, vi s25)]) dX4_putRow_15 rfl (by decide) rfl ?_
      refine wq_iload_n dX4_putRow_16 0 rfl rfl ?_
      refine wq_bipush dX4_putRow_17 (by decide) ?_
      refine wq_icmp_ge 33 dX4_putRow_19 (by decide) rfl rfl (fun c42 => ?_) (fun c42 => ?_)
      · refine wq_aload_n dX4_putRow_22 1 rfl rfl ?_
        refine wq_bipush dX4_putRow_23 (by decide) ?_
        refine wq_iload_n dX4_putRow_25 0 rfl rfl ?_
        refine wq_iadd dX4_putRow_26 ?_
        refine wq_cVv M_Rep_put (R_Rep_put Z (97 + x29) _) ob_10 rfl rfl (by decide) (by decide) (Nat.le_of_ble_eq_true rfl) ln_RX4_33 dX4_putRow_27 (fun gr39 _ J40 => ?_)
        refine wq_goto 53 dX4_putRow_30 (by decide) ?_
        refine wq_iinc (lv' := [(2, vi (s25 + 1)), (3, vi x29), (0, vr Z 10 0), (1, vr Z 2 a1)]) dX4_putRow_53 3 rfl (by decide) rfl ?_
        refine wq_goto 2 dX4_putRow_56 (by decide) ?_
        exact WQ.loc [2, 3, 0] rfl (bk20 _ _ _)
      · refine wq_aload_n dX4_putRow_33 1 rfl rfl ?_
        refine wq_bipush dX4_putRow_34 (by decide) ?_
        refine wq_cVv M_Rep_put (R_Rep_put Z 40 _) ob_10 rfl rfl (by decide) (by decide) (Nat.le_of_ble_eq_true rfl) ln_RX4_33 dX4_putRow_36 (fun gr30 _ J31 => ?_)
        refine wq_aload_n dX4_putRow_39 1 rfl rfl ?_
        refine wq_iload_n dX4_putRow_40 0 rfl rfl ?_
        refine wq_bipush dX4_putRow_41 (by decide) ?_
        refine wq_isub dX4_putRow_43 ?_
        refine wq_cVv M_Rep_putNumber (R_Rep_putNumber Z (x29 - 26) _) ob_10 rfl rfl (by decide) (by decide) (Nat.le_of_ble_eq_true rfl) ln_RX4_37 dX4_putRow_44 (fun gr33 _ J34 => ?_)
        refine wq_aload_n dX4_putRow_47 1 rfl rfl ?_
        refine wq_bipush dX4_putRow_48 (by decide) ?_
        refine wq_cVv M_Rep_put (R_Rep_put Z 41 _) ob_10 rfl rfl (by decide) (by decide) (Nat.le_of_ble_eq_true rfl) ln_RX4_33 dX4_putRow_50 (fun gr36 _ J37 => ?_)
        refine wq_iinc (lv' := [(2, vi (s25 + 1)), (3, vi x29), (0, vr Z 10 0), (1, vr Z 2 a1)]) dX4_putRow_53 3 rfl (by decide) rfl ?_
        refine wq_goto 2 dX4_putRow_56 (by decide) ?_
        exact WQ.loc [2, 3, 0] rfl (bk20 _ _ _)
    · exact WQ.loc [] rfl (ex21 _ _ _)
  · exact wq_vret rfl rfl dX4_putRow_59
end
section
theorem ln_RX12_142 : Cond.methodLink RX12 142 yX5_many ∈ lw_good := li_5 49 (by decide +kernel) (by decide +kernel)
theorem M_G_totalSize : MwV yX1_totalSize cX1_totalSize 3 (some .int) 0 := ⟨li_5 43 (by decide +kernel) (by decide +kernel), li_5 41 (by decide +kernel) (by decide +kernel), li_5 42 (by decide +kernel) (by decide +kernel), li_1 2 (by decide +kernel) (by decide +kernel), by decide +kernel⟩
theorem ln_RX12_148 : Cond.methodLink RX12 148 yX1_totalSize ∈ lw_good := li_5 40 (by decide +kernel) (by decide +kernel)
theorem ln_RX12_151 : Cond.methodLink RX12 151 yX1_number ∈ lw_good := li_5 142 (by decide +kernel) (by decide +kernel)
theorem M_G_longestBody : MwV yX1_longestBody cX1_longestBody 3 (some .int) 0 := ⟨li_5 146 (by decide +kernel) (by decide +kernel), li_5 144 (by decide +kernel) (by decide +kernel), li_5 145 (by decide +kernel) (by decide +kernel), li_1 2 (by decide +kernel) (by decide +kernel), by decide +kernel⟩
theorem ln_RX12_154 : Cond.methodLink RX12 154 yX1_longestBody ∈ lw_good := li_5 143 (by decide +kernel) (by decide +kernel)
theorem M_Sv_measure : MwV yX10_measure cX10_measure 3 (none) 1 := ⟨li_5 151 (by decide +kernel) (by decide +kernel), li_5 149 (by decide +kernel) (by decide +kernel), li_5 150 (by decide +kernel) (by decide +kernel), li_1 6 (by decide +kernel) (by decide +kernel), by decide +kernel⟩
theorem ln_RX12_160 : Cond.methodLink RX12 160 yX10_deepestIn ∈ lw_good := li_5 170 (by decide +kernel) (by decide +kernel)
theorem ln_RX12_157 : Cond.methodLink RX12 157 yX10_measure ∈ lw_good := li_5 148 (by decide +kernel) (by decide +kernel)
theorem M_Sv_unlikeLetters : MwV yX10_unlikeLetters cX10_unlikeLetters 3 (some .int) 0 := ⟨li_5 174 (by decide +kernel) (by decide +kernel), li_5 172 (by decide +kernel) (by decide +kernel), li_5 173 (by decide +kernel) (by decide +kernel), li_1 6 (by decide +kernel) (by decide +kernel), by decide +kernel⟩
theorem ln_RX12_164 : Cond.methodLink RX12 164 yX10_unlikeLetters ∈ lw_good := li_5 171 (by decide +kernel) (by decide +kernel)
theorem ln_RX12_22 : Cond.fieldLink RX12 22 RX12 "stepper" "LPairRules$Stepper;" ∈ lw_good := li_2 102 (by decide +kernel) (by decide +kernel)
theorem M_Stp_pairs : MwV yX9_pairs cX9_pairs 1 (some (.object RX3)) 0 := ⟨li_4 198 (by decide +kernel) (by decide +kernel), li_4 196 (by decide +kernel) (by decide +kernel), li_4 197 (by decide +kernel) (by decide +kernel), li_1 4 (by decide +kernel) (by decide +kernel), by decide +kernel⟩
theorem ln_RX12_167 : Cond.methodLink RX12 167 yX9_pairs ∈ lw_good := li_4 195 (by decide +kernel) (by decide +kernel)
theorem M_PT_readFrom : MwV yX3_readFrom cX3_readFrom 3 (none) 1 := ⟨li_4 37 (by decide +kernel) (by decide +kernel), li_4 35 (by decide +kernel) (by decide +kernel), li_4 36 (by decide +kernel) (by decide +kernel), li_1 5 (by decide +kernel) (by decide +kernel), by decide +kernel⟩
theorem M_PT_manyWorth : MwV yX3_manyWorth cX3_manyWorth 1 (some .int) 0 := ⟨li_5 182 (by decide +kernel) (by decide +kernel), li_5 180 (by decide +kernel) (by decide +kernel), li_5 181 (by decide +kernel) (by decide +kernel), li_1 5 (by decide +kernel) (by decide +kernel), by decide +kernel⟩
theorem ln_RX12_176 : Cond.methodLink RX12 176 yX3_manyWorth ∈ lw_good := li_5 179 (by decide +kernel) (by decide +kernel)
theorem ln_RX12_171 : Cond.methodLink RX12 171 yX3_readFrom ∈ lw_good := li_4 199 (by decide +kernel) (by decide +kernel)
theorem ln_RX12_61 : Cond.fieldLink RX12 61 RX12 "history" "LPairRules$History;" ∈ lw_good := li_2 107 (by decide +kernel) (by decide +kernel)
theorem M_His_manyPast : MwV yX2_manyPast cX2_manyPast 1 (some .int) 0 := ⟨li_5 186 (by decide +kernel) (by decide +kernel), li_5 184 (by decide +kernel) (by decide +kernel), li_5 185 (by decide +kernel) (by decide +kernel), li_1 12 (by decide +kernel) (by decide +kernel), by decide +kernel⟩
theorem ln_RX12_179 : Cond.methodLink RX12 179 yX2_manyPast ∈ lw_good := li_5 183 (by decide +kernel) (by decide +kernel)
noncomputable def f_PR_size (a1 : Int) (I : Mem) : Option ((Int ⊕ String) × Mem) :=
if (w32 a1) = 0 then
bnd (f_G_textLength 0 I) fun x3 J2 =>
some (.inl x3, J2)
else if (w32 a1) = 1 then
some (.inl (I 2 (43 * 0) 1), I)
else if (w32 a1) = 2 then
bnd (f_G_manyRules 0 I) fun x10 J9 =>
some (.inl x10, J9)
else if (w32 a1) = 3 then
bnd (f_G_totalSize 0 I) fun x14 J13 =>
some (.inl x14, J13)
else if (w32 a1) = 4 then
bnd (f_G_number 0 a1 I) fun x18 J17 =>
some (.inl x18, J17)
else if (w32 a1) = 5 then
bnd (f_G_number 0 a1 I) fun x22 J21 =>
some (.inl x22, J21)
else if (w32 a1) = 6 then
bnd (f_G_number 0 a1 I) fun x26 J25 =>
some (.inl x26, J25)
else if (w32 a1) = 7 then
bnd (f_G_longestBody 0 I) fun x30 J29 =>
some (.inl x30, J29)
else if (w32 a1) = 8 then
bnd (f_Sv_measure 0 I) fun _ J33 =>
bnd (f_Sv_deepestIn (43 * 0) J33) fun x38 J37 =>
some (.inl x38, J37)
else if (w32 a1) = 9 then
bnd (f_Sv_unfold 0 I) fun _ J41 =>
bnd (f_Sv_unlikeLetters J41) fun x45 J44 =>
some (.inl x45, J44)
else if (w32 a1) = 10 then
bnd (f_PT_readFrom 0 I) fun _ J49 =>
some (.inl (J49 4 0 8), J49)
else if (w32 a1) = 11 then
some (.inl (I 9 0 4), I)
else ltI (thrw I) fun J56 =>
some (.inr xIA, J56)
set_option maxRecDepth 20000 in
theorem R_PR_size (Z : ZT) (a1 : Int) (I : Mem) : RX Z yX12_size cX12_size 2 (some .int) 6 [vr Z 0 0, vi a1] I (fun x => some (vi x)) (f_PR_size a1 I) := by
  refine RX.of (by decide +kernel) (Nat.le_of_ble_eq_true rfl) (fun gr => ?_)
  unfold f_PR_size
  refine WQ.loc [0, 1] (lv' := [(0, vr Z 0 0), (1, vi a1)]) rfl ?_
  refine wq_iload_n dX12_size_0 1 rfl rfl ?_
  refine WQ.split (fun c4 => ?_) (fun c4 => ?_)
  · refine wq_tin (n := 0) 64 dX12_size_1 rfl c4 (by decide) (by decide) rfl (by decide) ?_
    refine wq_aload_n dX12_size_64 0 rfl rfl ?_
    refine g_0_0 ln_RX12_12 dX12_size_65 ?_
    refine wq_cVi M_G_textLength (R_G_textLength Z 0 _) (ob_1 (by decide)) rfl rfl (by decide) (by decide) (Nat.le_of_ble_eq_true rfl) ln_RX12_122 dX12_size_68 (fun gr1 x3 J2 => ?_)
    exact wq_iret rfl rfl dX12_size_71
  · skip
    refine WQ.split (fun c7 => ?_) (fun c7 => ?_)
    · refine wq_tin (n := 1) 72 dX12_size_1 rfl c7 (by decide) (by decide) rfl (by decide) ?_
      refine wq_aload_n dX12_size_72 0 rfl rfl ?_
      refine g_0_0 ln_RX12_12 dX12_size_73 ?_
      refine wq_pV (v := vr Z 2 (43 * 0)) M_G_startRow (R_G_startRow Z 0 _ _ _ (if_pos (by decide))) (ob_1 (by decide)) rfl rfl (by decide) (by decide) (Nat.le_of_ble_eq_true rfl) ln_RX12_138 dX12_size_76 (fun gr5 => ?_)
      refine wq_pV (v := vi (I 2 (43 * 0) 1)) M_Row_many (R_Row_many Z (43 * 0) _ _ _ (if_pos (by omega))) (ob_2 (by omega)) rfl rfl (by decide) (by decide) (Nat.le_of_ble_eq_true rfl) ln_RX12_142 dX12_size_79 (fun gr6 => ?_)
      exact wq_iret rfl rfl dX12_size_82
    · skip
      refine WQ.split (fun c11 => ?_) (fun c11 => ?_)
      · refine wq_tin (n := 2) 83 dX12_size_1 rfl c11 (by decide) (by decide) rfl (by decide) ?_
        refine wq_aload_n dX12_size_83 0 rfl rfl ?_
        refine g_0_0 ln_RX12_12 dX12_size_84 ?_
        refine wq_cVi M_G_manyRules (R_G_manyRules Z 0 _) (ob_1 (by decide)) rfl rfl (by decide) (by decide) (Nat.le_of_ble_eq_true rfl) ln_RX12_145 dX12_size_87 (fun gr8 x10 J9 => ?_)
        exact wq_iret rfl rfl dX12_size_90
      · skip
        refine WQ.split (fun c15 => ?_) (fun c15 => ?_)
        · refine wq_tin (n := 3) 91 dX12_size_1 rfl c15 (by decide) (by decide) rfl (by decide) ?_
          refine wq_aload_n dX12_size_91 0 rfl rfl ?_
          refine g_0_0 ln_RX12_12 dX12_size_92 ?_
          refine wq_cVi M_G_totalSize (R_G_totalSize Z 0 _) (ob_1 (by decide)) rfl rfl (by decide) (by decide) (Nat.le_of_ble_eq_true rfl) ln_RX12_148 dX12_size_95 (fun gr12 x14 J13 => ?_)
          exact wq_iret rfl rfl dX12_size_98
        · skip
          refine WQ.split (fun c19 => ?_) (fun c19 => ?_)
          · refine wq_tin (n := 4) 99 dX12_size_1 rfl c19 (by decide) (by decide) rfl (by decide) ?_
            refine wq_aload_n dX12_size_99 0 rfl rfl ?_
            refine g_0_0 ln_RX12_12 dX12_size_100 ?_
            refine wq_iload_n dX12_size_103 1 rfl rfl ?_
            refine wq_cVi M_G_number (R_G_number Z 0 a1 _) (ob_1 (by decide)) rfl rfl (by decide) (by decide) (Nat.le_of_ble_eq_true rfl) ln_RX12_151 dX12_size_104 (fun gr16 x18 J17 => ?_)
            exact wq_iret rfl rfl dX12_size_107
          · skip
            refine WQ.split (fun c23 => ?_) (fun c23 => ?_)
            · refine wq_tin (n := 5) 99 dX12_size_1 rfl c23 (by decide) (by decide) rfl (by decide) ?_
              refine wq_aload_n dX12_size_99 0 rfl rfl ?_
              refine g_0_0 ln_RX12_12 dX12_size_100 ?_
              refine wq_iload_n dX12_size_103 1 rfl rfl ?_
              refine wq_cVi M_G_number (R_G_number Z 0 a1 _) (ob_1 (by decide)) rfl rfl (by decide) (by decide) (Nat.le_of_ble_eq_true rfl) ln_RX12_151 dX12_size_104 (fun gr20 x22 J21 => ?_)
              exact wq_iret rfl rfl dX12_size_107
            · skip
              refine WQ.split (fun c27 => ?_) (fun c27 => ?_)
              · refine wq_tin (n := 6) 99 dX12_size_1 rfl c27 (by decide) (by decide) rfl (by decide) ?_
                refine wq_aload_n dX12_size_99 0 rfl rfl ?_
                refine g_0_0 ln_RX12_12 dX12_size_100 ?_
                refine wq_iload_n dX12_size_103 1 rfl rfl ?_
                refine wq_cVi M_G_number (R_G_number Z 0 a1 _) (ob_1 (by decide)) rfl rfl (by decide) (by decide) (Nat.le_of_ble_eq_true rfl) ln_RX12_151 dX12_size_104 (fun gr24 x26 J25 => ?_)
                exact wq_iret rfl rfl dX12_size_107
              · skip
                refine WQ.split (fun c31 => ?_) (fun c31 => ?_)
                · refine wq_tin (n := 7) 108 dX12_size_1 rfl c31 (by decide) (by decide) rfl (by decide) ?_
                  refine wq_aload_n dX12_size_108 0 rfl rfl ?_
                  refine g_0_0 ln_RX12_12 dX12_size_109 ?_
                  refine wq_cVi M_G_longestBody (R_G_longestBody Z 0 _) (ob_1 (by decide)) rfl rfl (by decide) (by decide) (Nat.le_of_ble_eq_true rfl) ln_RX12_154 dX12_size_112 (fun gr28 x30 J29 => ?_)
                  exact wq_iret rfl rfl dX12_size_115
                · skip
                  refine WQ.split (fun c39 => ?_) (fun c39 => ?_)
                  · refine wq_tin (n := 8) 116 dX12_size_1 rfl c39 (by decide) (by decide) rfl (by decide) ?_
                    refine wq_aload_n dX12_size_116 0 rfl rfl ?_
                    refine g_0_3 ln_RX12_29 dX12_size_117 ?_
                    refine wq_aload_n dX12_size_120 0 rfl rfl ?_
                    refine g_0_0 ln_RX12_12 dX12_size_121 ?_
                    refine wq_cVv M_Sv_measure (R_Sv_measure Z 0 _) ob_5 rfl rfl (by decide) (by decide) (Nat.le_of_ble_eq_true rfl) ln_RX12_157 dX12_size_124 (fun gr32 _ J33 => ?_)
                    refine wq_aload_n dX12_size_127 0 rfl rfl ?_
                    refine g_0_3 ln_RX12_29 dX12_size_128 ?_
                    refine wq_aload_n dX12_size_131 0 rfl rfl ?_
                    refine g_0_0 ln_RX12_12 dX12_size_132 ?_
                    refine wq_pV (v := vr Z 2 (43 * 0)) M_G_startRow (R_G_startRow Z 0 _ _ _ (if_pos (by decide))) (ob_1 (by decide)) rfl rfl (by decide) (by decide) (Nat.le_of_ble_eq_true rfl) ln_RX12_138 dX12_size_135 (fun gr35 => ?_)
                    refine wq_cVi M_Sv_deepestIn (R_Sv_deepestIn Z (43 * 0) _) ob_5 rfl rfl (by decide) (by decide) (Nat.le_of_ble_eq_true rfl) ln_RX12_160 dX12_size_138 (fun gr36 x38 J37 => ?_)
                    exact wq_iret rfl rfl dX12_size_141
                  · skip
                    refine WQ.split (fun c46 => ?_) (fun c46 => ?_)
                    · refine wq_tin (n := 9) 142 dX12_size_1 rfl c46 (by decide) (by decide) rfl (by decide) ?_
                      refine wq_aload_n dX12_size_142 0 rfl rfl ?_
                      refine g_0_3 ln_RX12_29 dX12_size_143 ?_
                      refine wq_aload_n dX12_size_146 0 rfl rfl ?_
                      refine g_0_0 ln_RX12_12 dX12_size_147 ?_
                      refine wq_cVv M_Sv_unfold (R_Sv_unfold Z 0 _) ob_5 rfl rfl (by decide) (by decide) (Nat.le_of_ble_eq_true rfl) ln_RX12_105 dX12_size_150 (fun gr40 _ J41 => ?_)
                      refine wq_aload_n dX12_size_153 0 rfl rfl ?_
                      refine g_0_3 ln_RX12_29 dX12_size_154 ?_
                      refine wq_cVi M_Sv_unlikeLetters (R_Sv_unlikeLetters Z _) ob_5 rfl rfl (by decide) (by decide) (Nat.le_of_ble_eq_true rfl) ln_RX12_164 dX12_size_157 (fun gr43 x45 J44 => ?_)
                      exact wq_iret rfl rfl dX12_size_160
                    · skip
                      refine WQ.split (fun c53 => ?_) (fun c53 => ?_)
                      · refine wq_tin (n := 10) 161 dX12_size_1 rfl c53 (by decide) (by decide) rfl (by decide) ?_
                        refine wq_aload_n dX12_size_161 0 rfl rfl ?_
                        refine g_0_2 ln_RX12_22 dX12_size_162 ?_
                        refine wq_pV (v := vr Z 4 0) M_Stp_pairs (R_Stp_pairs Z  _ _ _ rfl) ob_3 rfl rfl (by decide) (by decide) (Nat.le_of_ble_eq_true rfl) ln_RX12_167 dX12_size_165 (fun gr47 => ?_)
                        refine wq_aload_n dX12_size_168 0 rfl rfl ?_
                        refine g_0_0 ln_RX12_12 dX12_size_169 ?_
                        refine wq_cVv M_PT_readFrom (R_PT_readFrom Z 0 _) ob_4 rfl rfl (by decide) (by decide) (Nat.le_of_ble_eq_true rfl) ln_RX12_171 dX12_size_172 (fun gr48 _ J49 => ?_)
                        refine wq_aload_n dX12_size_175 0 rfl rfl ?_
                        refine g_0_2 ln_RX12_22 dX12_size_176 ?_
                        refine wq_pV (v := vr Z 4 0) M_Stp_pairs (R_Stp_pairs Z  _ _ _ rfl) ob_3 rfl rfl (by decide) (by decide) (Nat.le_of_ble_eq_true rfl) ln_RX12_167 dX12_size_179 (fun gr51 => ?_)
                        refine wq_pV (v := vi (J49 4 0 8)) M_PT_manyWorth (R_PT_manyWorth Z  _ _ _ rfl) ob_4 rfl rfl (by decide) (by decide) (Nat.le_of_ble_eq_true rfl) ln_RX12_176 dX12_size_182 (fun gr52 => ?_)
                        exact wq_iret rfl rfl dX12_size_185
                      · skip
                        refine WQ.split (fun c55 => ?_) (fun c55 => ?_)
                        · refine wq_tin (n := 11) 186 dX12_size_1 rfl c55 (by decide) (by decide) rfl (by decide) ?_
                          refine wq_aload_n dX12_size_186 0 rfl rfl ?_
                          refine g_0_7 ln_RX12_61 dX12_size_187 ?_
                          refine wq_pV (v := vi (I 9 0 4)) M_His_manyPast (R_His_manyPast Z  _ _ _ rfl) ob_9 rfl rfl (by decide) (by decide) (Nat.le_of_ble_eq_true rfl) ln_RX12_179 dX12_size_190 (fun gr54 => ?_)
                          exact wq_iret rfl rfl dX12_size_193
                        · skip
                          refine wq_tout 194 dX12_size_1 rfl (by omega) (by decide) ?_
                          exact wq_throw thr_IA (Nat.le_of_ble_eq_true rfl) (by decide +kernel) rfl dX12_size_194 dX12_size_197 dX12_size_198 dX12_size_201

theorem M_G_usesOf : MwV yX1_usesOf cX1_usesOf 4 (some .int) 1 := ⟨li_6 44 (by decide +kernel) (by decide +kernel), li_6 42 (by decide +kernel) (by decide +kernel), li_6 43 (by decide +kernel) (by decide +kernel), li_1 2 (by decide +kernel) (by decide +kernel), by decide +kernel⟩
theorem ln_RX12_195 : Cond.methodLink RX12 195 yX1_usesOf ∈ lw_good := li_6 41 (by decide +kernel) (by decide +kernel)
theorem ln_RX12_198 : Cond.methodLink RX12 198 yX1_lengthOf ∈ lw_good := li_6 46 (by decide +kernel) (by decide +kernel)
theorem ln_RX12_201 : Cond.methodLink RX12 201 yX10_depthOf ∈ lw_good := li_6 47 (by decide +kernel) (by decide +kernel)
theorem M_Sv_comingsOf : MwV yX10_comingsOf cX10_comingsOf 2 (some .int) 1 := ⟨li_6 51 (by decide +kernel) (by decide +kernel), li_6 49 (by decide +kernel) (by decide +kernel), li_6 50 (by decide +kernel) (by decide +kernel), li_1 6 (by decide +kernel) (by decide +kernel), by decide +kernel⟩
theorem ln_RX12_204 : Cond.methodLink RX12 204 yX10_comingsOf ∈ lw_good := li_6 48 (by decide +kernel) (by decide +kernel)
noncomputable def f_PR_rule (a1 : Int) (a2 : Int) (I : Mem) : Option ((Int ⊕ String) × Mem) :=
bnd (f_G_hasRule 0 a1 I) fun x3 J2 =>
if (w32 x3) = 0 then
ltI (thrw J2) fun J33 =>
some (.inr xIO, J33)
else
if (w32 a2) = 0 then
bnd (f_G_body 0 a1 J2) fun x6 J5 =>
if x6 < 516 then
some (.inl (J5 2 x6 1), J5)
else none
else if (w32 a2) = 1 then
bnd (f_G_usesOf 0 a1 J2) fun x12 J11 =>
some (.inl x12, J11)
else if (w32 a2) = 2 then
bnd (f_G_lengthOf 0 (26 + a1) J2) fun x16 J15 =>
some (.inl x16, J15)
else if (w32 a2) = 3 then
bnd (f_Sv_measure 0 J2) fun _ J19 =>
bnd (f_Sv_depthOf (26 + a1) J19) fun x23 J22 =>
some (.inl x23, J22)
else if (w32 a2) = 4 then
bnd (f_Sv_measure 0 J2) fun _ J26 =>
bnd (f_Sv_comingsOf a1 J26) fun x30 J29 =>
some (.inl x30, J29)
else ltI (thrw J2) fun J32 =>
some (.inr xIA, J32)
set_option maxRecDepth 20000 in
theorem R_PR_rule (Z : ZT) (a1 : Int) (a2 : Int) (I : Mem) : RX Z yX12_rule cX12_rule 3 (some .int) 6 [vr Z 0 0, vi a1, vi a2] I (fun x => some (vi x)) (f_PR_rule a1 a2 I) := by
  refine RX.of (by decide +kernel) (Nat.le_of_ble_eq_true rfl) (fun gr => ?_)
  unfold f_PR_rule
  refine WQ.loc [0, 1, 2] (lv' := [(0, vr Z 0 0), (1, vi a1), (2, vi a2)]) rfl ?_
  refine wq_aload_n dX12_rule_0 0 rfl rfl ?_
  refine g_0_0 ln_RX12_12 dX12_rule_1 ?_
  refine wq_iload_n dX12_rule_4 1 rfl rfl ?_
  refine wq_cVi M_G_hasRule (R_G_hasRule Z 0 a1 _) (ob_1 (by decide)) rfl rfl (by decide) (by decide) (Nat.le_of_ble_eq_true rfl) ln_RX12_188 dX12_rule_5 (fun gr1 x3 J2 => ?_)
  refine wq_if_ne 19 dX12_rule_8 (by decide) rfl (fun c34 => ?_) (fun c34 => ?_)
  · exact wq_throw thr_IO (Nat.le_of_ble_eq_true rfl) (by decide +kernel) rfl dX12_rule_11 dX12_rule_14 dX12_rule_15 dX12_rule_18
  · refine wq_iload_n dX12_rule_19 2 rfl rfl ?_
    refine WQ.split (fun c9 => ?_) (fun c9 => ?_)
    · refine wq_tin (n := 0) 56 dX12_rule_20 rfl c9 (by decide) (by decide) rfl (by decide) ?_
      refine wq_aload_n dX12_rule_56 0 rfl rfl ?_
      refine g_0_0 ln_RX12_12 dX12_rule_57 ?_
      refine wq_iload_n dX12_rule_60 1 rfl rfl ?_
      refine wq_cVr 2 M_G_body (R_G_body Z 0 a1 _) (ob_1 (by decide)) rfl rfl (by decide) (by decide) (Nat.le_of_ble_eq_true rfl) ln_RX12_191 dX12_rule_61 (fun gr4 x6 J5 => ?_)
      refine wq_grd (fun g7 => ?_)
      refine wq_pV (v := vi (J5 2 x6 1)) M_Row_many (R_Row_many Z x6 _ _ _ (if_pos g7)) (ob_2 g7) rfl rfl (by decide) (by decide) (Nat.le_of_ble_eq_true rfl) ln_RX12_142 dX12_rule_64 (fun gr8 => ?_)
      exact wq_iret rfl rfl dX12_rule_67
    · skip
      refine WQ.split (fun c13 => ?_) (fun c13 => ?_)
      · refine wq_tin (n := 1) 68 dX12_rule_20 rfl c13 (by decide) (by decide) rfl (by decide) ?_
        refine wq_aload_n dX12_rule_68 0 rfl rfl ?_
        refine g_0_0 ln_RX12_12 dX12_rule_69 ?_
        refine wq_iload_n dX12_rule_72 1 rfl rfl ?_
        refine wq_cVi M_G_usesOf (R_G_usesOf Z 0 a1 _) (ob_1 (by decide)) rfl rfl (by decide) (by decide) (Nat.le_of_ble_eq_true rfl) ln_RX12_195 dX12_rule_73 (fun gr10 x12 J11 => ?_)
        exact wq_iret rfl rfl dX12_rule_76
      · skip
        refine WQ.split (fun c17 => ?_) (fun c17 => ?_)
        · refine wq_tin (n := 2) 77 dX12_rule_20 rfl c17 (by decide) (by decide) rfl (by decide) ?_
          refine wq_aload_n dX12_rule_77 0 rfl rfl ?_
          refine g_0_0 ln_RX12_12 dX12_rule_78 ?_
          refine wq_bipush dX12_rule_81 (by decide) ?_
          refine wq_iload_n dX12_rule_83 1 rfl rfl ?_
          refine wq_iadd dX12_rule_84 ?_
          refine wq_cVi M_G_lengthOf (R_G_lengthOf Z 0 (26 + a1) _) (ob_1 (by decide)) rfl rfl (by decide) (by decide) (Nat.le_of_ble_eq_true rfl) ln_RX12_198 dX12_rule_85 (fun gr14 x16 J15 => ?_)
          exact wq_iret rfl rfl dX12_rule_88
        · skip
          refine WQ.split (fun c24 => ?_) (fun c24 => ?_)
          · refine wq_tin (n := 3) 89 dX12_rule_20 rfl c24 (by decide) (by decide) rfl (by decide) ?_
            refine wq_aload_n dX12_rule_89 0 rfl rfl ?_
            refine g_0_3 ln_RX12_29 dX12_rule_90 ?_
            refine wq_aload_n dX12_rule_93 0 rfl rfl ?_
            refine g_0_0 ln_RX12_12 dX12_rule_94 ?_
            refine wq_cVv M_Sv_measure (R_Sv_measure Z 0 _) ob_5 rfl rfl (by decide) (by decide) (Nat.le_of_ble_eq_true rfl) ln_RX12_157 dX12_rule_97 (fun gr18 _ J19 => ?_)
            refine wq_aload_n dX12_rule_100 0 rfl rfl ?_
            refine g_0_3 ln_RX12_29 dX12_rule_101 ?_
            refine wq_bipush dX12_rule_104 (by decide) ?_
            refine wq_iload_n dX12_rule_106 1 rfl rfl ?_
            refine wq_iadd dX12_rule_107 ?_
            refine wq_cVi M_Sv_depthOf (R_Sv_depthOf Z (26 + a1) _) ob_5 rfl rfl (by decide) (by decide) (Nat.le_of_ble_eq_true rfl) ln_RX12_201 dX12_rule_108 (fun gr21 x23 J22 => ?_)
            exact wq_iret rfl rfl dX12_rule_111
          · skip
            refine WQ.split (fun c31 => ?_) (fun c31 => ?_)
            · refine wq_tin (n := 4) 112 dX12_rule_20 rfl c31 (by decide) (by decide) rfl (by decide) ?_
              refine wq_aload_n dX12_rule_112 0 rfl rfl ?_
              refine g_0_3 ln_RX12_29 dX12_rule_113 ?_
              refine wq_aload_n dX12_rule_116 0 rfl rfl ?_
              refine g_0_0 ln_RX12_12 dX12_rule_117 ?_
              refine wq_cVv M_Sv_measure (R_Sv_measure Z 0 _) ob_5 rfl rfl (by decide) (by decide) (Nat.le_of_ble_eq_true rfl) ln_RX12_157 dX12_rule_120 (fun gr25 _ J26 => ?_)
              refine wq_aload_n dX12_rule_123 0 rfl rfl ?_
              refine g_0_3 ln_RX12_29 dX12_rule_124 ?_
              refine wq_iload_n dX12_rule_127 1 rfl rfl ?_
              refine wq_cVi M_Sv_comingsOf (R_Sv_comingsOf Z a1 _) ob_5 rfl rfl (by decide) (by decide) (Nat.le_of_ble_eq_true rfl) ln_RX12_204 dX12_rule_128 (fun gr28 x30 J29 => ?_)
              exact wq_iret rfl rfl dX12_rule_131
            · skip
              refine wq_tout 132 dX12_rule_20 rfl (by omega) (by decide) ?_
              exact wq_throw thr_IA (Nat.le_of_ble_eq_true rfl) (by decide +kernel) rfl dX12_rule_132 dX12_rule_135 dX12_rule_136 dX12_rule_139

theorem ln_RX12_250 : Cond.methodLink RX12 250 yX3_countOf ∈ lw_good := li_4 201 (by decide +kernel) (by decide +kernel)
theorem ln_RX12_246 : Cond.methodLink RX12 246 yX3_pairOf ∈ lw_good := li_4 200 (by decide +kernel) (by decide +kernel)
theorem ln_RX12_243 : Cond.methodLink RX12 243 yX12_isSymbol ∈ lw_good := li_6 113 (by decide +kernel) (by decide +kernel)
noncomputable def f_PR_count (a1 : Int) (a2 : Int) (I : Mem) : Option ((Int ⊕ String) × Mem) :=
bnd (f_PR_isSymbol a1 I) fun x3 J2 =>
if (w32 x3) = 0 then
ltI (thrw J2) fun J4 =>
some (.inr xIA, J4)
else
bnd (f_PR_isSymbol a2 J2) fun x7 J6 =>
if (w32 x7) = 0 then
ltI (thrw J6) fun J18 =>
some (.inr xIA, J18)
else
bnd (f_PT_readFrom 0 J6) fun _ J10 =>
bnd (f_PT_pairOf a1 a2 J10) fun x14 J13 =>
bnd (f_PT_countOf x14 J13) fun x17 J16 =>
some (.inl x17, J16)
set_option maxRecDepth 20000 in
theorem R_PR_count (Z : ZT) (a1 : Int) (a2 : Int) (I : Mem) : RX Z yX12_count cX12_count 4 (some .int) 6 [vr Z 0 0, vi a1, vi a2] I (fun x => some (vi x)) (f_PR_count a1 a2 I) := by
  refine RX.of (by decide +kernel) (Nat.le_of_ble_eq_true rfl) (fun gr => ?_)
  unfold f_PR_count
  refine WQ.loc [0, 1, 2] (lv' := [(0, vr Z 0 0), (1, vi a1), (2, vi a2)]) rfl ?_
  refine wq_iload_n dX12_count_0 1 rfl rfl ?_
  refine wq_cSi M_PR_isSymbol (R_PR_isSymbol Z a1 _) rfl rfl rfl (by decide) (by decide) (Nat.le_of_ble_eq_true rfl) ln_RX12_243 dX12_count_1 (fun gr1 x3 J2 => ?_)
  refine wq_if_eq 14 dX12_count_4 (by decide) rfl (fun c20 => ?_) (fun c20 => ?_)
  · exact wq_throw thr_IA (Nat.le_of_ble_eq_true rfl) (by decide +kernel) rfl dX12_count_14 dX12_count_17 dX12_count_18 dX12_count_21
  · refine wq_iload_n dX12_count_7 2 rfl rfl ?_
    refine wq_cSi M_PR_isSymbol (R_PR_isSymbol Z a2 _) rfl rfl rfl (by decide) (by decide) (Nat.le_of_ble_eq_true rfl) ln_RX12_243 dX12_count_8 (fun gr5 x7 J6 => ?_)
    refine wq_if_ne 22 dX12_count_11 (by decide) rfl (fun c19 => ?_) (fun c19 => ?_)
    · exact wq_throw thr_IA (Nat.le_of_ble_eq_true rfl) (by decide +kernel) rfl dX12_count_14 dX12_count_17 dX12_count_18 dX12_count_21
    · refine wq_aload_n dX12_count_22 0 rfl rfl ?_
      refine g_0_2 ln_RX12_22 dX12_count_23 ?_
      refine wq_pV (v := vr Z 4 0) M_Stp_pairs (R_Stp_pairs Z  _ _ _ rfl) ob_3 rfl rfl (by decide) (by decide) (Nat.le_of_ble_eq_true rfl) ln_RX12_167 dX12_count_26 (fun gr8 => ?_)
      refine wq_astore_n (lv' := [(3, vr Z 4 0), (0, vr Z 0 0), (1, vi a1), (2, vi a2)]) dX12_count_29 rfl (by decide) rfl ?_
      refine wq_aload_n dX12_count_30 0 rfl rfl ?_
      refine wq_aload_n dX12_count_31 1 rfl rfl ?_
      refine g_0_0 ln_RX12_12 dX12_count_32 ?_
      refine wq_cVv M_PT_readFrom (R_PT_readFrom Z 0 _) ob_4 rfl rfl (by decide) (by decide) (Nat.le_of_ble_eq_true rfl) ln_RX12_171 dX12_count_35 (fun gr9 _ J10 => ?_)
      refine wq_aload_n dX12_count_38 0 rfl rfl ?_
      refine wq_aload_n dX12_count_39 0 rfl rfl ?_
      refine wq_iload_n dX12_count_40 2 rfl rfl ?_
      refine wq_iload_n dX12_count_41 3 rfl rfl ?_
      refine wq_cVi M_PT_pairOf (R_PT_pairOf Z a1 a2 _) ob_4 rfl rfl (by decide) (by decide) (Nat.le_of_ble_eq_true rfl) ln_RX12_246 dX12_count_42 (fun gr12 x14 J13 => ?_)
      refine wq_cVi M_PT_countOf (R_PT_countOf Z x14 _) ob_4 rfl rfl (by decide) (by decide) (Nat.le_of_ble_eq_true rfl) ln_RX12_250 dX12_count_45 (fun gr15 x17 J16 => ?_)
      exact wq_iret rfl rfl dX12_count_48

theorem M_PT_bestPair : MwV yX3_bestPair cX3_bestPair 1 (some .int) 0 := ⟨li_4 109 (by decide +kernel) (by decide +kernel), li_4 107 (by decide +kernel) (by decide +kernel), li_4 108 (by decide +kernel) (by decide +kernel), li_1 5 (by decide +kernel) (by decide +kernel), by decide +kernel⟩
theorem ln_RX12_253 : Cond.methodLink RX12 253 yX3_bestPair ∈ lw_good := li_6 121 (by decide +kernel) (by decide +kernel)
theorem ln_RX12_256 : Cond.methodLink RX12 256 yX3_firstOf ∈ lw_good := li_6 122 (by decide +kernel) (by decide +kernel)
theorem ln_RX12_259 : Cond.methodLink RX12 259 yX3_secondOf ∈ lw_good := li_6 123 (by decide +kernel) (by decide +kernel)
theorem ln_RX12_262 : Cond.methodLink RX12 262 yX3_keptOf ∈ lw_good := li_4 202 (by decide +kernel) (by decide +kernel)
theorem M_PT_manyAsCommonAsBest : MwV yX3_manyAsCommonAsBest cX3_manyAsCommonAsBest 1 (some .int) 0 := ⟨li_6 127 (by decide +kernel) (by decide +kernel), li_6 125 (by decide +kernel) (by decide +kernel), li_6 126 (by decide +kernel) (by decide +kernel), li_1 5 (by decide +kernel) (by decide +kernel), by decide +kernel⟩
theorem ln_RX12_265 : Cond.methodLink RX12 265 yX3_manyAsCommonAsBest ∈ lw_good := li_6 124 (by decide +kernel) (by decide +kernel)
noncomputable def f_PR_best (a1 : Int) (I : Mem) : Option ((Int ⊕ String) × Mem) :=
if (w32 a1) < 0 then
ltI (thrw I) fun J1 =>
some (.inr xIA, J1)
else
if 4 < (w32 a1) then
ltI (thrw I) fun J22 =>
some (.inr xIA, J22)
else
bnd (f_PT_readFrom 0 I) fun _ J4 =>
if (w32 (J4 4 0 7)) = (-1) then
if (w32 a1) = 4 then
some (.inl 0, J4)
else
some (.inl (-1), J4)
else
if (w32 a1) = 0 then
some (.inl (idv (J4 4 0 7) 66), J4)
else if (w32 a1) = 1 then
some (.inl (irm (J4 4 0 7) 66), J4)
else if (w32 a1) = 2 then
bnd (f_PT_countOf (J4 4 0 7) J4) fun x13 J12 =>
some (.inl x13, J12)
else if (w32 a1) = 3 then
bnd (f_PT_keptOf (J4 4 0 7) J4) fun x17 J16 =>
some (.inl x17, J16)
else some (.inl (J4 4 0 9), J4)
set_option maxRecDepth 20000 in
theorem R_PR_best (Z : ZT) (a1 : Int) (I : Mem) : RX Z yX12_best cX12_best 4 (some .int) 6 [vr Z 0 0, vi a1] I (fun x => some (vi x)) (f_PR_best a1 I) := by
  refine RX.of (by decide +kernel) (Nat.le_of_ble_eq_true rfl) (fun gr => ?_)
  unfold f_PR_best
  refine WQ.loc [0, 1] (lv' := [(0, vr Z 0 0), (1, vi a1)]) rfl ?_
  refine wq_iload_n dX12_best_0 1 rfl rfl ?_
  refine wq_if_lt 9 dX12_best_1 (by decide) rfl (fun c24 => ?_) (fun c24 => ?_)
  · exact wq_throw thr_IA (Nat.le_of_ble_eq_true rfl) (by decide +kernel) rfl dX12_best_9 dX12_best_12 dX12_best_13 dX12_best_16
  · refine wq_iload_n dX12_best_4 1 rfl rfl ?_
    refine wq_iconst dX12_best_5 ?_
    refine wq_icmp_le 17 dX12_best_6 (by decide) rfl rfl (fun c23 => ?_) (fun c23 => ?_)
    · exact wq_throw thr_IA (Nat.le_of_ble_eq_true rfl) (by decide +kernel) rfl dX12_best_9 dX12_best_12 dX12_best_13 dX12_best_16
    · refine wq_aload_n dX12_best_17 0 rfl rfl ?_
      refine g_0_2 ln_RX12_22 dX12_best_18 ?_
      refine wq_pV (v := vr Z 4 0) M_Stp_pairs (R_Stp_pairs Z  _ _ _ rfl) ob_3 rfl rfl (by decide) (by decide) (Nat.le_of_ble_eq_true rfl) ln_RX12_167 dX12_best_21 (fun gr2 => ?_)
      refine wq_astore_n (lv' := [(2, vr Z 4 0), (0, vr Z 0 0), (1, vi a1)]) dX12_best_24 rfl (by decide) rfl ?_
      refine wq_aload_n dX12_best_25 0 rfl rfl ?_
      refine wq_aload_n dX12_best_26 1 rfl rfl ?_
      refine g_0_0 ln_RX12_12 dX12_best_27 ?_
      refine wq_cVv M_PT_readFrom (R_PT_readFrom Z 0 _) ob_4 rfl rfl (by decide) (by decide) (Nat.le_of_ble_eq_true rfl) ln_RX12_171 dX12_best_30 (fun gr3 _ J4 => ?_)
      refine wq_aload_n dX12_best_33 0 rfl rfl ?_
      refine wq_pV (v := vi (J4 4 0 7)) M_PT_bestPair (R_PT_bestPair Z  _ _ _ rfl) ob_4 rfl rfl (by decide) (by decide) (Nat.le_of_ble_eq_true rfl) ln_RX12_253 dX12_best_34 (fun gr6 => ?_)
      refine wq_istore_n (lv' := [(3, vi (J4 4 0 7)), (2, vr Z 4 0), (0, vr Z 0 0), (1, vi a1)]) dX12_best_37 rfl (by decide) rfl ?_
      refine wq_iload_n dX12_best_38 0 rfl rfl ?_
      refine wq_iconst dX12_best_39 ?_
      refine wq_icmp_ne 54 dX12_best_40 (by decide) rfl rfl (fun c21 => ?_) (fun c21 => ?_)
      · refine wq_iload_n dX12_best_43 3 rfl rfl ?_
        refine wq_iconst dX12_best_44 ?_
        refine wq_icmp_ne 52 dX12_best_45 (by decide) rfl rfl (fun c20 => ?_) (fun c20 => ?_)
        · refine wq_iconst dX12_best_48 ?_
          refine wq_goto 53 dX12_best_49 (by decide) ?_
          exact wq_iret rfl rfl dX12_best_53
        · refine wq_iconst dX12_best_52 ?_
          exact wq_iret rfl rfl dX12_best_53
      · refine wq_iload_n dX12_best_54 3 rfl rfl ?_
        refine WQ.split (fun c8 => ?_) (fun c8 => ?_)
        · refine wq_tin (n := 0) 84 dX12_best_55 rfl c8 (by decide) (by decide) rfl (by decide) ?_
          refine wq_aload_n dX12_best_84 1 rfl rfl ?_
          refine wq_iload_n dX12_best_85 0 rfl rfl ?_
          refine wq_pV (v := vi (idv (J4 4 0 7) 66)) M_PT_firstOf (R_PT_firstOf Z (J4 4 0 7) _ _ _ rfl) ob_4 rfl rfl (by decide) (by decide) (Nat.le_of_ble_eq_true rfl) ln_RX12_256 dX12_best_86 (fun gr7 => ?_)
          exact wq_iret rfl rfl dX12_best_89
        · skip
          refine WQ.split (fun c10 => ?_) (fun c10 => ?_)
          · refine wq_tin (n := 1) 90 dX12_best_55 rfl c10 (by decide) (by decide) rfl (by decide) ?_
            refine wq_aload_n dX12_best_90 1 rfl rfl ?_
            refine wq_iload_n dX12_best_91 0 rfl rfl ?_
            refine wq_pV (v := vi (irm (J4 4 0 7) 66)) M_PT_secondOf (R_PT_secondOf Z (J4 4 0 7) _ _ _ rfl) ob_4 rfl rfl (by decide) (by decide) (Nat.le_of_ble_eq_true rfl) ln_RX12_259 dX12_best_92 (fun gr9 => ?_)
            exact wq_iret rfl rfl dX12_best_95
          · skip
            refine WQ.split (fun c14 => ?_) (fun c14 => ?_)
            · refine wq_tin (n := 2) 96 dX12_best_55 rfl c14 (by decide) (by decide) rfl (by decide) ?_
              refine wq_aload_n dX12_best_96 1 rfl rfl ?_
              refine wq_iload_n dX12_best_97 0 rfl rfl ?_
              refine wq_cVi M_PT_countOf (R_PT_countOf Z (J4 4 0 7) _) ob_4 rfl rfl (by decide) (by decide) (Nat.le_of_ble_eq_true rfl) ln_RX12_250 dX12_best_98 (fun gr11 x13 J12 => ?_)
              exact wq_iret rfl rfl dX12_best_101
            · skip
              refine WQ.split (fun c18 => ?_) (fun c18 => ?_)
              · refine wq_tin (n := 3) 102 dX12_best_55 rfl c18 (by decide) (by decide) rfl (by decide) ?_
                refine wq_aload_n dX12_best_102 1 rfl rfl ?_
                refine wq_iload_n dX12_best_103 0 rfl rfl ?_
                refine wq_cVi M_PT_keptOf (R_PT_keptOf Z (J4 4 0 7) _) ob_4 rfl rfl (by decide) (by decide) (Nat.le_of_ble_eq_true rfl) ln_RX12_262 dX12_best_104 (fun gr15 x17 J16 => ?_)
                exact wq_iret rfl rfl dX12_best_107
              · skip
                refine wq_tout 108 dX12_best_55 rfl (by omega) (by decide) ?_
                refine wq_aload_n dX12_best_108 1 rfl rfl ?_
                refine wq_pV (v := vi (J4 4 0 9)) M_PT_manyAsCommonAsBest (R_PT_manyAsCommonAsBest Z  _ _ _ rfl) ob_4 rfl rfl (by decide) (by decide) (Nat.le_of_ble_eq_true rfl) ln_RX12_265 dX12_best_109 (fun gr19 => ?_)
                exact wq_iret rfl rfl dX12_best_112

theorem ln_RX12_268 : Cond.methodLink RX12 268 yX3_isWorth ∈ lw_good := li_6 135 (by decide +kernel) (by decide +kernel)
noncomputable def f_PR_why (a1 : Int) (a2 : Int) (I : Mem) : Option ((Int ⊕ String) × Mem) :=
bnd (f_PR_isSymbol a1 I) fun x3 J2 =>
if (w32 x3) = 0 then
ltI (thrw J2) fun J4 =>
some (.inr xIA, J4)
else
bnd (f_PR_isSymbol a2 J2) fun x7 J6 =>
if (w32 x7) = 0 then
ltI (thrw J6) fun J39 =>
some (.inr xIA, J39)
else
bnd (f_PT_readFrom 0 J6) fun _ J10 =>
bnd (f_PT_pairOf a1 a2 J10) fun x14 J13 =>
bnd (f_PT_countOf x14 J13) fun x17 J16 =>
if (w32 x17) = 0 then
some (.inl 1, J16)
else
bnd (f_PT_isWorth x14 J16) fun x20 J19 =>
if (w32 x20) = 0 then
bnd (f_PT_countOf x14 J19) fun x32 J31 =>
bnd (f_G_number 0 4 J31) fun x35 J34 =>
if (w32 x32) < (w32 x35) then
some (.inl 2, J34)
else
some (.inl 3, J34)
else
bnd (f_PT_countOf (J19 4 0 7) J19) fun x24 J23 =>
bnd (f_PT_countOf x14 J23) fun x27 J26 =>
if (w32 x27) < (w32 x24) then
some (.inl 4, J26)
else
if (w32 (J19 4 0 7)) = (w32 x14) then
some (.inl 0, J26)
else
some (.inl 5, J26)
set_option maxRecDepth 20000 in
theorem R_PR_why (Z : ZT) (a1 : Int) (a2 : Int) (I : Mem) : RX Z yX12_why cX12_why 6 (some .int) 6 [vr Z 0 0, vi a1, vi a2] I (fun x => some (vi x)) (f_PR_why a1 a2 I) := by
  refine RX.of (by decide +kernel) (Nat.le_of_ble_eq_true rfl) (fun gr => ?_)
  unfold f_PR_why
  refine WQ.loc [0, 1, 2] (lv' := [(0, vr Z 0 0), (1, vi a1), (2, vi a2)]) rfl ?_
  refine wq_iload_n dX12_why_0 1 rfl rfl ?_
  refine wq_cSi M_PR_isSymbol (R_PR_isSymbol Z a1 _) rfl rfl rfl (by decide) (by decide) (Nat.le_of_ble_eq_true rfl) ln_RX12_243 dX12_why_1 (fun gr1 x3 J2 => ?_)
  refine wq_if_eq 14 dX12_why_4 (by decide) rfl (fun c41 => ?_) (fun c41 => ?_)
  · exact wq_throw thr_IA (Nat.le_of_ble_eq_true rfl) (by decide +kernel) rfl dX12_why_14 dX12_why_17 dX12_why_18 dX12_why_21
  · refine wq_iload_n dX12_why_7 2 rfl rfl ?_
    refine wq_cSi M_PR_isSymbol (R_PR_isSymbol Z a2 _) rfl rfl rfl (by decide) (by decide) (Nat.le_of_ble_eq_true rfl) ln_RX12_243 dX12_why_8 (fun gr5 x7 J6 => ?_)
    refine wq_if_ne 22 dX12_why_11 (by decide) rfl (fun c40 => ?_) (fun c40 => ?_)
    · exact wq_throw thr_IA (Nat.le_of_ble_eq_true rfl) (by decide +kernel) rfl dX12_why_14 dX12_why_17 dX12_why_18 dX12_why_21
    · refine wq_aload_n dX12_why_22 0 rfl rfl ?_
      refine g_0_2 ln_RX12_22 dX12_why_23 ?_
      refine wq_pV (v := vr Z 4 0) M_Stp_pairs (R_Stp_pairs Z  _ _ _ rfl) ob_3 rfl rfl (by decide) (by decide) (Nat.le_of_ble_eq_true rfl) ln_RX12_167 dX12_why_26 (fun gr8 => ?_)
      refine wq_astore_n (lv' := [(3, vr Z 4 0), (0, vr Z 0 0), (1, vi a1), (2, vi a2)]) dX12_why_29 rfl (by decide) rfl ?_
      refine wq_aload_n dX12_why_30 0 rfl rfl ?_
      refine wq_aload_n dX12_why_31 1 rfl rfl ?_
      refine g_0_0 ln_RX12_12 dX12_why_32 ?_
      refine wq_cVv M_PT_readFrom (R_PT_readFrom Z 0 _) ob_4 rfl rfl (by decide) (by decide) (Nat.le_of_ble_eq_true rfl) ln_RX12_171 dX12_why_35 (fun gr9 _ J10 => ?_)
      refine wq_aload_n dX12_why_38 0 rfl rfl ?_
      refine wq_iload_n dX12_why_39 2 rfl rfl ?_
      refine wq_iload_n dX12_why_40 3 rfl rfl ?_
      refine wq_cVi M_PT_pairOf (R_PT_pairOf Z a1 a2 _) ob_4 rfl rfl (by decide) (by decide) (Nat.le_of_ble_eq_true rfl) ln_RX12_246 dX12_why_41 (fun gr12 x14 J13 => ?_)
      refine wq_istore (lv' := [(4, vi x14), (3, vr Z 4 0), (0, vr Z 0 0), (1, vi a1), (2, vi a2)]) dX12_why_44 (by decide) rfl ?_
      refine wq_aload_n dX12_why_46 1 rfl rfl ?_
      refine wq_iload dX12_why_47 0 rfl ?_
      refine wq_cVi M_PT_countOf (R_PT_countOf Z x14 _) ob_4 rfl rfl (by decide) (by decide) (Nat.le_of_ble_eq_true rfl) ln_RX12_250 dX12_why_49 (fun gr15 x17 J16 => ?_)
      refine wq_if_ne 57 dX12_why_52 (by decide) rfl (fun c38 => ?_) (fun c38 => ?_)
      · refine wq_iconst dX12_why_55 ?_
        exact wq_iret rfl rfl dX12_why_56
      · refine wq_aload_n dX12_why_57 1 rfl rfl ?_
        refine wq_iload dX12_why_58 0 rfl ?_
        refine wq_cVi M_PT_isWorth (R_PT_isWorth Z x14 _) ob_4 rfl rfl (by decide) (by decide) (Nat.le_of_ble_eq_true rfl) ln_RX12_268 dX12_why_60 (fun gr18 x20 J19 => ?_)
        refine wq_if_ne 89 dX12_why_63 (by decide) rfl (fun c37 => ?_) (fun c37 => ?_)
        · refine wq_aload_n dX12_why_66 1 rfl rfl ?_
          refine wq_iload dX12_why_67 0 rfl ?_
          refine wq_cVi M_PT_countOf (R_PT_countOf Z x14 _) ob_4 rfl rfl (by decide) (by decide) (Nat.le_of_ble_eq_true rfl) ln_RX12_250 dX12_why_69 (fun gr30 x32 J31 => ?_)
          refine wq_aload_n dX12_why_72 2 rfl rfl ?_
          refine g_0_0 ln_RX12_12 dX12_why_73 ?_
          refine wq_iconst dX12_why_76 ?_
          refine wq_cVi M_G_number (R_G_number Z 0 4 _) (ob_1 (by decide)) rfl rfl (by decide) (by decide) (Nat.le_of_ble_eq_true rfl) ln_RX12_151 dX12_why_77 (fun gr33 x35 J34 => ?_)
          refine wq_icmp_ge 87 dX12_why_80 (by decide) rfl rfl (fun c36 => ?_) (fun c36 => ?_)
          · refine wq_iconst dX12_why_83 ?_
            refine wq_goto 88 dX12_why_84 (by decide) ?_
            exact wq_iret rfl rfl dX12_why_88
          · refine wq_iconst dX12_why_87 ?_
            exact wq_iret rfl rfl dX12_why_88
        · refine wq_aload_n dX12_why_89 1 rfl rfl ?_
          refine wq_pV (v := vi (J19 4 0 7)) M_PT_bestPair (R_PT_bestPair Z  _ _ _ rfl) ob_4 rfl rfl (by decide) (by decide) (Nat.le_of_ble_eq_true rfl) ln_RX12_253 dX12_why_90 (fun gr21 => ?_)
          refine wq_istore (lv' := [(5, vi (J19 4 0 7)), (4, vi x14), (3, vr Z 4 0), (0, vr Z 0 0), (1, vi a1), (2, vi a2)]) dX12_why_93 (by decide) rfl ?_
          refine wq_aload_n dX12_why_95 2 rfl rfl ?_
          refine wq_iload dX12_why_96 0 rfl ?_
          refine wq_cVi M_PT_countOf (R_PT_countOf Z (J19 4 0 7) _) ob_4 rfl rfl (by decide) (by decide) (Nat.le_of_ble_eq_true rfl) ln_RX12_250 dX12_why_98 (fun gr22 x24 J23 => ?_)
          refine wq_aload_n dX12_why_101 2 rfl rfl ?_
          refine wq_iload dX12_why_102 1 rfl ?_
          refine wq_cVi M_PT_countOf (R_PT_countOf Z x14 _) ob_4 rfl rfl (by decide) (by decide) (Nat.le_of_ble_eq_true rfl) ln_RX12_250 dX12_why_104 (fun gr25 x27 J26 => ?_)
          refine wq_icmp_le 112 dX12_why_107 (by decide) rfl rfl (fun c29 => ?_) (fun c29 => ?_)
          · refine wq_iconst dX12_why_110 ?_
            exact wq_iret rfl rfl dX12_why_111
          · refine wq_iload dX12_why_112 0 rfl ?_
            refine wq_iload dX12_why_114 1 rfl ?_
            refine wq_icmp_ne 123 dX12_why_116 (by decide) rfl rfl (fun c28 => ?_) (fun c28 => ?_)
            · refine wq_iconst dX12_why_119 ?_
              refine wq_goto 124 dX12_why_120 (by decide) ?_
              exact wq_iret rfl rfl dX12_why_124
            · refine wq_iconst dX12_why_123 ?_
              exact wq_iret rfl rfl dX12_why_124

noncomputable def f_PR_gain (a1 : Int) (a2 : Int) (I : Mem) : Option ((Int ⊕ String) × Mem) :=
bnd (f_PR_isSymbol a1 I) fun x3 J2 =>
if (w32 x3) = 0 then
ltI (thrw J2) fun J4 =>
some (.inr xIA, J4)
else
bnd (f_PR_isSymbol a2 J2) fun x7 J6 =>
if (w32 x7) = 0 then
ltI (thrw J6) fun J23 =>
some (.inr xIA, J23)
else
bnd (f_PT_readFrom 0 J6) fun _ J10 =>
bnd (f_PT_pairOf a1 a2 J10) fun x14 J13 =>
bnd (f_PT_countOf x14 J13) fun x17 J16 =>
if (w32 x17) = 0 then
some (.inl x17, J16)
else
bnd (f_PT_keptOf x14 J16) fun x20 J19 =>
if (w32 x20) = (-1) then
some (.inl (x17 - 2), J19)
else
some (.inl x17, J19)
set_option maxRecDepth 20000 in
theorem R_PR_gain (Z : ZT) (a1 : Int) (a2 : Int) (I : Mem) : RX Z yX12_gain cX12_gain 6 (some .int) 6 [vr Z 0 0, vi a1, vi a2] I (fun x => some (vi x)) (f_PR_gain a1 a2 I) := by
  refine RX.of (by decide +kernel) (Nat.le_of_ble_eq_true rfl) (fun gr => ?_)
  unfold f_PR_gain
  refine WQ.loc [0, 1, 2] (lv' := [(0, vr Z 0 0), (1, vi a1), (2, vi a2)]) rfl ?_
  refine wq_iload_n dX12_gain_0 1 rfl rfl ?_
  refine wq_cSi M_PR_isSymbol (R_PR_isSymbol Z a1 _) rfl rfl rfl (by decide) (by decide) (Nat.le_of_ble_eq_true rfl) ln_RX12_243 dX12_gain_1 (fun gr1 x3 J2 => ?_)
  refine wq_if_eq 14 dX12_gain_4 (by decide) rfl (fun c25 => ?_) (fun c25 => ?_)
  · exact wq_throw thr_IA (Nat.le_of_ble_eq_true rfl) (by decide +kernel) rfl dX12_gain_14 dX12_gain_17 dX12_gain_18 dX12_gain_21
  · refine wq_iload_n dX12_gain_7 2 rfl rfl ?_
    refine wq_cSi M_PR_isSymbol (R_PR_isSymbol Z a2 _) rfl rfl rfl (by decide) (by decide) (Nat.le_of_ble_eq_true rfl) ln_RX12_243 dX12_gain_8 (fun gr5 x7 J6 => ?_)
    refine wq_if_ne 22 dX12_gain_11 (by decide) rfl (fun c24 => ?_) (fun c24 => ?_)
    · exact wq_throw thr_IA (Nat.le_of_ble_eq_true rfl) (by decide +kernel) rfl dX12_gain_14 dX12_gain_17 dX12_gain_18 dX12_gain_21
    · refine wq_aload_n dX12_gain_22 0 rfl rfl ?_
      refine g_0_2 ln_RX12_22 dX12_gain_23 ?_
      refine wq_pV (v := vr Z 4 0) M_Stp_pairs (R_Stp_pairs Z  _ _ _ rfl) ob_3 rfl rfl (by decide) (by decide) (Nat.le_of_ble_eq_true rfl) ln_RX12_167 dX12_gain_26 (fun gr8 => ?_)
      refine wq_astore_n (lv' := [(3, vr Z 4 0), (0, vr Z 0 0), (1, vi a1), (2, vi a2)]) dX12_gain_29 rfl (by decide) rfl ?_
      refine wq_aload_n dX12_gain_30 0 rfl rfl ?_
      refine wq_aload_n dX12_gain_31 1 rfl rfl ?_
      refine g_0_0 ln_RX12_12 dX12_gain_32 ?_
      refine wq_cVv M_PT_readFrom (R_PT_readFrom Z 0 _) ob_4 rfl rfl (by decide) (by decide) (Nat.le_of_ble_eq_true rfl) ln_RX12_171 dX12_gain_35 (fun gr9 _ J10 => ?_)
      refine wq_aload_n dX12_gain_38 0 rfl rfl ?_
      refine wq_iload_n dX12_gain_39 2 rfl rfl ?_
      refine wq_iload_n dX12_gain_40 3 rfl rfl ?_
      refine wq_cVi M_PT_pairOf (R_PT_pairOf Z a1 a2 _) ob_4 rfl rfl (by decide) (by decide) (Nat.le_of_ble_eq_true rfl) ln_RX12_246 dX12_gain_41 (fun gr12 x14 J13 => ?_)
      refine wq_istore (lv' := [(4, vi x14), (3, vr Z 4 0), (0, vr Z 0 0), (1, vi a1), (2, vi a2)]) dX12_gain_44 (by decide) rfl ?_
      refine wq_aload_n dX12_gain_46 1 rfl rfl ?_
      refine wq_iload dX12_gain_47 0 rfl ?_
      refine wq_cVi M_PT_countOf (R_PT_countOf Z x14 _) ob_4 rfl rfl (by decide) (by decide) (Nat.le_of_ble_eq_true rfl) ln_RX12_250 dX12_gain_49 (fun gr15 x17 J16 => ?_)
      refine wq_istore (lv' := [(5, vi x17), (4, vi x14), (3, vr Z 4 0), (0, vr Z 0 0), (1, vi a1), (2, vi a2)]) dX12_gain_52 (by decide) rfl ?_
      refine wq_iload dX12_gain_54 0 rfl ?_
      refine wq_if_eq 69 dX12_gain_56 (by decide) rfl (fun c22 => ?_) (fun c22 => ?_)
      · refine wq_iload dX12_gain_69 0 rfl ?_
        refine wq_goto 78 dX12_gain_71 (by decide) ?_
        exact wq_iret rfl rfl dX12_gain_78
      · refine wq_aload_n dX12_gain_59 2 rfl rfl ?_
        refine wq_iload dX12_gain_60 1 rfl ?_
        refine wq_cVi M_PT_keptOf (R_PT_keptOf Z x14 _) ob_4 rfl rfl (by decide) (by decide) (Nat.le_of_ble_eq_true rfl) ln_RX12_262 dX12_gain_62 (fun gr18 x20 J19 => ?_)
        refine wq_iconst dX12_gain_65 ?_
        refine wq_icmp_eq 74 dX12_gain_66 (by decide) rfl rfl (fun c21 => ?_) (fun c21 => ?_)
        · refine wq_iload dX12_gain_74 0 rfl ?_
          refine wq_iconst dX12_gain_76 ?_
          refine wq_isub dX12_gain_77 ?_
          exact wq_iret rfl rfl dX12_gain_78
        · refine wq_iload dX12_gain_69 0 rfl ?_
          refine wq_goto 78 dX12_gain_71 (by decide) ?_
          exact wq_iret rfl rfl dX12_gain_78

theorem ln_RX12_16 : Cond.fieldLink RX12 16 RX12 "trial" "LPairRules$Grammar;" ∈ lw_good := li_2 101 (by decide +kernel) (by decide +kernel)
theorem M_Stp_inlineAll : MwV yX9_inlineAll cX9_inlineAll 4 (some .int) 1 := ⟨li_4 138 (by decide +kernel) (by decide +kernel), li_4 136 (by decide +kernel) (by decide +kernel), li_4 137 (by decide +kernel) (by decide +kernel), li_1 4 (by decide +kernel) (by decide +kernel), by decide +kernel⟩
theorem ln_RX12_279 : Cond.methodLink RX12 279 yX9_inlineAll ∈ lw_good := li_4 173 (by decide +kernel) (by decide +kernel)
theorem ln_RX12_113 : Cond.methodLink RX12 113 yX1_takeFrom ∈ lw_good := li_3 156 (by decide +kernel) (by decide +kernel)
noncomputable def f_PR_inlinable  (I : Mem) : Option ((Int) × Mem) :=
bnd (f_G_takeFrom 1 0 I) fun _ J2 =>
bnd (f_Stp_inlineAll 1 J2) fun x6 J5 =>
some (x6, J5)
set_option maxRecDepth 20000 in
theorem R_PR_inlinable (Z : ZT)  (I : Mem) (r : Int) (J : Mem) (hf : f_PR_inlinable I = some (r, J)) : Runs Z yX12_inlinable cX12_inlinable 1 (some .int) 5 [vr Z 0 0] I (some (vi r), J) := by
  refine Runs.of (rv := fun x => some (vi x)) (by decide +kernel) (Nat.le_of_ble_eq_true rfl) hf (fun gr => ?_)
  unfold f_PR_inlinable
  refine WQ.loc [0] (lv' := [(0, vr Z 0 0)]) rfl ?_
  refine wq_aload_n dX12_inlinable_0 0 rfl rfl ?_
  refine g_0_1 ln_RX12_16 dX12_inlinable_1 ?_
  refine wq_aload_n dX12_inlinable_4 0 rfl rfl ?_
  refine g_0_0 ln_RX12_12 dX12_inlinable_5 ?_
  refine wq_cVv M_G_takeFrom (R_G_takeFrom Z 1 0 _) (ob_1 (by decide)) rfl rfl (by decide) (by decide) (Nat.le_of_ble_eq_true rfl) ln_RX12_113 dX12_inlinable_8 (fun gr1 _ J2 => ?_)
  refine wq_aload_n dX12_inlinable_11 0 rfl rfl ?_
  refine g_0_2 ln_RX12_22 dX12_inlinable_12 ?_
  refine wq_aload_n dX12_inlinable_15 0 rfl rfl ?_
  refine g_0_1 ln_RX12_16 dX12_inlinable_16 ?_
  refine wq_cVi M_Stp_inlineAll (R_Stp_inlineAll Z 1 _) ob_3 rfl rfl (by decide) (by decide) (Nat.le_of_ble_eq_true rfl) ln_RX12_279 dX12_inlinable_19 (fun gr4 x6 J5 => ?_)
  exact wq_iret rfl rfl dX12_inlinable_22

theorem M_His_remember : MwV yX2_remember cX2_remember 2 (none) 1 := ⟨li_3 234 (by decide +kernel) (by decide +kernel), li_3 232 (by decide +kernel) (by decide +kernel), li_3 233 (by decide +kernel) (by decide +kernel), li_1 12 (by decide +kernel) (by decide +kernel), by decide +kernel⟩
theorem ln_RX12_126 : Cond.methodLink RX12 126 yX2_remember ∈ lw_good := li_3 231 (by decide +kernel) (by decide +kernel)
noncomputable def f_PR_inline  (I : Mem) : Option ((Int) × Mem) :=
bnd (f_His_remember 0 I) fun _ J2 =>
bnd (f_Stp_inlineAll 0 J2) fun x6 J5 =>
some (x6, J5)
set_option maxRecDepth 20000 in
theorem R_PR_inline (Z : ZT)  (I : Mem) (r : Int) (J : Mem) (hf : f_PR_inline I = some (r, J)) : Runs Z yX12_inline cX12_inline 1 (some .int) 6 [vr Z 0 0] I (some (vi r), J) := by
  refine Runs.of (rv := fun x => some (vi x)) (by decide +kernel) (Nat.le_of_ble_eq_true rfl) hf (fun gr => ?_)
  unfold f_PR_inline
  refine WQ.loc [0] (lv' := [(0, vr Z 0 0)]) rfl ?_
  refine wq_aload_n dX12_inline_0 0 rfl rfl ?_
  refine g_0_7 ln_RX12_61 dX12_inline_1 ?_
  refine wq_aload_n dX12_inline_4 0 rfl rfl ?_
  refine g_0_0 ln_RX12_12 dX12_inline_5 ?_
  refine wq_cVv M_His_remember (R_His_remember Z 0 _) ob_9 rfl rfl (by decide) (by decide) (Nat.le_of_ble_eq_true rfl) ln_RX12_126 dX12_inline_8 (fun gr1 _ J2 => ?_)
  refine wq_aload_n dX12_inline_11 0 rfl rfl ?_
  refine g_0_2 ln_RX12_22 dX12_inline_12 ?_
  refine wq_aload_n dX12_inline_15 0 rfl rfl ?_
  refine g_0_0 ln_RX12_12 dX12_inline_16 ?_
  refine wq_cVi M_Stp_inlineAll (R_Stp_inlineAll Z 0 _) ob_3 rfl rfl (by decide) (by decide) (Nat.le_of_ble_eq_true rfl) ln_RX12_279 dX12_inline_19 (fun gr4 x6 J5 => ?_)
  exact wq_iret rfl rfl dX12_inline_22

theorem ln_RX12_289 : Cond.methodLink RX12 289 yX1_dissolve ∈ lw_good := li_4 210 (by decide +kernel) (by decide +kernel)
noncomputable def f_PR_expand (a1 : Int) (I : Mem) : Option ((Int ⊕ String) × Mem) :=
if (w32 a1) < 0 then
ltI (thrw I) fun J1 =>
some (.inr xIO, J1)
else
if (w32 a1) < 40 then
bnd (f_G_hasRule 0 a1 I) fun x4 J3 =>
if (w32 x4) = 0 then
some (.inl (-4), J3)
else
bnd (f_His_remember 0 J3) fun _ J6 =>
bnd (f_G_dissolve 0 a1 4 J6) fun x10 J9 =>
some (.inl x10, J9)
else
ltI (thrw I) fun J12 =>
some (.inr xIO, J12)
set_option maxRecDepth 20000 in
theorem R_PR_expand (Z : ZT) (a1 : Int) (I : Mem) : RX Z yX12_expand cX12_expand 2 (some .int) 6 [vr Z 0 0, vi a1] I (fun x => some (vi x)) (f_PR_expand a1 I) := by
  refine RX.of (by decide +kernel) (Nat.le_of_ble_eq_true rfl) (fun gr => ?_)
  unfold f_PR_expand
  refine WQ.loc [0, 1] (lv' := [(0, vr Z 0 0), (1, vi a1)]) rfl ?_
  refine wq_iload_n dX12_expand_0 1 rfl rfl ?_
  refine wq_if_lt 10 dX12_expand_1 (by decide) rfl (fun c14 => ?_) (fun c14 => ?_)
  · exact wq_throw thr_IO (Nat.le_of_ble_eq_true rfl) (by decide +kernel) rfl dX12_expand_10 dX12_expand_13 dX12_expand_14 dX12_expand_17
  · refine wq_iload_n dX12_expand_4 1 rfl rfl ?_
    refine wq_bipush dX12_expand_5 (by decide) ?_
    refine wq_icmp_lt 18 dX12_expand_7 (by decide) rfl rfl (fun c13 => ?_) (fun c13 => ?_)
    · refine wq_aload_n dX12_expand_18 0 rfl rfl ?_
      refine g_0_0 ln_RX12_12 dX12_expand_19 ?_
      refine wq_iload_n dX12_expand_22 1 rfl rfl ?_
      refine wq_cVi M_G_hasRule (R_G_hasRule Z 0 a1 _) (ob_1 (by decide)) rfl rfl (by decide) (by decide) (Nat.le_of_ble_eq_true rfl) ln_RX12_188 dX12_expand_23 (fun gr2 x4 J3 => ?_)
      refine wq_if_ne 32 dX12_expand_26 (by decide) rfl (fun c11 => ?_) (fun c11 => ?_)
      · refine wq_bipush dX12_expand_29 (by decide) ?_
        exact wq_iret rfl rfl dX12_expand_31
      · refine wq_aload_n dX12_expand_32 0 rfl rfl ?_
        refine g_0_7 ln_RX12_61 dX12_expand_33 ?_
        refine wq_aload_n dX12_expand_36 0 rfl rfl ?_
        refine g_0_0 ln_RX12_12 dX12_expand_37 ?_
        refine wq_cVv M_His_remember (R_His_remember Z 0 _) ob_9 rfl rfl (by decide) (by decide) (Nat.le_of_ble_eq_true rfl) ln_RX12_126 dX12_expand_40 (fun gr5 _ J6 => ?_)
        refine wq_aload_n dX12_expand_43 0 rfl rfl ?_
        refine g_0_0 ln_RX12_12 dX12_expand_44 ?_
        refine wq_iload_n dX12_expand_47 1 rfl rfl ?_
        refine wq_iconst dX12_expand_48 ?_
        refine wq_cVi M_G_dissolve (R_G_dissolve Z 0 a1 4 _) (ob_1 (by decide)) rfl rfl (by decide) (by decide) (Nat.le_of_ble_eq_true rfl) ln_RX12_289 dX12_expand_49 (fun gr8 x10 J9 => ?_)
        exact wq_iret rfl rfl dX12_expand_52
    · exact wq_throw thr_IO (Nat.le_of_ble_eq_true rfl) (by decide +kernel) rfl dX12_expand_10 dX12_expand_13 dX12_expand_14 dX12_expand_17

theorem M_G_addLetter : MwV yX1_addLetter cX1_addLetter 2 (none) 1 := ⟨li_4 222 (by decide +kernel) (by decide +kernel), li_4 220 (by decide +kernel) (by decide +kernel), li_4 221 (by decide +kernel) (by decide +kernel), li_1 2 (by decide +kernel) (by decide +kernel), by decide +kernel⟩
theorem ln_RX12_292 : Cond.methodLink RX12 292 yX1_addLetter ∈ lw_good := li_4 219 (by decide +kernel) (by decide +kernel)
noncomputable def f_PR_append (a1 : Int) (I : Mem) : Option ((Int ⊕ String) × Mem) :=
bnd (f_PR_isLetter a1 I) fun x3 J2 =>
if (w32 x3) = 0 then
ltI (thrw J2) fun J17 =>
some (.inr xIA, J17)
else
bnd (f_G_textLength 0 J2) fun x6 J5 =>
if (w32 x6) < 400 then
bnd (f_His_remember 0 J5) fun _ J8 =>
bnd (f_G_addLetter 0 a1 J8) fun _ J11 =>
bnd (f_G_textLength 0 J11) fun x15 J14 =>
some (.inl x15, J14)
else
some (.inl (-5), J5)
set_option maxRecDepth 20000 in
theorem R_PR_append (Z : ZT) (a1 : Int) (I : Mem) : RX Z yX12_append cX12_append 2 (some .int) 6 [vr Z 0 0, vi a1] I (fun x => some (vi x)) (f_PR_append a1 I) := by
  refine RX.of (by decide +kernel) (Nat.le_of_ble_eq_true rfl) (fun gr => ?_)
  unfold f_PR_append
  refine WQ.loc [0, 1] (lv' := [(0, vr Z 0 0), (1, vi a1)]) rfl ?_
  refine wq_iload_n dX12_append_0 1 rfl rfl ?_
  refine wq_cSi M_PR_isLetter (R_PR_isLetter Z a1 _) rfl rfl rfl (by decide) (by decide) (Nat.le_of_ble_eq_true rfl) ln_RX12_217 dX12_append_1 (fun gr1 x3 J2 => ?_)
  refine wq_if_ne 15 dX12_append_4 (by decide) rfl (fun c18 => ?_) (fun c18 => ?_)
  · exact wq_throw thr_IA (Nat.le_of_ble_eq_true rfl) (by decide +kernel) rfl dX12_append_7 dX12_append_10 dX12_append_11 dX12_append_14
  · refine wq_aload_n dX12_append_15 0 rfl rfl ?_
    refine g_0_0 ln_RX12_12 dX12_append_16 ?_
    refine wq_cVi M_G_textLength (R_G_textLength Z 0 _) (ob_1 (by decide)) rfl rfl (by decide) (by decide) (Nat.le_of_ble_eq_true rfl) ln_RX12_122 dX12_append_19 (fun gr4 x6 J5 => ?_)
    refine wq_sipush dX12_append_22 (by decide) ?_
    refine wq_icmp_lt 31 dX12_append_25 (by decide) rfl rfl (fun c16 => ?_) (fun c16 => ?_)
    · refine wq_aload_n dX12_append_31 0 rfl rfl ?_
      refine g_0_7 ln_RX12_61 dX12_append_32 ?_
      refine wq_aload_n dX12_append_35 0 rfl rfl ?_
      refine g_0_0 ln_RX12_12 dX12_append_36 ?_
      refine wq_cVv M_His_remember (R_His_remember Z 0 _) ob_9 rfl rfl (by decide) (by decide) (Nat.le_of_ble_eq_true rfl) ln_RX12_126 dX12_append_39 (fun gr7 _ J8 => ?_)
      refine wq_aload_n dX12_append_42 0 rfl rfl ?_
      refine g_0_0 ln_RX12_12 dX12_append_43 ?_
      refine wq_iload_n dX12_append_46 1 rfl rfl ?_
      refine wq_cVv M_G_addLetter (R_G_addLetter Z 0 a1 _) (ob_1 (by decide)) rfl rfl (by decide) (by decide) (Nat.le_of_ble_eq_true rfl) ln_RX12_292 dX12_append_47 (fun gr10 _ J11 => ?_)
      refine wq_aload_n dX12_append_50 0 rfl rfl ?_
      refine g_0_0 ln_RX12_12 dX12_append_51 ?_
      refine wq_cVi M_G_textLength (R_G_textLength Z 0 _) (ob_1 (by decide)) rfl rfl (by decide) (by decide) (Nat.le_of_ble_eq_true rfl) ln_RX12_122 dX12_append_54 (fun gr13 x15 J14 => ?_)
      exact wq_iret rfl rfl dX12_append_57
    · refine wq_bipush dX12_append_28 (by decide) ?_
      exact wq_iret rfl rfl dX12_append_30

theorem M_G_dropLetters : MwV yX1_dropLetters cX1_dropLetters 5 (none) 1 := ⟨li_4 230 (by decide +kernel) (by decide +kernel), li_4 228 (by decide +kernel) (by decide +kernel), li_4 229 (by decide +kernel) (by decide +kernel), li_1 2 (by decide +kernel) (by decide +kernel), by decide +kernel⟩
theorem ln_RX12_295 : Cond.methodLink RX12 295 yX1_dropLetters ∈ lw_good := li_4 227 (by decide +kernel) (by decide +kernel)
noncomputable def f_PR_cut (a1 : Int) (I : Mem) : Option ((Int ⊕ String) × Mem) :=
if (w32 a1) < 1 then
ltI (thrw I) fun J1 =>
some (.inr xIA, J1)
else
if 400 < (w32 a1) then
ltI (thrw I) fun J14 =>
some (.inr xIA, J14)
else
bnd (f_G_textLength 0 I) fun x4 J3 =>
if (w32 a1) < (w32 x4) then
bnd (f_His_remember 0 J3) fun _ J6 =>
bnd (f_G_dropLetters 0 a1 J6) fun _ J9 =>
some (.inl (J9 2 (43 * 0) 1), J9)
else
some (.inl (-6), J3)
set_option maxRecDepth 20000 in
theorem R_PR_cut (Z : ZT) (a1 : Int) (I : Mem) : RX Z yX12_cut cX12_cut 2 (some .int) 6 [vr Z 0 0, vi a1] I (fun x => some (vi x)) (f_PR_cut a1 I) := by
  refine RX.of (by decide +kernel) (Nat.le_of_ble_eq_true rfl) (fun gr => ?_)
  unfold f_PR_cut
  refine WQ.loc [0, 1] (lv' := [(0, vr Z 0 0), (1, vi a1)]) rfl ?_
  refine wq_iload_n dX12_cut_0 1 rfl rfl ?_
  refine wq_iconst dX12_cut_1 ?_
  refine wq_icmp_lt 12 dX12_cut_2 (by decide) rfl rfl (fun c16 => ?_) (fun c16 => ?_)
  · exact wq_throw thr_IA (Nat.le_of_ble_eq_true rfl) (by decide +kernel) rfl dX12_cut_12 dX12_cut_15 dX12_cut_16 dX12_cut_19
  · refine wq_iload_n dX12_cut_5 1 rfl rfl ?_
    refine wq_sipush dX12_cut_6 (by decide) ?_
    refine wq_icmp_le 20 dX12_cut_9 (by decide) rfl rfl (fun c15 => ?_) (fun c15 => ?_)
    · exact wq_throw thr_IA (Nat.le_of_ble_eq_true rfl) (by decide +kernel) rfl dX12_cut_12 dX12_cut_15 dX12_cut_16 dX12_cut_19
    · refine wq_iload_n dX12_cut_20 1 rfl rfl ?_
      refine wq_aload_n dX12_cut_21 0 rfl rfl ?_
      refine g_0_0 ln_RX12_12 dX12_cut_22 ?_
      refine wq_cVi M_G_textLength (R_G_textLength Z 0 _) (ob_1 (by decide)) rfl rfl (by decide) (by decide) (Nat.le_of_ble_eq_true rfl) ln_RX12_122 dX12_cut_25 (fun gr2 x4 J3 => ?_)
      refine wq_icmp_lt 34 dX12_cut_28 (by decide) rfl rfl (fun c13 => ?_) (fun c13 => ?_)
      · refine wq_aload_n dX12_cut_34 0 rfl rfl ?_
        refine g_0_7 ln_RX12_61 dX12_cut_35 ?_
        refine wq_aload_n dX12_cut_38 0 rfl rfl ?_
        refine g_0_0 ln_RX12_12 dX12_cut_39 ?_
        refine wq_cVv M_His_remember (R_His_remember Z 0 _) ob_9 rfl rfl (by decide) (by decide) (Nat.le_of_ble_eq_true rfl) ln_RX12_126 dX12_cut_42 (fun gr5 _ J6 => ?_)
        refine wq_aload_n dX12_cut_45 0 rfl rfl ?_
        refine g_0_0 ln_RX12_12 dX12_cut_46 ?_
        refine wq_iload_n dX12_cut_49 1 rfl rfl ?_
        refine wq_cVv M_G_dropLetters (R_G_dropLetters Z 0 a1 _) (ob_1 (by decide)) rfl rfl (by decide) (by decide) (Nat.le_of_ble_eq_true rfl) ln_RX12_295 dX12_cut_50 (fun gr8 _ J9 => ?_)
        refine wq_aload_n dX12_cut_53 0 rfl rfl ?_
        refine g_0_0 ln_RX12_12 dX12_cut_54 ?_
        refine wq_pV (v := vr Z 2 (43 * 0)) M_G_startRow (R_G_startRow Z 0 _ _ _ (if_pos (by decide))) (ob_1 (by decide)) rfl rfl (by decide) (by decide) (Nat.le_of_ble_eq_true rfl) ln_RX12_138 dX12_cut_57 (fun gr11 => ?_)
        refine wq_pV (v := vi (J9 2 (43 * 0) 1)) M_Row_many (R_Row_many Z (43 * 0) _ _ _ (if_pos (by omega))) (ob_2 (by omega)) rfl rfl (by decide) (by decide) (Nat.le_of_ble_eq_true rfl) ln_RX12_142 dX12_cut_60 (fun gr12 => ?_)
        exact wq_iret rfl rfl dX12_cut_63
      · refine wq_bipush dX12_cut_31 (by decide) ?_
        exact wq_iret rfl rfl dX12_cut_33

theorem M_PR_lowest : MwS yX12_lowest cX12_lowest 1 (some .int) 1 := ⟨li_5 79 (by decide +kernel) (by decide +kernel), li_5 78 (by decide +kernel) (by decide +kernel), li_1 1 (by decide +kernel) (by decide +kernel), by decide +kernel⟩
theorem M_PR_highest : MwS yX12_highest cX12_highest 1 (some .int) 1 := ⟨li_5 82 (by decide +kernel) (by decide +kernel), li_5 81 (by decide +kernel) (by decide +kernel), li_1 1 (by decide +kernel) (by decide +kernel), by decide +kernel⟩
theorem ln_RX12_304 : Cond.methodLink RX12 304 yX1_putNumber ∈ lw_good := li_4 237 (by decide +kernel) (by decide +kernel)
theorem ln_RX12_301 : Cond.methodLink RX12 301 yX12_highest ∈ lw_good := li_5 80 (by decide +kernel) (by decide +kernel)
theorem ln_RX12_298 : Cond.methodLink RX12 298 yX12_lowest ∈ lw_good := li_5 77 (by decide +kernel) (by decide +kernel)
noncomputable def f_PR_set (a1 : Int) (a2 : Int) (I : Mem) : Option ((Int ⊕ String) × Mem) :=
if (w32 a1) < 4 then
ltI (thrw I) fun J1 =>
some (.inr xIA, J1)
else
if 6 < (w32 a1) then
ltI (thrw I) fun J21 =>
some (.inr xIA, J21)
else
bnd (f_PR_lowest a1 I) fun x4 J3 =>
if (w32 a2) < (w32 x4) then
ltI (thrw J3) fun J5 =>
some (.inr xIA, J5)
else
bnd (f_PR_highest a1 J3) fun x8 J7 =>
if (w32 x8) < (w32 a2) then
ltI (thrw J7) fun J18 =>
some (.inr xIA, J18)
else
bnd (f_His_remember 0 J7) fun _ J10 =>
bnd (f_G_number 0 a1 J10) fun x14 J13 =>
bnd (f_G_putNumber 0 a1 a2 J13) fun _ J16 =>
some (.inl x14, J16)
set_option maxRecDepth 20000 in
theorem R_PR_set (Z : ZT) (a1 : Int) (a2 : Int) (I : Mem) : RX Z yX12_set cX12_set 4 (some .int) 6 [vr Z 0 0, vi a1, vi a2] I (fun x => some (vi x)) (f_PR_set a1 a2 I) := by
  refine RX.of (by decide +kernel) (Nat.le_of_ble_eq_true rfl) (fun gr => ?_)
  unfold f_PR_set
  refine WQ.loc [0, 1, 2] (lv' := [(0, vr Z 0 0), (1, vi a1), (2, vi a2)]) rfl ?_
  refine wq_iload_n dX12_set_0 1 rfl rfl ?_
  refine wq_iconst dX12_set_1 ?_
  refine wq_icmp_lt 11 dX12_set_2 (by decide) rfl rfl (fun c23 => ?_) (fun c23 => ?_)
  · exact wq_throw thr_IA (Nat.le_of_ble_eq_true rfl) (by decide +kernel) rfl dX12_set_11 dX12_set_14 dX12_set_15 dX12_set_18
  · refine wq_iload_n dX12_set_5 1 rfl rfl ?_
    refine wq_bipush dX12_set_6 (by decide) ?_
    refine wq_icmp_le 19 dX12_set_8 (by decide) rfl rfl (fun c22 => ?_) (fun c22 => ?_)
    · exact wq_throw thr_IA (Nat.le_of_ble_eq_true rfl) (by decide +kernel) rfl dX12_set_11 dX12_set_14 dX12_set_15 dX12_set_18
    · refine wq_iload_n dX12_set_19 2 rfl rfl ?_
      refine wq_iload_n dX12_set_20 1 rfl rfl ?_
      refine wq_cSi M_PR_lowest (R_PR_lowest Z a1 _) rfl rfl rfl (by decide) (by decide) (Nat.le_of_ble_eq_true rfl) ln_RX12_298 dX12_set_21 (fun gr2 x4 J3 => ?_)
      refine wq_icmp_lt 35 dX12_set_24 (by decide) rfl rfl (fun c20 => ?_) (fun c20 => ?_)
      · exact wq_throw thr_IA (Nat.le_of_ble_eq_true rfl) (by decide +kernel) rfl dX12_set_35 dX12_set_38 dX12_set_39 dX12_set_42
      · refine wq_iload_n dX12_set_27 2 rfl rfl ?_
        refine wq_iload_n dX12_set_28 1 rfl rfl ?_
        refine wq_cSi M_PR_highest (R_PR_highest Z a1 _) rfl rfl rfl (by decide) (by decide) (Nat.le_of_ble_eq_true rfl) ln_RX12_301 dX12_set_29 (fun gr6 x8 J7 => ?_)
        refine wq_icmp_le 43 dX12_set_32 (by decide) rfl rfl (fun c19 => ?_) (fun c19 => ?_)
        · exact wq_throw thr_IA (Nat.le_of_ble_eq_true rfl) (by decide +kernel) rfl dX12_set_35 dX12_set_38 dX12_set_39 dX12_set_42
        · refine wq_aload_n dX12_set_43 0 rfl rfl ?_
          refine g_0_7 ln_RX12_61 dX12_set_44 ?_
          refine wq_aload_n dX12_set_47 0 rfl rfl ?_
          refine g_0_0 ln_RX12_12 dX12_set_48 ?_
          refine wq_cVv M_His_remember (R_His_remember Z 0 _) ob_9 rfl rfl (by decide) (by decide) (Nat.le_of_ble_eq_true rfl) ln_RX12_126 dX12_set_51 (fun gr9 _ J10 => ?_)
          refine wq_aload_n dX12_set_54 0 rfl rfl ?_
          refine g_0_0 ln_RX12_12 dX12_set_55 ?_
          refine wq_iload_n dX12_set_58 1 rfl rfl ?_
          refine wq_cVi M_G_number (R_G_number Z 0 a1 _) (ob_1 (by decide)) rfl rfl (by decide) (by decide) (Nat.le_of_ble_eq_true rfl) ln_RX12_151 dX12_set_59 (fun gr12 x14 J13 => ?_)
          refine wq_istore_n (lv' := [(3, vi x14), (0, vr Z 0 0), (1, vi a1), (2, vi a2)]) dX12_set_62 rfl (by decide) rfl ?_
          refine wq_aload_n dX12_set_63 1 rfl rfl ?_
          refine g_0_0 ln_RX12_12 dX12_set_64 ?_
          refine wq_iload_n dX12_set_67 2 rfl rfl ?_
          refine wq_iload_n dX12_set_68 3 rfl rfl ?_
          refine wq_cVv M_G_putNumber (R_G_putNumber Z 0 a1 a2 _) (ob_1 (by decide)) rfl rfl (by decide) (by decide) (Nat.le_of_ble_eq_true rfl) ln_RX12_304 dX12_set_69 (fun gr15 _ J16 => ?_)
          refine wq_iload_n dX12_set_72 0 rfl rfl ?_
          exact wq_iret rfl rfl dX12_set_73

theorem M_His_goBack : MwV yX2_goBack cX2_goBack 2 (none) 1 := ⟨li_6 218 (by decide +kernel) (by decide +kernel), li_6 216 (by decide +kernel) (by decide +kernel), li_6 217 (by decide +kernel) (by decide +kernel), li_1 12 (by decide +kernel) (by decide +kernel), by decide +kernel⟩
theorem ln_RX12_316 : Cond.methodLink RX12 316 yX2_goBack ∈ lw_good := li_6 215 (by decide +kernel) (by decide +kernel)
noncomputable def f_PR_undo  (I : Mem) : Option ((Int ⊕ String) × Mem) :=
if (w32 (I 9 0 4)) = 0 then
ltI (thrw I) fun J6 =>
some (.inr xNS, J6)
else
bnd (f_His_goBack 0 I) fun _ J3 =>
some (.inl (J3 9 0 4), J3)
set_option maxRecDepth 20000 in
theorem R_PR_undo (Z : ZT)  (I : Mem) : RX Z yX12_undo cX12_undo 1 (some .int) 6 [vr Z 0 0] I (fun x => some (vi x)) (f_PR_undo I) := by
  refine RX.of (by decide +kernel) (Nat.le_of_ble_eq_true rfl) (fun gr => ?_)
  unfold f_PR_undo
  refine WQ.loc [0] (lv' := [(0, vr Z 0 0)]) rfl ?_
  refine wq_aload_n dX12_undo_0 0 rfl rfl ?_
  refine g_0_7 ln_RX12_61 dX12_undo_1 ?_
  refine wq_pV (v := vi (I 9 0 4)) M_His_manyPast (R_His_manyPast Z  _ _ _ rfl) ob_9 rfl rfl (by decide) (by decide) (Nat.le_of_ble_eq_true rfl) ln_RX12_179 dX12_undo_4 (fun gr1 => ?_)
  refine wq_if_ne 18 dX12_undo_7 (by decide) rfl (fun c7 => ?_) (fun c7 => ?_)
  · exact wq_throw thr_NS (Nat.le_of_ble_eq_true rfl) (by decide +kernel) rfl dX12_undo_10 dX12_undo_13 dX12_undo_14 dX12_undo_17
  · refine wq_aload_n dX12_undo_18 0 rfl rfl ?_
    refine g_0_7 ln_RX12_61 dX12_undo_19 ?_
    refine wq_aload_n dX12_undo_22 0 rfl rfl ?_
    refine g_0_0 ln_RX12_12 dX12_undo_23 ?_
    refine wq_cVv M_His_goBack (R_His_goBack Z 0 _) ob_9 rfl rfl (by decide) (by decide) (Nat.le_of_ble_eq_true rfl) ln_RX12_316 dX12_undo_26 (fun gr2 _ J3 => ?_)
    refine wq_aload_n dX12_undo_29 0 rfl rfl ?_
    refine g_0_7 ln_RX12_61 dX12_undo_30 ?_
    refine wq_pV (v := vi (J3 9 0 4)) M_His_manyPast (R_His_manyPast Z  _ _ _ rfl) ob_9 rfl rfl (by decide) (by decide) (Nat.le_of_ble_eq_true rfl) ln_RX12_179 dX12_undo_33 (fun gr5 => ?_)
    exact wq_iret rfl rfl dX12_undo_36

theorem M_His_keep : MwV yX2_keep cX2_keep 3 (none) 2 := ⟨li_6 229 (by decide +kernel) (by decide +kernel), li_6 227 (by decide +kernel) (by decide +kernel), li_6 228 (by decide +kernel) (by decide +kernel), li_1 12 (by decide +kernel) (by decide +kernel), by decide +kernel⟩
theorem ln_RX12_319 : Cond.methodLink RX12 319 yX2_keep ∈ lw_good := li_6 226 (by decide +kernel) (by decide +kernel)
noncomputable def f_PR_save (a1 : Int) (I : Mem) : Option ((Int ⊕ String) × Mem) :=
if (w32 a1) < 0 then
ltI (thrw I) fun J1 =>
some (.inr xIA, J1)
else
if (w32 a1) < 2 then
bnd (f_His_keep a1 0 I) fun _ J3 =>
bnd (f_G_totalSize 0 J3) fun x7 J6 =>
some (.inl x7, J6)
else
ltI (thrw I) fun J8 =>
some (.inr xIA, J8)
set_option maxRecDepth 20000 in
theorem R_PR_save (Z : ZT) (a1 : Int) (I : Mem) : RX Z yX12_save cX12_save 2 (some .int) 6 [vr Z 0 0, vi a1] I (fun x => some (vi x)) (f_PR_save a1 I) := by
  refine RX.of (by decide +kernel) (Nat.le_of_ble_eq_true rfl) (fun gr => ?_)
  unfold f_PR_save
  refine WQ.loc [0, 1] (lv' := [(0, vr Z 0 0), (1, vi a1)]) rfl ?_
  refine wq_iload_n dX12_save_0 1 rfl rfl ?_
  refine wq_if_lt 9 dX12_save_1 (by decide) rfl (fun c10 => ?_) (fun c10 => ?_)
  · exact wq_throw thr_IA (Nat.le_of_ble_eq_true rfl) (by decide +kernel) rfl dX12_save_9 dX12_save_12 dX12_save_13 dX12_save_16
  · refine wq_iload_n dX12_save_4 1 rfl rfl ?_
    refine wq_iconst dX12_save_5 ?_
    refine wq_icmp_lt 17 dX12_save_6 (by decide) rfl rfl (fun c9 => ?_) (fun c9 => ?_)
    · refine wq_aload_n dX12_save_17 0 rfl rfl ?_
      refine g_0_7 ln_RX12_61 dX12_save_18 ?_
      refine wq_iload_n dX12_save_21 1 rfl rfl ?_
      refine wq_aload_n dX12_save_22 0 rfl rfl ?_
      refine g_0_0 ln_RX12_12 dX12_save_23 ?_
      refine wq_cVv M_His_keep (R_His_keep Z a1 0 _) ob_9 rfl rfl (by decide) (by decide) (Nat.le_of_ble_eq_true rfl) ln_RX12_319 dX12_save_26 (fun gr2 _ J3 => ?_)
      refine wq_aload_n dX12_save_29 0 rfl rfl ?_
      refine g_0_0 ln_RX12_12 dX12_save_30 ?_
      refine wq_cVi M_G_totalSize (R_G_totalSize Z 0 _) (ob_1 (by decide)) rfl rfl (by decide) (by decide) (Nat.le_of_ble_eq_true rfl) ln_RX12_148 dX12_save_33 (fun gr5 x7 J6 => ?_)
      exact wq_iret rfl rfl dX12_save_36
    · exact wq_throw thr_IA (Nat.le_of_ble_eq_true rfl) (by decide +kernel) rfl dX12_save_9 dX12_save_12 dX12_save_13 dX12_save_16

theorem M_His_bringBack : MwV yX2_bringBack cX2_bringBack 3 (none) 2 := ⟨li_7 4 (by decide +kernel) (by decide +kernel), li_7 2 (by decide +kernel) (by decide +kernel), li_7 3 (by decide +kernel) (by decide +kernel), li_1 12 (by decide +kernel) (by decide +kernel), by decide +kernel⟩
theorem M_His_forgetPast : MwV yX2_forgetPast cX2_forgetPast 1 (none) 0 := ⟨li_3 171 (by decide +kernel) (by decide +kernel), li_3 169 (by decide +kernel) (by decide +kernel), li_3 170 (by decide +kernel) (by decide +kernel), li_1 12 (by decide +kernel) (by decide +kernel), by decide +kernel⟩
theorem ln_RX12_116 : Cond.methodLink RX12 116 yX2_forgetPast ∈ lw_good := li_3 168 (by decide +kernel) (by decide +kernel)
theorem ln_RX12_326 : Cond.methodLink RX12 326 yX2_bringBack ∈ lw_good := li_7 1 (by decide +kernel) (by decide +kernel)
theorem ln_RX12_323 : Cond.methodLink RX12 323 yX2_hasKept ∈ lw_good := li_6 237 (by decide +kernel) (by decide +kernel)
noncomputable def f_PR_restore (a1 : Int) (I : Mem) : Option ((Int ⊕ String) × Mem) :=
if (w32 a1) < 0 then
ltI (thrw I) fun J1 =>
some (.inr xIA, J1)
else
if (w32 a1) < 2 then
bnd (f_His_hasKept a1 I) fun x4 J3 =>
if (w32 x4) = 0 then
ltI (thrw J3) fun J14 =>
some (.inr xNS, J14)
else
bnd (f_His_bringBack a1 0 J3) fun _ J6 =>
bnd (f_His_forgetPast J6) fun _ J9 =>
bnd (f_G_totalSize 0 J9) fun x13 J12 =>
some (.inl x13, J12)
else
ltI (thrw I) fun J16 =>
some (.inr xIA, J16)
set_option maxRecDepth 20000 in
theorem R_PR_restore (Z : ZT) (a1 : Int) (I : Mem) : RX Z yX12_restore cX12_restore 2 (some .int) 6 [vr Z 0 0, vi a1] I (fun x => some (vi x)) (f_PR_restore a1 I) := by
  refine RX.of (by decide +kernel) (Nat.le_of_ble_eq_true rfl) (fun gr => ?_)
  unfold f_PR_restore
  refine WQ.loc [0, 1] (lv' := [(0, vr Z 0 0), (1, vi a1)]) rfl ?_
  refine wq_iload_n dX12_restore_0 1 rfl rfl ?_
  refine wq_if_lt 9 dX12_restore_1 (by decide) rfl (fun c18 => ?_) (fun c18 => ?_)
  · exact wq_throw thr_IA (Nat.le_of_ble_eq_true rfl) (by decide +kernel) rfl dX12_restore_9 dX12_restore_12 dX12_restore_13 dX12_restore_16
  · refine wq_iload_n dX12_restore_4 1 rfl rfl ?_
    refine wq_iconst dX12_restore_5 ?_
    refine wq_icmp_lt 17 dX12_restore_6 (by decide) rfl rfl (fun c17 => ?_) (fun c17 => ?_)
    · refine wq_aload_n dX12_restore_17 0 rfl rfl ?_
      refine g_0_7 ln_RX12_61 dX12_restore_18 ?_
      refine wq_iload_n dX12_restore_21 1 rfl rfl ?_
      refine wq_cVi M_His_hasKept (R_His_hasKept Z a1 _) ob_9 rfl rfl (by decide) (by decide) (Nat.le_of_ble_eq_true rfl) ln_RX12_323 dX12_restore_22 (fun gr2 x4 J3 => ?_)
      refine wq_if_ne 36 dX12_restore_25 (by decide) rfl (fun c15 => ?_) (fun c15 => ?_)
      · exact wq_throw thr_NS (Nat.le_of_ble_eq_true rfl) (by decide +kernel) rfl dX12_restore_28 dX12_restore_31 dX12_restore_32 dX12_restore_35
      · refine wq_aload_n dX12_restore_36 0 rfl rfl ?_
        refine g_0_7 ln_RX12_61 dX12_restore_37 ?_
        refine wq_iload_n dX12_restore_40 1 rfl rfl ?_
        refine wq_aload_n dX12_restore_41 0 rfl rfl ?_
        refine g_0_0 ln_RX12_12 dX12_restore_42 ?_
        refine wq_cVv M_His_bringBack (R_His_bringBack Z a1 0 _) ob_9 rfl rfl (by decide) (by decide) (Nat.le_of_ble_eq_true rfl) ln_RX12_326 dX12_restore_45 (fun gr5 _ J6 => ?_)
        refine wq_aload_n dX12_restore_48 0 rfl rfl ?_
        refine g_0_7 ln_RX12_61 dX12_restore_49 ?_
        refine wq_cVv M_His_forgetPast (R_His_forgetPast Z _) ob_9 rfl rfl (by decide) (by decide) (Nat.le_of_ble_eq_true rfl) ln_RX12_116 dX12_restore_52 (fun gr8 _ J9 => ?_)
        refine wq_aload_n dX12_restore_55 0 rfl rfl ?_
        refine g_0_0 ln_RX12_12 dX12_restore_56 ?_
        refine wq_cVi M_G_totalSize (R_G_totalSize Z 0 _) (ob_1 (by decide)) rfl rfl (by decide) (by decide) (Nat.le_of_ble_eq_true rfl) ln_RX12_148 dX12_restore_59 (fun gr11 x13 J12 => ?_)
        exact wq_iret rfl rfl dX12_restore_62
    · exact wq_throw thr_IA (Nat.le_of_ble_eq_true rfl) (by decide +kernel) rfl dX12_restore_9 dX12_restore_12 dX12_restore_13 dX12_restore_16

theorem M_G_hasSymbol : MwV yX1_hasSymbol cX1_hasSymbol 2 (some .boolean) 1 := ⟨li_4 190 (by decide +kernel) (by decide +kernel), li_4 188 (by decide +kernel) (by decide +kernel), li_4 189 (by decide +kernel) (by decide +kernel), li_1 2 (by decide +kernel) (by decide +kernel), by decide +kernel⟩
theorem ln_RX12_339 : Cond.methodLink RX12 339 yX1_lowestFree ∈ lw_good := li_4 203 (by decide +kernel) (by decide +kernel)
theorem ln_RX12_336 : Cond.methodLink RX12 336 yX1_hasSymbol ∈ lw_good := li_4 187 (by decide +kernel) (by decide +kernel)
noncomputable def f_PR_refusalOfMake (a1 : Int) (a2 : Int) (I : Mem) : Option ((Int) × Mem) :=
bnd (f_G_hasSymbol 0 a1 I) fun x3 J2 =>
if (w32 x3) = 0 then
some ((-7), J2)
else
bnd (f_G_hasSymbol 0 a2 J2) fun x6 J5 =>
if (w32 x6) = 0 then
some ((-7), J5)
else
bnd (f_PT_readFrom 0 J5) fun _ J9 =>
bnd (f_PT_pairOf a1 a2 J9) fun x13 J12 =>
bnd (f_PT_countOf x13 J12) fun x16 J15 =>
if (w32 x16) = 0 then
some ((-2), J15)
else
bnd (f_PT_keptOf x13 J15) fun x19 J18 =>
if (w32 x19) = (-1) then
bnd (f_G_lowestFree 0 J18) fun x22 J21 =>
if (w32 x22) = (-1) then
some ((-3), J21)
else
some (0, J21)
else
some (0, J18)
set_option maxRecDepth 20000 in
theorem R_PR_refusalOfMake (Z : ZT) (a1 : Int) (a2 : Int) (I : Mem) (r : Int) (J : Mem) (hf : f_PR_refusalOfMake a1 a2 I = some (r, J)) : Runs Z yX12_refusalOfMake cX12_refusalOfMake 5 (some .int) 5 [vr Z 0 0, vi a1, vi a2] I (some (vi r), J) := by
  refine Runs.of (rv := fun x => some (vi x)) (by decide +kernel) (Nat.le_of_ble_eq_true rfl) hf (fun gr => ?_)
  unfold f_PR_refusalOfMake
  refine WQ.loc [0, 1, 2] (lv' := [(0, vr Z 0 0), (1, vi a1), (2, vi a2)]) rfl ?_
  refine wq_aload_n dX12_refusalOfMake_0 0 rfl rfl ?_
  refine g_0_0 ln_RX12_12 dX12_refusalOfMake_1 ?_
  refine wq_iload_n dX12_refusalOfMake_4 1 rfl rfl ?_
  refine wq_cVi M_G_hasSymbol (R_G_hasSymbol Z 0 a1 _) (ob_1 (by decide)) rfl rfl (by decide) (by decide) (Nat.le_of_ble_eq_true rfl) ln_RX12_336 dX12_refusalOfMake_5 (fun gr1 x3 J2 => ?_)
  refine wq_if_eq 22 dX12_refusalOfMake_8 (by decide) rfl (fun c27 => ?_) (fun c27 => ?_)
  · refine wq_bipush dX12_refusalOfMake_22 (by decide) ?_
    exact wq_iret rfl rfl dX12_refusalOfMake_24
  · refine wq_aload_n dX12_refusalOfMake_11 0 rfl rfl ?_
    refine g_0_0 ln_RX12_12 dX12_refusalOfMake_12 ?_
    refine wq_iload_n dX12_refusalOfMake_15 2 rfl rfl ?_
    refine wq_cVi M_G_hasSymbol (R_G_hasSymbol Z 0 a2 _) (ob_1 (by decide)) rfl rfl (by decide) (by decide) (Nat.le_of_ble_eq_true rfl) ln_RX12_336 dX12_refusalOfMake_16 (fun gr4 x6 J5 => ?_)
    refine wq_if_ne 25 dX12_refusalOfMake_19 (by decide) rfl (fun c26 => ?_) (fun c26 => ?_)
    · refine wq_bipush dX12_refusalOfMake_22 (by decide) ?_
      exact wq_iret rfl rfl dX12_refusalOfMake_24
    · refine wq_aload_n dX12_refusalOfMake_25 0 rfl rfl ?_
      refine g_0_2 ln_RX12_22 dX12_refusalOfMake_26 ?_
      refine wq_pV (v := vr Z 4 0) M_Stp_pairs (R_Stp_pairs Z  _ _ _ rfl) ob_3 rfl rfl (by decide) (by decide) (Nat.le_of_ble_eq_true rfl) ln_RX12_167 dX12_refusalOfMake_29 (fun gr7 => ?_)
      refine wq_astore_n (lv' := [(3, vr Z 4 0), (0, vr Z 0 0), (1, vi a1), (2, vi a2)]) dX12_refusalOfMake_32 rfl (by decide) rfl ?_
      refine wq_aload_n dX12_refusalOfMake_33 0 rfl rfl ?_
      refine wq_aload_n dX12_refusalOfMake_34 1 rfl rfl ?_
      refine g_0_0 ln_RX12_12 dX12_refusalOfMake_35 ?_
      refine wq_cVv M_PT_readFrom (R_PT_readFrom Z 0 _) ob_4 rfl rfl (by decide) (by decide) (Nat.le_of_ble_eq_true rfl) ln_RX12_171 dX12_refusalOfMake_38 (fun gr8 _ J9 => ?_)
      refine wq_aload_n dX12_refusalOfMake_41 0 rfl rfl ?_
      refine wq_iload_n dX12_refusalOfMake_42 2 rfl rfl ?_
      refine wq_iload_n dX12_refusalOfMake_43 3 rfl rfl ?_
      refine wq_cVi M_PT_pairOf (R_PT_pairOf Z a1 a2 _) ob_4 rfl rfl (by decide) (by decide) (Nat.le_of_ble_eq_true rfl) ln_RX12_246 dX12_refusalOfMake_44 (fun gr11 x13 J12 => ?_)
      refine wq_istore (lv' := [(4, vi x13), (3, vr Z 4 0), (0, vr Z 0 0), (1, vi a1), (2, vi a2)]) dX12_refusalOfMake_47 (by decide) rfl ?_
      refine wq_aload_n dX12_refusalOfMake_49 1 rfl rfl ?_
      refine wq_iload dX12_refusalOfMake_50 0 rfl ?_
      refine wq_cVi M_PT_countOf (R_PT_countOf Z x13 _) ob_4 rfl rfl (by decide) (by decide) (Nat.le_of_ble_eq_true rfl) ln_RX12_250 dX12_refusalOfMake_52 (fun gr14 x16 J15 => ?_)
      refine wq_if_ne 61 dX12_refusalOfMake_55 (by decide) rfl (fun c25 => ?_) (fun c25 => ?_)
      · refine wq_bipush dX12_refusalOfMake_58 (by decide) ?_
        exact wq_iret rfl rfl dX12_refusalOfMake_60
      · refine wq_aload_n dX12_refusalOfMake_61 1 rfl rfl ?_
        refine wq_iload dX12_refusalOfMake_62 0 rfl ?_
        refine wq_cVi M_PT_keptOf (R_PT_keptOf Z x13 _) ob_4 rfl rfl (by decide) (by decide) (Nat.le_of_ble_eq_true rfl) ln_RX12_262 dX12_refusalOfMake_64 (fun gr17 x19 J18 => ?_)
        refine wq_iconst dX12_refusalOfMake_67 ?_
        refine wq_icmp_ne 87 dX12_refusalOfMake_68 (by decide) rfl rfl (fun c24 => ?_) (fun c24 => ?_)
        · refine wq_aload_n dX12_refusalOfMake_71 2 rfl rfl ?_
          refine g_0_0 ln_RX12_12 dX12_refusalOfMake_72 ?_
          refine wq_cVi M_G_lowestFree (R_G_lowestFree Z 0 _) (ob_1 (by decide)) rfl rfl (by decide) (by decide) (Nat.le_of_ble_eq_true rfl) ln_RX12_339 dX12_refusalOfMake_75 (fun gr20 x22 J21 => ?_)
          refine wq_iconst dX12_refusalOfMake_78 ?_
          refine wq_icmp_ne 87 dX12_refusalOfMake_79 (by decide) rfl rfl (fun c23 => ?_) (fun c23 => ?_)
          · refine wq_bipush dX12_refusalOfMake_82 (by decide) ?_
            refine wq_goto 88 dX12_refusalOfMake_84 (by decide) ?_
            exact wq_iret rfl rfl dX12_refusalOfMake_88
          · refine wq_iconst dX12_refusalOfMake_87 ?_
            exact wq_iret rfl rfl dX12_refusalOfMake_88
        · refine wq_iconst dX12_refusalOfMake_87 ?_
          exact wq_iret rfl rfl dX12_refusalOfMake_88

theorem M_PR_refusalOfMake : MwV yX12_refusalOfMake cX12_refusalOfMake 5 (some .int) 2 := ⟨li_4 186 (by decide +kernel) (by decide +kernel), li_4 185 (by decide +kernel) (by decide +kernel), lw_in 36 (by decide +kernel) (by decide +kernel), li_1 1 (by decide +kernel) (by decide +kernel), by decide +kernel⟩
theorem M_G_join : MwV yX1_join cX1_join 7 (some .int) 2 := ⟨li_4 115 (by decide +kernel) (by decide +kernel), li_4 113 (by decide +kernel) (by decide +kernel), li_4 114 (by decide +kernel) (by decide +kernel), li_1 2 (by decide +kernel) (by decide +kernel), by decide +kernel⟩
theorem ln_RX12_286 : Cond.methodLink RX12 286 yX1_join ∈ lw_good := li_4 204 (by decide +kernel) (by decide +kernel)
theorem ln_RX12_283 : Cond.methodLink RX12 283 yX12_refusalOfMake ∈ lw_good := li_4 183 (by decide +kernel) (by decide +kernel)
noncomputable def f_PR_doMake (a1 : Int) (a2 : Int) (I : Mem) : Option ((Int) × Mem) :=
bnd (f_PR_refusalOfMake a1 a2 I) fun x3 J2 =>
if (w32 x3) < 0 then
some (0, J2)
else
bnd (f_G_join 0 a1 a2 J2) fun x6 J5 =>
some (1, J5)
set_option maxRecDepth 20000 in
theorem R_PR_doMake (Z : ZT) (a1 : Int) (a2 : Int) (I : Mem) (r : Int) (J : Mem) (hf : f_PR_doMake a1 a2 I = some (r, J)) : Runs Z yX12_doMake cX12_doMake 3 (some .boolean) 6 [vr Z 0 0, vi a1, vi a2] I (some (vi r), J) := by
  refine Runs.of (rv := fun x => some (vi x)) (by decide +kernel) (Nat.le_of_ble_eq_true rfl) hf (fun gr => ?_)
  unfold f_PR_doMake
  refine WQ.loc [0, 1, 2] (lv' := [(0, vr Z 0 0), (1, vi a1), (2, vi a2)]) rfl ?_
  refine wq_aload_n dX12_doMake_0 0 rfl rfl ?_
  refine wq_iload_n dX12_doMake_1 1 rfl rfl ?_
  refine wq_iload_n dX12_doMake_2 2 rfl rfl ?_
  refine wq_cVi M_PR_refusalOfMake (R_PR_refusalOfMake Z a1 a2 _) ob_0 rfl rfl (by decide) (by decide) (Nat.le_of_ble_eq_true rfl) ln_RX12_283 dX12_doMake_3 (fun gr1 x3 J2 => ?_)
  refine wq_if_ge 11 dX12_doMake_6 (by decide) rfl (fun c7 => ?_) (fun c7 => ?_)
  · refine wq_iconst dX12_doMake_9 ?_
    exact wq_zret rfl (by decide) rfl dX12_doMake_10
  · refine wq_aload_n dX12_doMake_11 0 rfl rfl ?_
    refine g_0_0 ln_RX12_12 dX12_doMake_12 ?_
    refine wq_iload_n dX12_doMake_15 1 rfl rfl ?_
    refine wq_iload_n dX12_doMake_16 2 rfl rfl ?_
    refine wq_cVi M_G_join (R_G_join Z 0 a1 a2 _) (ob_1 (by decide)) rfl rfl (by decide) (by decide) (Nat.le_of_ble_eq_true rfl) ln_RX12_286 dX12_doMake_17 (fun gr4 x6 J5 => ?_)
    refine wq_pop dX12_doMake_20 rfl ?_
    refine wq_iconst dX12_doMake_21 ?_
    exact wq_zret rfl (by decide) rfl dX12_doMake_22

noncomputable def f_PR_doExpand (a1 : Int) (I : Mem) : Option ((Int) × Mem) :=
bnd (f_G_hasRule 0 a1 I) fun x3 J2 =>
if (w32 x3) = 0 then
some (0, J2)
else
bnd (f_G_dissolve 0 a1 4 J2) fun x6 J5 =>
some (1, J5)
set_option maxRecDepth 20000 in
theorem R_PR_doExpand (Z : ZT) (a1 : Int) (I : Mem) (r : Int) (J : Mem) (hf : f_PR_doExpand a1 I = some (r, J)) : Runs Z yX12_doExpand cX12_doExpand 2 (some .boolean) 4 [vr Z 0 0, vi a1] I (some (vi r), J) := by
  refine Runs.of (rv := fun x => some (vi x)) (by decide +kernel) (Nat.le_of_ble_eq_true rfl) hf (fun gr => ?_)
  unfold f_PR_doExpand
  refine WQ.loc [0, 1] (lv' := [(0, vr Z 0 0), (1, vi a1)]) rfl ?_
  refine wq_aload_n dX12_doExpand_0 0 rfl rfl ?_
  refine g_0_0 ln_RX12_12 dX12_doExpand_1 ?_
  refine wq_iload_n dX12_doExpand_4 1 rfl rfl ?_
  refine wq_cVi M_G_hasRule (R_G_hasRule Z 0 a1 _) (ob_1 (by decide)) rfl rfl (by decide) (by decide) (Nat.le_of_ble_eq_true rfl) ln_RX12_188 dX12_doExpand_5 (fun gr1 x3 J2 => ?_)
  refine wq_if_ne 13 dX12_doExpand_8 (by decide) rfl (fun c7 => ?_) (fun c7 => ?_)
  · refine wq_iconst dX12_doExpand_11 ?_
    exact wq_zret rfl (by decide) rfl dX12_doExpand_12
  · refine wq_aload_n dX12_doExpand_13 0 rfl rfl ?_
    refine g_0_0 ln_RX12_12 dX12_doExpand_14 ?_
    refine wq_iload_n dX12_doExpand_17 1 rfl rfl ?_
    refine wq_iconst dX12_doExpand_18 ?_
    refine wq_cVi M_G_dissolve (R_G_dissolve Z 0 a1 4 _) (ob_1 (by decide)) rfl rfl (by decide) (by decide) (Nat.le_of_ble_eq_true rfl) ln_RX12_289 dX12_doExpand_19 (fun gr4 x6 J5 => ?_)
    refine wq_pop dX12_doExpand_22 rfl ?_
    refine wq_iconst dX12_doExpand_23 ?_
    exact wq_zret rfl (by decide) rfl dX12_doExpand_24

theorem ln_RX12_54 : Cond.fieldLink RX12 54 RX12 "script" "LPairRules$Script;" ∈ lw_good := li_2 106 (by decide +kernel) (by decide +kernel)
theorem M_Scr_manyLetters : MwV yX6_manyLetters cX6_manyLetters 2 (some .int) 1 := ⟨li_4 218 (by decide +kernel) (by decide +kernel), li_4 216 (by decide +kernel) (by decide +kernel), li_4 217 (by decide +kernel) (by decide +kernel), li_1 9 (by decide +kernel) (by decide +kernel), by decide +kernel⟩
theorem M_Scr_letter : MwV yX6_letter cX6_letter 3 (some .int) 2 := ⟨li_4 177 (by decide +kernel) (by decide +kernel), li_4 175 (by decide +kernel) (by decide +kernel), li_4 176 (by decide +kernel) (by decide +kernel), li_1 9 (by decide +kernel) (by decide +kernel), by decide +kernel⟩
theorem ln_RX12_358 : Cond.methodLink RX12 358 yX6_letter ∈ lw_good := li_4 174 (by decide +kernel) (by decide +kernel)
theorem ln_RX12_374 : Cond.methodLink RX12 374 yX6_manyLetters ∈ lw_good := li_4 215 (by decide +kernel) (by decide +kernel)
noncomputable def f_PR_doAppend_w2 (v1 : Int) (s : Int) (I : Mem) : Option (((Int) ⊕ (Int)) × Mem) :=
bnd (f_Scr_manyLetters v1 I) fun x3 J2 =>
if (w32 s) < (w32 x3) then
bnd (f_G_textLength 0 J2) fun x6 J5 =>
if (w32 x6) < 400 then
bnd (f_Scr_letter v1 s J5) fun x9 J8 =>
bnd (f_G_addLetter 0 x9 J8) fun _ J11 =>
some (.inl (s + 1), J11)
else
some (.inr (0), J5)
else
some (.inr (1), J2)

noncomputable def f_PR_doAppend (a1 : Int) (I : Mem) : Option ((Int) × Mem) :=
whl (f_PR_doAppend_w2 a1) 0 I
set_option maxRecDepth 20000 in
theorem R_PR_doAppend (Z : ZT) (a1 : Int) (I : Mem) (r : Int) (J : Mem) (hf : f_PR_doAppend a1 I = some (r, J)) : Runs Z yX12_doAppend cX12_doAppend 3 (some .boolean) 4 [vr Z 0 0, vi a1] I (some (vi r), J) := by
  refine Runs.of (rv := fun x => some (vi x)) (by decide +kernel) (Nat.le_of_ble_eq_true rfl) hf (fun gr => ?_)
  unfold f_PR_doAppend
  refine WQ.loc [0, 1] (lv' := [(0, vr Z 0 0), (1, vi a1)]) rfl ?_
  refine wq_iconst dX12_doAppend_0 ?_
  refine wq_istore_n (lv' := [(2, vi 0), (0, vr Z 0 0), (1, vi a1)]) dX12_doAppend_1 rfl (by decide) rfl ?_
  refine WQ.loc [1, 2, 0] (lv' := [(0, vr Z 0 0), (1, vi a1), (2, vi 0)]) rfl ?_
  refine wq_loop (fun s21 => [(0, vr Z 0 0), (1, vi a1), (2, vi s21)]) (fun κ15 bk16 hr18 gr20 s21 J19 => ?_) gr _ rfl
  unfold f_PR_doAppend_w2
  refine wq_iload_n dX12_doAppend_2 2 rfl rfl ?_
  refine wq_aload_n dX12_doAppend_3 0 rfl rfl ?_
  refine g_0_6 ln_RX12_54 dX12_doAppend_4 ?_
  refine wq_iload_n dX12_doAppend_7 1 rfl rfl ?_
  refine wq_cVi M_Scr_manyLetters (R_Scr_manyLetters Z a1 _) ob_8 rfl rfl (by decide) (by decide) (Nat.le_of_ble_eq_true rfl) ln_RX12_374 dX12_doAppend_8 (fun gr22 x24 J23 => ?_)
  refine wq_icmp_ge 51 dX12_doAppend_11 (by decide) rfl rfl (fun c35 => ?_) (fun c35 => ?_)
  · refine wq_aload_n dX12_doAppend_14 0 rfl rfl ?_
    refine g_0_0 ln_RX12_12 dX12_doAppend_15 ?_
    refine wq_cVi M_G_textLength (R_G_textLength Z 0 _) (ob_1 (by decide)) rfl rfl (by decide) (by decide) (Nat.le_of_ble_eq_true rfl) ln_RX12_122 dX12_doAppend_18 (fun gr25 x27 J26 => ?_)
    refine wq_sipush dX12_doAppend_21 (by decide) ?_
    refine wq_icmp_lt 29 dX12_doAppend_24 (by decide) rfl rfl (fun c34 => ?_) (fun c34 => ?_)
    · refine wq_aload_n dX12_doAppend_29 0 rfl rfl ?_
      refine g_0_0 ln_RX12_12 dX12_doAppend_30 ?_
      refine wq_aload_n dX12_doAppend_33 0 rfl rfl ?_
      refine g_0_6 ln_RX12_54 dX12_doAppend_34 ?_
      refine wq_iload_n dX12_doAppend_37 1 rfl rfl ?_
      refine wq_iload_n dX12_doAppend_38 2 rfl rfl ?_
      refine wq_cVi M_Scr_letter (R_Scr_letter Z a1 s21 _) ob_8 rfl rfl (by decide) (by decide) (Nat.le_of_ble_eq_true rfl) ln_RX12_358 dX12_doAppend_39 (fun gr28 x30 J29 => ?_)
      refine wq_cVv M_G_addLetter (R_G_addLetter Z 0 x30 _) (ob_1 (by decide)) rfl rfl (by decide) (by decide) (Nat.le_of_ble_eq_true rfl) ln_RX12_292 dX12_doAppend_42 (fun gr31 _ J32 => ?_)
      refine wq_iinc (lv' := [(2, vi (s21 + 1)), (0, vr Z 0 0), (1, vi a1)]) dX12_doAppend_45 2 rfl (by decide) rfl ?_
      refine wq_goto 2 dX12_doAppend_48 (by decide) ?_
      exact WQ.loc [1, 2, 0] rfl (bk16 _ _ _)
    · refine wq_iconst dX12_doAppend_27 ?_
      exact wq_zret rfl (by decide) ((hr18 _ _).trans rfl) dX12_doAppend_28
  · refine wq_iconst dX12_doAppend_51 ?_
    exact wq_zret rfl (by decide) ((hr18 _ _).trans rfl) dX12_doAppend_52

noncomputable def f_PR_doCut (a1 : Int) (I : Mem) : Option ((Int) × Mem) :=
bnd (f_G_textLength 0 I) fun x3 J2 =>
if (w32 a1) < (w32 x3) then
bnd (f_G_dropLetters 0 a1 J2) fun _ J5 =>
some (1, J5)
else
some (0, J2)
set_option maxRecDepth 20000 in
theorem R_PR_doCut (Z : ZT) (a1 : Int) (I : Mem) (r : Int) (J : Mem) (hf : f_PR_doCut a1 I = some (r, J)) : Runs Z yX12_doCut cX12_doCut 2 (some .boolean) 4 [vr Z 0 0, vi a1] I (some (vi r), J) := by
  refine Runs.of (rv := fun x => some (vi x)) (by decide +kernel) (Nat.le_of_ble_eq_true rfl) hf (fun gr => ?_)
  unfold f_PR_doCut
  refine WQ.loc [0, 1] (lv' := [(0, vr Z 0 0), (1, vi a1)]) rfl ?_
  refine wq_iload_n dX12_doCut_0 1 rfl rfl ?_
  refine wq_aload_n dX12_doCut_1 0 rfl rfl ?_
  refine g_0_0 ln_RX12_12 dX12_doCut_2 ?_
  refine wq_cVi M_G_textLength (R_G_textLength Z 0 _) (ob_1 (by decide)) rfl rfl (by decide) (by decide) (Nat.le_of_ble_eq_true rfl) ln_RX12_122 dX12_doCut_5 (fun gr1 x3 J2 => ?_)
  refine wq_icmp_lt 13 dX12_doCut_8 (by decide) rfl rfl (fun c7 => ?_) (fun c7 => ?_)
  · refine wq_aload_n dX12_doCut_13 0 rfl rfl ?_
    refine g_0_0 ln_RX12_12 dX12_doCut_14 ?_
    refine wq_iload_n dX12_doCut_17 1 rfl rfl ?_
    refine wq_cVv M_G_dropLetters (R_G_dropLetters Z 0 a1 _) (ob_1 (by decide)) rfl rfl (by decide) (by decide) (Nat.le_of_ble_eq_true rfl) ln_RX12_295 dX12_doCut_18 (fun gr4 _ J5 => ?_)
    refine wq_iconst dX12_doCut_21 ?_
    exact wq_zret rfl (by decide) rfl dX12_doCut_22
  · refine wq_iconst dX12_doCut_11 ?_
    exact wq_zret rfl (by decide) rfl dX12_doCut_12

theorem ln_RX9_26 : Cond.methodLink RX9 26 yX3_bestPair ∈ lw_good := li_4 106 (by decide +kernel) (by decide +kernel)
theorem ln_RX9_30 : Cond.methodLink RX9 30 yX3_firstOf ∈ lw_good := li_4 110 (by decide +kernel) (by decide +kernel)
theorem ln_RX9_34 : Cond.methodLink RX9 34 yX3_secondOf ∈ lw_good := li_4 111 (by decide +kernel) (by decide +kernel)
theorem ln_RX9_50 : Cond.methodLink RX9 50 yX9_inlineAll ∈ lw_good := li_4 135 (by decide +kernel) (by decide +kernel)
theorem ln_RX9_47 : Cond.methodLink RX9 47 yX1_number ∈ lw_good := li_4 134 (by decide +kernel) (by decide +kernel)
theorem ln_RX9_43 : Cond.methodLink RX9 43 yX1_addTo ∈ lw_good := li_4 133 (by decide +kernel) (by decide +kernel)
theorem ln_RX9_37 : Cond.methodLink RX9 37 yX1_join ∈ lw_good := li_4 112 (by decide +kernel) (by decide +kernel)
theorem ln_RX9_22 : Cond.methodLink RX9 22 yX3_readFrom ∈ lw_good := li_4 34 (by decide +kernel) (by decide +kernel)
noncomputable def f_Stp_makeSteps_w2 (v1 : Nat) (v2 : Int) (s : Int) (I : Mem) : Option (((Int) ⊕ (Int)) × Mem) :=
if (w32 s) < (w32 v2) then
bnd (f_PT_readFrom v1 I) fun _ J2 =>
if (w32 (J2 4 0 7)) = (-1) then
some (.inr (s), J2)
else
bnd (f_G_join v1 (idv (J2 4 0 7) 66) (irm (J2 4 0 7) 66) J2) fun x9 J8 =>
bnd (f_G_addTo v1 0 1 J8) fun _ J11 =>
bnd (f_G_number v1 6 J11) fun x15 J14 =>
if (w32 x15) = 1 then
bnd (f_Stp_inlineAll v1 J14) fun x18 J17 =>
some (.inl (s + 1), J17)
else
some (.inl (s + 1), J14)
else
some (.inr (s), I)

noncomputable def f_Stp_makeSteps (a1 : Nat) (a2 : Int) (I : Mem) : Option ((Int) × Mem) :=
if a1 < 12 then
whl (f_Stp_makeSteps_w2 a1 a2) 0 I
else none
set_option maxRecDepth 20000 in
theorem R_Stp_makeSteps (Z : ZT) (a1 : Nat) (a2 : Int) (I : Mem) (r : Int) (J : Mem) (hf : f_Stp_makeSteps a1 a2 I = some (r, J)) : Runs Z yX9_makeSteps cX9_makeSteps 5 (some .int) 5 [vr Z 3 0, vr Z 1 a1, vi a2] I (some (vi r), J) := by
  refine Runs.of (rv := fun x => some (vi x)) (by decide +kernel) (Nat.le_of_ble_eq_true rfl) hf (fun gr => ?_)
  unfold f_Stp_makeSteps
  refine WQ.loc [0, 1, 2] (lv' := [(0, vr Z 3 0), (1, vr Z 1 a1), (2, vi a2)]) rfl ?_
  refine wq_grd (fun h1 => ?_)
  refine wq_iconst dX9_makeSteps_0 ?_
  refine wq_istore_n (lv' := [(3, vi 0), (0, vr Z 3 0), (1, vr Z 1 a1), (2, vi a2)]) dX9_makeSteps_1 rfl (by decide) rfl ?_
  refine WQ.loc [1, 2, 3, 0] (lv' := [(0, vr Z 3 0), (1, vr Z 1 a1), (2, vi a2), (3, vi 0)]) rfl ?_
  refine wq_loop (fun s28 => [(0, vr Z 3 0), (1, vr Z 1 a1), (2, vi a2), (3, vi s28)]) (fun κ22 bk23 hr25 gr27 s28 J26 => ?_) gr _ rfl
  unfold f_Stp_makeSteps_w2
  refine wq_iload_n dX9_makeSteps_2 3 rfl rfl ?_
  refine wq_iload_n dX9_makeSteps_3 2 rfl rfl ?_
  refine wq_icmp_ge 83 dX9_makeSteps_4 (by decide) rfl rfl (fun c49 => ?_) (fun c49 => ?_)
  · refine wq_aload_n dX9_makeSteps_7 0 rfl rfl ?_
    refine g_3_0 ln_RX9_12 dX9_makeSteps_8 ?_
    refine wq_aload_n dX9_makeSteps_11 1 rfl rfl ?_
    refine wq_cVv M_PT_readFrom (R_PT_readFrom Z a1 _) ob_4 rfl rfl (by decide) (by decide) (Nat.le_of_ble_eq_true rfl) ln_RX9_22 dX9_makeSteps_12 (fun gr29 _ J30 => ?_)
    refine wq_aload_n dX9_makeSteps_15 0 rfl rfl ?_
    refine g_3_0 ln_RX9_12 dX9_makeSteps_16 ?_
    refine wq_pV (v := vi (J30 4 0 7)) M_PT_bestPair (R_PT_bestPair Z  _ _ _ rfl) ob_4 rfl rfl (by decide) (by decide) (Nat.le_of_ble_eq_true rfl) ln_RX9_26 dX9_makeSteps_19 (fun gr32 => ?_)
    refine wq_istore (lv' := [(4, vi (J30 4 0 7)), (0, vr Z 3 0), (1, vr Z 1 a1), (2, vi a2), (3, vi s28)]) dX9_makeSteps_22 (by decide) rfl ?_
    refine wq_iload dX9_makeSteps_24 0 rfl ?_
    refine wq_iconst dX9_makeSteps_26 ?_
    refine wq_icmp_ne 32 dX9_makeSteps_27 (by decide) rfl rfl (fun c48 => ?_) (fun c48 => ?_)
    · refine wq_iload_n dX9_makeSteps_30 4 rfl rfl ?_
      exact wq_iret rfl ((hr25 _ _).trans rfl) dX9_makeSteps_31
    · refine wq_aload_n dX9_makeSteps_32 2 rfl rfl ?_
      refine wq_aload_n dX9_makeSteps_33 1 rfl rfl ?_
      refine g_3_0 ln_RX9_12 dX9_makeSteps_34 ?_
      refine wq_iload dX9_makeSteps_37 0 rfl ?_
      refine wq_pV (v := vi (idv (J30 4 0 7) 66)) M_PT_firstOf (R_PT_firstOf Z (J30 4 0 7) _ _ _ rfl) ob_4 rfl rfl (by decide) (by decide) (Nat.le_of_ble_eq_true rfl) ln_RX9_30 dX9_makeSteps_39 (fun gr33 => ?_)
      refine wq_aload_n dX9_makeSteps_42 1 rfl rfl ?_
      refine g_3_0 ln_RX9_12 dX9_makeSteps_43 ?_
      refine wq_iload dX9_makeSteps_46 0 rfl ?_
      refine wq_pV (v := vi (irm (J30 4 0 7) 66)) M_PT_secondOf (R_PT_secondOf Z (J30 4 0 7) _ _ _ rfl) ob_4 rfl rfl (by decide) (by decide) (Nat.le_of_ble_eq_true rfl) ln_RX9_34 dX9_makeSteps_48 (fun gr34 => ?_)
      refine wq_cVi M_G_join (R_G_join Z a1 (idv (J30 4 0 7) 66) (irm (J30 4 0 7) 66) _) (ob_1 h1) rfl rfl (by decide) (by decide) (Nat.le_of_ble_eq_true rfl) ln_RX9_37 dX9_makeSteps_51 (fun gr35 x37 J36 => ?_)
      refine wq_pop dX9_makeSteps_54 rfl ?_
      refine wq_aload_n dX9_makeSteps_55 2 rfl rfl ?_
      refine wq_iconst dX9_makeSteps_56 ?_
      refine wq_iconst dX9_makeSteps_57 ?_
      refine wq_cVv M_G_addTo (R_G_addTo Z a1 0 1 _) (ob_1 h1) rfl rfl (by decide) (by decide) (Nat.le_of_ble_eq_true rfl) ln_RX9_43 dX9_makeSteps_58 (fun gr38 _ J39 => ?_)
      refine wq_aload_n dX9_makeSteps_61 2 rfl rfl ?_
      refine wq_bipush dX9_makeSteps_62 (by decide) ?_
      refine wq_cVi M_G_number (R_G_number Z a1 6 _) (ob_1 h1) rfl rfl (by decide) (by decide) (Nat.le_of_ble_eq_true rfl) ln_RX9_47 dX9_makeSteps_64 (fun gr41 x43 J42 => ?_)
      refine wq_iconst dX9_makeSteps_67 ?_
      refine wq_icmp_ne 77 dX9_makeSteps_68 (by decide) rfl rfl (fun c47 => ?_) (fun c47 => ?_)
      · refine wq_aload_n dX9_makeSteps_71 1 rfl rfl ?_
        refine wq_aload_n dX9_makeSteps_72 2 rfl rfl ?_
        refine wq_cVi M_Stp_inlineAll (R_Stp_inlineAll Z a1 _) ob_3 rfl rfl (by decide) (by decide) (Nat.le_of_ble_eq_true rfl) ln_RX9_50 dX9_makeSteps_73 (fun gr44 x46 J45 => ?_)
        refine wq_pop dX9_makeSteps_76 rfl ?_
        refine wq_iinc (lv' := [(3, vi (s28 + 1)), (4, vi (J30 4 0 7)), (0, vr Z 3 0), (1, vr Z 1 a1), (2, vi a2)]) dX9_makeSteps_77 4 rfl (by decide) rfl ?_
        refine wq_goto 2 dX9_makeSteps_80 (by decide) ?_
        exact WQ.loc [2, 3, 4, 0] rfl (bk23 _ _ _)
      · refine wq_iinc (lv' := [(3, vi (s28 + 1)), (4, vi (J30 4 0 7)), (0, vr Z 3 0), (1, vr Z 1 a1), (2, vi a2)]) dX9_makeSteps_77 4 rfl (by decide) rfl ?_
        refine wq_goto 2 dX9_makeSteps_80 (by decide) ?_
        exact WQ.loc [2, 3, 4, 0] rfl (bk23 _ _ _)
  · refine wq_iload_n dX9_makeSteps_83 3 rfl rfl ?_
    exact wq_iret rfl ((hr25 _ _).trans rfl) dX9_makeSteps_84

theorem M_Set_readRule : MwV yX7_readRule cX7_readRule 4 (some .boolean) 1 := ⟨li_3 39 (by decide +kernel) (by decide +kernel), li_3 38 (by decide +kernel) (by decide +kernel), lw_in 6 (by decide +kernel) (by decide +kernel), li_1 8 (by decide +kernel) (by decide +kernel), by decide +kernel⟩
theorem ln_RX7_107 : Cond.methodLink RX7 107 yX7_readRule ∈ lw_good := li_3 36 (by decide +kernel) (by decide +kernel)
theorem ln_RX7_78 : Cond.methodLink RX7 78 yX8_is ∈ lw_good := li_3 18 (by decide +kernel) (by decide +kernel)
theorem M_Set_readLetters : MwV yX7_readLetters cX7_readLetters 4 (some .boolean) 1 := ⟨li_3 25 (by decide +kernel) (by decide +kernel), li_3 24 (by decide +kernel) (by decide +kernel), lw_in 5 (by decide +kernel) (by decide +kernel), li_1 8 (by decide +kernel) (by decide +kernel), by decide +kernel⟩
theorem ln_RX7_104 : Cond.methodLink RX7 104 yX7_readLetters ∈ lw_good := li_3 22 (by decide +kernel) (by decide +kernel)
noncomputable def f_Set_readItems_w7 (v1 : Nat) (s : Int) (I : Mem) : Option (((Int) ⊕ (Int)) × Mem) :=
if 600 < (w32 s) then
bnd (f_Src_fail 1 I) fun x4 J3 =>
if x4 = 0 ∨ x4 = 1 then
some (.inr (x4), J3)
else none
else
bnd (f_Src_is 1 I) fun x8 J7 =>
if (w32 x8) = 0 then
bnd (f_Src_is 4 J7) fun x11 J10 =>
if (w32 x11) = 0 then
if 0 < (w32 s) then
some (.inr (1), J10)
else
bnd (f_Src_fail 1 J10) fun x14 J13 =>
if (w32 x14) = 0 then
some (.inr (0), J13)
else
some (.inr (1), J13)
else
bnd (f_Set_readRule v1 J10) fun x19 J18 =>
if (w32 x19) = 0 then
some (.inr (0), J18)
else
some (.inl (s + 1), J18)
else
bnd (f_Set_readLetters v1 J7) fun x24 J23 =>
if (w32 x24) = 0 then
some (.inr (0), J23)
else
some (.inl (s + 1), J23)

noncomputable def f_Set_readItems (a1 : Nat) (I : Mem) : Option ((Int) × Mem) :=
if a1 < 516 then
ltI (sI I 7 0 3 0) fun J1 =>
whl (f_Set_readItems_w7 a1) 0 J1
else none
set_option maxRecDepth 20000 in
theorem R_Set_readItems (Z : ZT) (a1 : Nat) (I : Mem) (r : Int) (J : Mem) (hf : f_Set_readItems a1 I = some (r, J)) : Runs Z yX7_readItems cX7_readItems 4 (some .boolean) 5 [vr Z 7 0, vr Z 2 a1] I (some (vi r), J) := by
  refine Runs.of (rv := fun x => some (vi x)) (by decide +kernel) (Nat.le_of_ble_eq_true rfl) hf (fun gr => ?_)
  unfold f_Set_readItems
  refine WQ.loc [0, 1] (lv' := [(0, vr Z 7 0), (1, vr Z 2 a1)]) rfl ?_
  refine wq_grd (fun h1 => ?_)
  refine wq_aload_n dX7_readItems_0 0 rfl rfl ?_
  refine wq_iconst dX7_readItems_1 ?_
  refine p_7_3 ln_RX7_90 dX7_readItems_2 (fun J1 => ?_)
  refine wq_iconst dX7_readItems_5 ?_
  refine wq_istore_n (lv' := [(2, vi 0), (0, vr Z 7 0), (1, vr Z 2 a1)]) dX7_readItems_6 rfl (by decide) rfl ?_
  refine WQ.loc [1, 2, 0] (lv' := [(0, vr Z 7 0), (1, vr Z 2 a1), (2, vi 0)]) rfl ?_
  refine wq_loop (fun s34 => [(0, vr Z 7 0), (1, vr Z 2 a1), (2, vi s34)]) (fun κ28 bk29 hr31 gr33 s34 J32 => ?_) gr _ rfl
  unfold f_Set_readItems_w7
  refine wq_iload_n dX7_readItems_7 2 rfl rfl ?_
  refine wq_sipush dX7_readItems_8 (by decide) ?_
  refine wq_icmp_gt 87 dX7_readItems_11 (by decide) rfl rfl (fun c60 => ?_) (fun c60 => ?_)
  · refine wq_aload_n dX7_readItems_87 0 rfl rfl ?_
    refine g_7_0 ln_RX7_9 dX7_readItems_88 ?_
    refine wq_iconst dX7_readItems_91 ?_
    refine wq_cVi M_Src_fail (R_Src_fail Z 1 _) ob_6 rfl rfl (by decide) (by decide) (Nat.le_of_ble_eq_true rfl) ln_RX7_63 dX7_readItems_92 (fun gr35 x37 J36 => ?_)
    refine wq_grd (fun g38 => ?_)
    exact wq_zret rfl g38 ((hr31 _ _).trans rfl) dX7_readItems_95
  · refine wq_aload_n dX7_readItems_14 0 rfl rfl ?_
    refine g_7_0 ln_RX7_9 dX7_readItems_15 ?_
    refine wq_iconst dX7_readItems_18 ?_
    refine wq_cVi M_Src_is (R_Src_is Z 1 _) ob_6 rfl rfl (by decide) (by decide) (Nat.le_of_ble_eq_true rfl) ln_RX7_78 dX7_readItems_19 (fun gr39 x41 J40 => ?_)
    refine wq_if_eq 34 dX7_readItems_22 (by decide) rfl (fun c59 => ?_) (fun c59 => ?_)
    · refine wq_aload_n dX7_readItems_34 0 rfl rfl ?_
      refine g_7_0 ln_RX7_9 dX7_readItems_35 ?_
      refine wq_iconst dX7_readItems_38 ?_
      refine wq_cVi M_Src_is (R_Src_is Z 4 _) ob_6 rfl rfl (by decide) (by decide) (Nat.le_of_ble_eq_true rfl) ln_RX7_78 dX7_readItems_39 (fun gr42 x44 J43 => ?_)
      refine wq_if_eq 54 dX7_readItems_42 (by decide) rfl (fun c54 => ?_) (fun c54 => ?_)
      · refine wq_iload_n dX7_readItems_54 2 rfl rfl ?_
        refine wq_if_gt 69 dX7_readItems_55 (by decide) rfl (fun c49 => ?_) (fun c49 => ?_)
        · refine wq_iconst dX7_readItems_69 ?_
          refine wq_goto 74 dX7_readItems_70 (by decide) ?_
          exact wq_zret rfl (by decide) ((hr31 _ _).trans rfl) dX7_readItems_74
        · refine wq_aload_n dX7_readItems_58 0 rfl rfl ?_
          refine g_7_0 ln_RX7_9 dX7_readItems_59 ?_
          refine wq_iconst dX7_readItems_62 ?_
          refine wq_cVi M_Src_fail (R_Src_fail Z 1 _) ob_6 rfl rfl (by decide) (by decide) (Nat.le_of_ble_eq_true rfl) ln_RX7_63 dX7_readItems_63 (fun gr45 x47 J46 => ?_)
          refine wq_if_eq 73 dX7_readItems_66 (by decide) rfl (fun c48 => ?_) (fun c48 => ?_)
          · refine wq_iconst dX7_readItems_73 ?_
            exact wq_zret rfl (by decide) ((hr31 _ _).trans rfl) dX7_readItems_74
          · refine wq_iconst dX7_readItems_69 ?_
            refine wq_goto 74 dX7_readItems_70 (by decide) ?_
            exact wq_zret rfl (by decide) ((hr31 _ _).trans rfl) dX7_readItems_74
      · refine wq_aload_n dX7_readItems_45 0 rfl rfl ?_
        refine wq_aload_n dX7_readItems_46 1 rfl rfl ?_
        refine wq_cVi M_Set_readRule (R_Set_readRule Z a1 _) ob_7 rfl rfl (by decide) (by decide) (Nat.le_of_ble_eq_true rfl) ln_RX7_107 dX7_readItems_47 (fun gr50 x52 J51 => ?_)
        refine wq_istore_n (lv' := [(3, vi x52), (0, vr Z 7 0), (1, vr Z 2 a1), (2, vi s34)]) dX7_readItems_50 rfl (by decide) rfl ?_
        refine wq_goto 75 dX7_readItems_51 (by decide) ?_
        refine wq_iload_n dX7_readItems_75 0 rfl rfl ?_
        refine wq_if_ne 81 dX7_readItems_76 (by decide) rfl (fun c53 => ?_) (fun c53 => ?_)
        · refine wq_iconst dX7_readItems_79 ?_
          exact wq_zret rfl (by decide) ((hr31 _ _).trans rfl) dX7_readItems_80
        · refine wq_iinc (lv' := [(2, vi (s34 + 1)), (3, vi x52), (0, vr Z 7 0), (1, vr Z 2 a1)]) dX7_readItems_81 3 rfl (by decide) rfl ?_
          refine wq_goto 7 dX7_readItems_84 (by decide) ?_
          exact WQ.loc [2, 3, 0] rfl (bk29 _ _ _)
    · refine wq_aload_n dX7_readItems_25 0 rfl rfl ?_
      refine wq_aload_n dX7_readItems_26 1 rfl rfl ?_
      refine wq_cVi M_Set_readLetters (R_Set_readLetters Z a1 _) ob_7 rfl rfl (by decide) (by decide) (Nat.le_of_ble_eq_true rfl) ln_RX7_104 dX7_readItems_27 (fun gr55 x57 J56 => ?_)
      refine wq_istore_n (lv' := [(3, vi x57), (0, vr Z 7 0), (1, vr Z 2 a1), (2, vi s34)]) dX7_readItems_30 rfl (by decide) rfl ?_
      refine wq_goto 75 dX7_readItems_31 (by decide) ?_
      refine wq_iload_n dX7_readItems_75 0 rfl rfl ?_
      refine wq_if_ne 81 dX7_readItems_76 (by decide) rfl (fun c58 => ?_) (fun c58 => ?_)
      · refine wq_iconst dX7_readItems_79 ?_
        exact wq_zret rfl (by decide) ((hr31 _ _).trans rfl) dX7_readItems_80
      · refine wq_iinc (lv' := [(2, vi (s34 + 1)), (3, vi x57), (0, vr Z 7 0), (1, vr Z 2 a1)]) dX7_readItems_81 3 rfl (by decide) rfl ?_
        refine wq_goto 7 dX7_readItems_84 (by decide) ?_
        exact WQ.loc [2, 3, 0] rfl (bk29 _ _ _)

theorem M_Set_readStatement : MwV yX7_readStatement cX7_readStatement 2 (some .boolean) 0 := ⟨li_3 83 (by decide +kernel) (by decide +kernel), li_3 82 (by decide +kernel) (by decide +kernel), lw_in 9 (by decide +kernel) (by decide +kernel), li_1 8 (by decide +kernel) (by decide +kernel), by decide +kernel⟩
theorem ln_RX7_143 : Cond.methodLink RX7 143 yX7_readStatement ∈ lw_good := li_3 80 (by decide +kernel) (by decide +kernel)
noncomputable def f_Set_readStatements_w2  (s : Int) (I : Mem) : Option (((Int) ⊕ (Int)) × Mem) :=
if 600 < (w32 s) then
some (.inr (1), I)
else
bnd (f_Src_is 0 I) fun x3 J2 =>
if (w32 x3) = 0 then
bnd (f_Src_pass 3 J2) fun x6 J5 =>
if (w32 x6) = 0 then
some (.inr (0), J5)
else
bnd (f_Set_readStatement J5) fun x9 J8 =>
if (w32 x9) = 0 then
some (.inr (0), J8)
else
some (.inl (s + 1), J8)
else
some (.inr (1), J2)

noncomputable def f_Set_readStatements  (I : Mem) : Option ((Int) × Mem) :=
whl (f_Set_readStatements_w2) 0 I
set_option maxRecDepth 20000 in
theorem R_Set_readStatements (Z : ZT)  (I : Mem) (r : Int) (J : Mem) (hf : f_Set_readStatements I = some (r, J)) : Runs Z yX7_readStatements cX7_readStatements 2 (some .boolean) 8 [vr Z 7 0] I (some (vi r), J) := by
  refine Runs.of (rv := fun x => some (vi x)) (by decide +kernel) (Nat.le_of_ble_eq_true rfl) hf (fun gr => ?_)
  unfold f_Set_readStatements
  refine WQ.loc [0] (lv' := [(0, vr Z 7 0)]) rfl ?_
  refine wq_iconst dX7_readStatements_0 ?_
  refine wq_istore_n (lv' := [(1, vi 0), (0, vr Z 7 0)]) dX7_readStatements_1 rfl (by decide) rfl ?_
  refine WQ.loc [1, 0] (lv' := [(0, vr Z 7 0), (1, vi 0)]) rfl ?_
  refine wq_loop (fun s20 => [(0, vr Z 7 0), (1, vi s20)]) (fun κ14 bk15 hr17 gr19 s20 J18 => ?_) gr _ rfl
  unfold f_Set_readStatements_w2
  refine wq_iload_n dX7_readStatements_2 1 rfl rfl ?_
  refine wq_sipush dX7_readStatements_3 (by decide) ?_
  refine wq_icmp_gt 46 dX7_readStatements_6 (by decide) rfl rfl (fun c33 => ?_) (fun c33 => ?_)
  · refine wq_iconst dX7_readStatements_46 ?_
    exact wq_zret rfl (by decide) ((hr17 _ _).trans rfl) dX7_readStatements_47
  · refine wq_aload_n dX7_readStatements_9 0 rfl rfl ?_
    refine g_7_0 ln_RX7_9 dX7_readStatements_10 ?_
    refine wq_iconst dX7_readStatements_13 ?_
    refine wq_cVi M_Src_is (R_Src_is Z 0 _) ob_6 rfl rfl (by decide) (by decide) (Nat.le_of_ble_eq_true rfl) ln_RX7_78 dX7_readStatements_14 (fun gr21 x23 J22 => ?_)
    refine wq_if_ne 46 dX7_readStatements_17 (by decide) rfl (fun c32 => ?_) (fun c32 => ?_)
    · refine wq_aload_n dX7_readStatements_20 0 rfl rfl ?_
      refine g_7_0 ln_RX7_9 dX7_readStatements_21 ?_
      refine wq_iconst dX7_readStatements_24 ?_
      refine wq_cVi M_Src_pass (R_Src_pass Z 3 _) ob_6 rfl rfl (by decide) (by decide) (Nat.le_of_ble_eq_true rfl) ln_RX7_87 dX7_readStatements_25 (fun gr24 x26 J25 => ?_)
      refine wq_if_eq 38 dX7_readStatements_28 (by decide) rfl (fun c31 => ?_) (fun c31 => ?_)
      · refine wq_iconst dX7_readStatements_38 ?_
        exact wq_zret rfl (by decide) ((hr17 _ _).trans rfl) dX7_readStatements_39
      · refine wq_aload_n dX7_readStatements_31 0 rfl rfl ?_
        refine wq_cVi M_Set_readStatement (R_Set_readStatement Z _) ob_7 rfl rfl (by decide) (by decide) (Nat.le_of_ble_eq_true rfl) ln_RX7_143 dX7_readStatements_32 (fun gr27 x29 J28 => ?_)
        refine wq_if_ne 40 dX7_readStatements_35 (by decide) rfl (fun c30 => ?_) (fun c30 => ?_)
        · refine wq_iconst dX7_readStatements_38 ?_
          exact wq_zret rfl (by decide) ((hr17 _ _).trans rfl) dX7_readStatements_39
        · refine wq_iinc (lv' := [(1, vi (s20 + 1)), (0, vr Z 7 0)]) dX7_readStatements_40 1 rfl (by decide) rfl ?_
          refine wq_goto 2 dX7_readStatements_43 (by decide) ?_
          exact WQ.loc [1, 0] rfl (bk15 _ _ _)
    · refine wq_iconst dX7_readStatements_46 ?_
      exact wq_zret rfl (by decide) ((hr17 _ _).trans rfl) dX7_readStatements_47
end
section
theorem ln_RX6_90 : Cond.fieldLinkNest RX6 90 RX11 "orders" "Z" RX12 ∈ lw_nw := nw_in 2325 (by decide +kernel) (by decide +kernel)
theorem ln_RX6_48 : Cond.fieldLink RX6 48 RX6 "orders" "I" ∈ lw_good := li_2 9 (by decide +kernel) (by decide +kernel)
theorem ln_RX6_93 : Cond.fieldLink RX6 93 RX0 "$SwitchMap$PairRules$Word" "[I" ∈ lw_good := li_3 211 (by decide +kernel) (by decide +kernel)
theorem ln_RX6_98 : Cond.methodLink RX6 98 yWordOrd ∈ lw_good := li_3 212 (by decide +kernel) (by decide +kernel)
theorem M_Scr_readLetters : MwV yX6_readLetters cX6_readLetters 2 (some .boolean) 1 := ⟨li_3 216 (by decide +kernel) (by decide +kernel), li_3 215 (by decide +kernel) (by decide +kernel), lw_in 17 (by decide +kernel) (by decide +kernel), li_1 9 (by decide +kernel) (by decide +kernel), by decide +kernel⟩
theorem ln_RX6_102 : Cond.methodLink RX6 102 yX6_readLetters ∈ lw_good := li_3 213 (by decide +kernel) (by decide +kernel)
theorem M_Scr_readNumber : MwV yX6_readNumber cX6_readNumber 2 (some .boolean) 1 := ⟨li_3 224 (by decide +kernel) (by decide +kernel), li_3 223 (by decide +kernel) (by decide +kernel), lw_in 18 (by decide +kernel) (by decide +kernel), li_1 9 (by decide +kernel) (by decide +kernel), by decide +kernel⟩
theorem ln_RX6_105 : Cond.methodLink RX6 105 yX6_readNumber ∈ lw_good := li_3 221 (by decide +kernel) (by decide +kernel)
theorem M_Scr_readOpen : MwV yX6_readOpen cX6_readOpen 2 (some .boolean) 1 := ⟨li_3 230 (by decide +kernel) (by decide +kernel), li_3 229 (by decide +kernel) (by decide +kernel), lw_in 19 (by decide +kernel) (by decide +kernel), li_1 9 (by decide +kernel) (by decide +kernel), by decide +kernel⟩
theorem ln_RX6_108 : Cond.methodLink RX6 108 yX6_readOpen ∈ lw_good := li_3 227 (by decide +kernel) (by decide +kernel)
theorem ln_RX6_86 : Cond.methodLink RX6 86 yX8_word ∈ lw_good := li_3 209 (by decide +kernel) (by decide +kernel)
noncomputable def f_Scr_readOrder  (I : Mem) : Option ((Int) × Mem) :=
bnd (f_Src_word I) fun x3 J2 =>
if x3 < 15 then
if (w32 (wOrd x3)) = 0 then
bnd (f_Src_fail 1 J2) fun x106 J105 =>
if x106 = 0 ∨ x106 = 1 then
some (x106, J105)
else none
else
if (w32 (J2 8 0 9)) < 30 then
ltI (sI J2 8 0 9 ((J2 8 0 9) + 1)) fun J5 =>
bnd (f_Scr_addEntry x3 J5) fun x8 J7 =>
bnd (f_Src_advance J7) fun _ J10 =>
if 0 ≤ (w32 ((x3 : Nat) : Int)) ∧ (w32 ((x3 : Nat) : Int)) < 15 then
if (w32 (wSm.getD (w32 ((x3 : Nat) : Int)).toNat 0)) = 2 then
bnd (f_Src_pass 3 J10) fun x16 J15 =>
if x16 = 0 ∨ x16 = 1 then
some (x16, J15)
else none
else if (w32 (wSm.getD (w32 ((x3 : Nat) : Int)).toNat 0)) = 3 then
bnd (f_Scr_readLetters x8 J10) fun x21 J20 =>
if (w32 x21) = 0 then
some (0, J20)
else
bnd (f_Src_pass 3 J20) fun x24 J23 =>
if (w32 x24) = 0 then
some (0, J23)
else
some (1, J23)
else if (w32 (wSm.getD (w32 ((x3 : Nat) : Int)).toNat 0)) = 4 then
bnd (f_Scr_readNumber x8 J10) fun x30 J29 =>
if (w32 x30) = 0 then
some (0, J29)
else
bnd (f_Src_pass 3 J29) fun x33 J32 =>
if (w32 x33) = 0 then
some (0, J32)
else
some (1, J32)
else if (w32 (wSm.getD (w32 ((x3 : Nat) : Int)).toNat 0)) = 5 then
bnd (f_Scr_readLetters x8 J10) fun x39 J38 =>
if (w32 x39) = 0 then
some (0, J38)
else
bnd (f_Src_pass 3 J38) fun x42 J41 =>
if (w32 x42) = 0 then
some (0, J41)
else
some (1, J41)
else if (w32 (wSm.getD (w32 ((x3 : Nat) : Int)).toNat 0)) = 6 then
bnd (f_Scr_readNumber x8 J10) fun x48 J47 =>
if (w32 x48) = 0 then
some (0, J47)
else
bnd (f_Src_pass 3 J47) fun x51 J50 =>
if (w32 x51) = 0 then
some (0, J50)
else
some (1, J50)
else if (w32 (wSm.getD (w32 ((x3 : Nat) : Int)).toNat 0)) = 7 then
bnd (f_Scr_readNumber x8 J10) fun x57 J56 =>
if (w32 x57) = 0 then
some (0, J56)
else
bnd (f_Src_pass 3 J56) fun x60 J59 =>
if (w32 x60) = 0 then
some (0, J59)
else
some (1, J59)
else if (w32 (wSm.getD (w32 ((x3 : Nat) : Int)).toNat 0)) = 8 then
bnd (f_Scr_readNumber x8 J10) fun x66 J65 =>
if (w32 x66) = 0 then
some (0, J65)
else
bnd (f_Src_pass 3 J65) fun x69 J68 =>
if (w32 x69) = 0 then
some (0, J68)
else
some (1, J68)
else if (w32 (wSm.getD (w32 ((x3 : Nat) : Int)).toNat 0)) = 9 then
bnd (f_Scr_readNumber x8 J10) fun x75 J74 =>
if (w32 x75) = 0 then
some (0, J74)
else
bnd (f_Src_pass 3 J74) fun x78 J77 =>
if (w32 x78) = 0 then
some (0, J77)
else
some (1, J77)
else if (w32 (wSm.getD (w32 ((x3 : Nat) : Int)).toNat 0)) = 10 then
bnd (f_Scr_readNumber x8 J10) fun x84 J83 =>
if (w32 x84) = 0 then
some (0, J83)
else
bnd (f_Scr_readOpen x8 J83) fun x87 J86 =>
if (w32 x87) = 0 then
some (0, J86)
else
some (1, J86)
else bnd (f_Scr_readNumber x8 J10) fun x93 J92 =>
if (w32 x93) = 0 then
some (0, J92)
else
bnd (f_Src_pass 3 J92) fun x96 J95 =>
if (w32 x96) = 0 then
some (0, J95)
else
some (1, J95)
else none
else
bnd (f_Src_fail 5 J2) fun x101 J100 =>
if x101 = 0 ∨ x101 = 1 then
some (x101, J100)
else none
else none
set_option maxRecDepth 20000 in
theorem R_Scr_readOrder (Z : ZT)  (I : Mem) (r : Int) (J : Mem) (hf : f_Scr_readOrder I = some (r, J)) : Runs Z yX6_readOrder cX6_readOrder 3 (some .boolean) 7 [vr Z 8 0] I (some (vi r), J) := by
  refine Runs.of (rv := fun x => some (vi x)) (by decide +kernel) (Nat.le_of_ble_eq_true rfl) hf (fun gr => ?_)
  unfold f_Scr_readOrder
  refine WQ.loc [0] (lv' := [(0, vr Z 8 0)]) rfl ?_
  refine wq_aload_n dX6_readOrder_0 0 rfl rfl ?_
  refine g_8_0 ln_RX6_36 dX6_readOrder_1 ?_
  refine wq_cVr 11 M_Src_word (R_Src_word Z _) ob_6 rfl rfl (by decide) (by decide) (Nat.le_of_ble_eq_true rfl) ln_RX6_86 dX6_readOrder_4 (fun gr1 x3 J2 => ?_)
  refine wq_grd (fun g4 => ?_)
  refine wq_astore_n (lv' := [(1, vr Z 11 x3), (0, vr Z 8 0)]) dX6_readOrder_7 rfl (by decide) rfl ?_
  refine wq_aload_n dX6_readOrder_8 0 rfl rfl ?_
  refine wq_wordOrders g4 ln_RX6_90 dX6_readOrder_9 ?_
  refine wq_if_ne 24 dX6_readOrder_12 (by decide) rfl (fun c108 => ?_) (fun c108 => ?_)
  · refine wq_aload_n dX6_readOrder_15 1 rfl rfl ?_
    refine g_8_0 ln_RX6_36 dX6_readOrder_16 ?_
    refine wq_iconst dX6_readOrder_19 ?_
    refine wq_cVi M_Src_fail (R_Src_fail Z 1 _) ob_6 rfl rfl (by decide) (by decide) (Nat.le_of_ble_eq_true rfl) ln_RX6_70 dX6_readOrder_20 (fun gr104 x106 J105 => ?_)
    refine wq_grd (fun g107 => ?_)
    exact wq_zret rfl g107 rfl dX6_readOrder_23
  · refine wq_aload_n dX6_readOrder_24 1 rfl rfl ?_
    refine g_8_9 ln_RX6_48 dX6_readOrder_25 ?_
    refine wq_bipush dX6_readOrder_28 (by decide) ?_
    refine wq_icmp_lt 42 dX6_readOrder_30 (by decide) rfl rfl (fun c103 => ?_) (fun c103 => ?_)
    · refine wq_aload_n dX6_readOrder_42 1 rfl rfl ?_
      refine wq_dup dX6_readOrder_43 rfl ?_
      refine g_8_9 ln_RX6_48 dX6_readOrder_44 ?_
      refine wq_iconst dX6_readOrder_47 ?_
      refine wq_iadd dX6_readOrder_48 ?_
      refine p_8_9 ln_RX6_48 dX6_readOrder_49 (fun J5 => ?_)
      refine wq_aload_n dX6_readOrder_52 1 rfl rfl ?_
      refine wq_aload_n dX6_readOrder_53 0 rfl rfl ?_
      refine wq_cVi M_Scr_addEntry (R_Scr_addEntry Z x3 _) ob_8 rfl rfl (by decide) (by decide) (Nat.le_of_ble_eq_true rfl) ln_RX6_76 dX6_readOrder_54 (fun gr6 x8 J7 => ?_)
      refine wq_istore_n (lv' := [(2, vi x8), (1, vr Z 11 x3), (0, vr Z 8 0)]) dX6_readOrder_57 rfl (by decide) rfl ?_
      refine wq_aload_n dX6_readOrder_58 2 rfl rfl ?_
      refine g_8_0 ln_RX6_36 dX6_readOrder_59 ?_
      refine wq_cVv M_Src_advance (R_Src_advance Z _) ob_6 rfl rfl (by decide) (by decide) (Nat.le_of_ble_eq_true rfl) ln_RX6_80 dX6_readOrder_62 (fun gr9 _ J10 => ?_)
      refine wq_gets sta_smap ln_RX6_93 dX6_readOrder_65 ?_
      refine wq_aload_n dX6_readOrder_68 1 rfl rfl ?_
      refine wq_ordinal g4 (by decide) (Nat.le_of_ble_eq_true rfl) ln_RX6_98 dX6_readOrder_69 (fun gr12 => ?_)
      refine wq_grd (fun g13 => ?_)
      refine wq_smap rfl g13 dX6_readOrder_72 ?_
      refine WQ.split (fun c18 => ?_) (fun c18 => ?_)
      · refine wq_tin (n := 2) 124 dX6_readOrder_73 rfl c18 (by decide) (by decide) rfl (by decide) ?_
        refine wq_aload_n dX6_readOrder_124 2 rfl rfl ?_
        refine g_8_0 ln_RX6_36 dX6_readOrder_125 ?_
        refine wq_iconst dX6_readOrder_128 ?_
        refine wq_cVi M_Src_pass (R_Src_pass Z 3 _) ob_6 rfl rfl (by decide) (by decide) (Nat.le_of_ble_eq_true rfl) ln_RX6_83 dX6_readOrder_129 (fun gr14 x16 J15 => ?_)
        refine wq_grd (fun g17 => ?_)
        exact wq_zret rfl g17 rfl dX6_readOrder_132
      · skip
        refine WQ.split (fun c27 => ?_) (fun c27 => ?_)
        · refine wq_tin (n := 3) 133 dX6_readOrder_73 rfl c27 (by decide) (by decide) rfl (by decide) ?_
          refine wq_aload_n dX6_readOrder_133 2 rfl rfl ?_
          refine wq_iload_n dX6_readOrder_134 0 rfl rfl ?_
          refine wq_cVi M_Scr_readLetters (R_Scr_readLetters Z x8 _) ob_8 rfl rfl (by decide) (by decide) (Nat.le_of_ble_eq_true rfl) ln_RX6_102 dX6_readOrder_135 (fun gr19 x21 J20 => ?_)
          refine wq_if_eq 156 dX6_readOrder_138 (by decide) rfl (fun c26 => ?_) (fun c26 => ?_)
          · refine wq_iconst dX6_readOrder_156 ?_
            exact wq_zret rfl (by decide) rfl dX6_readOrder_157
          · refine wq_aload_n dX6_readOrder_141 2 rfl rfl ?_
            refine g_8_0 ln_RX6_36 dX6_readOrder_142 ?_
            refine wq_iconst dX6_readOrder_145 ?_
            refine wq_cVi M_Src_pass (R_Src_pass Z 3 _) ob_6 rfl rfl (by decide) (by decide) (Nat.le_of_ble_eq_true rfl) ln_RX6_83 dX6_readOrder_146 (fun gr22 x24 J23 => ?_)
            refine wq_if_eq 156 dX6_readOrder_149 (by decide) rfl (fun c25 => ?_) (fun c25 => ?_)
            · refine wq_iconst dX6_readOrder_156 ?_
              exact wq_zret rfl (by decide) rfl dX6_readOrder_157
            · refine wq_iconst dX6_readOrder_152 ?_
              refine wq_goto 157 dX6_readOrder_153 (by decide) ?_
              exact wq_zret rfl (by decide) rfl dX6_readOrder_157
        · skip
          refine WQ.split (fun c36 => ?_) (fun c36 => ?_)
          · refine wq_tin (n := 4) 180 dX6_readOrder_73 rfl c36 (by decide) (by decide) rfl (by decide) ?_
            refine wq_aload_n dX6_readOrder_180 2 rfl rfl ?_
            refine wq_iload_n dX6_readOrder_181 0 rfl rfl ?_
            refine wq_cVi M_Scr_readNumber (R_Scr_readNumber Z x8 _) ob_8 rfl rfl (by decide) (by decide) (Nat.le_of_ble_eq_true rfl) ln_RX6_105 dX6_readOrder_182 (fun gr28 x30 J29 => ?_)
            refine wq_if_eq 203 dX6_readOrder_185 (by decide) rfl (fun c35 => ?_) (fun c35 => ?_)
            · refine wq_iconst dX6_readOrder_203 ?_
              exact wq_zret rfl (by decide) rfl dX6_readOrder_204
            · refine wq_aload_n dX6_readOrder_188 2 rfl rfl ?_
              refine g_8_0 ln_RX6_36 dX6_readOrder_189 ?_
              refine wq_iconst dX6_readOrder_192 ?_
              refine wq_cVi M_Src_pass (R_Src_pass Z 3 _) ob_6 rfl rfl (by decide) (by decide) (Nat.le_of_ble_eq_true rfl) ln_RX6_83 dX6_readOrder_193 (fun gr31 x33 J32 => ?_)
              refine wq_if_eq 203 dX6_readOrder_196 (by decide) rfl (fun c34 => ?_) (fun c34 => ?_)
              · refine wq_iconst dX6_readOrder_203 ?_
                exact wq_zret rfl (by decide) rfl dX6_readOrder_204
              · refine wq_iconst dX6_readOrder_199 ?_
                refine wq_goto 204 dX6_readOrder_200 (by decide) ?_
                exact wq_zret rfl (by decide) rfl dX6_readOrder_204
          · skip
            refine WQ.split (fun c45 => ?_) (fun c45 => ?_)
            · refine wq_tin (n := 5) 133 dX6_readOrder_73 rfl c45 (by decide) (by decide) rfl (by decide) ?_
              refine wq_aload_n dX6_readOrder_133 2 rfl rfl ?_
              refine wq_iload_n dX6_readOrder_134 0 rfl rfl ?_
              refine wq_cVi M_Scr_readLetters (R_Scr_readLetters Z x8 _) ob_8 rfl rfl (by decide) (by decide) (Nat.le_of_ble_eq_true rfl) ln_RX6_102 dX6_readOrder_135 (fun gr37 x39 J38 => ?_)
              refine wq_if_eq 156 dX6_readOrder_138 (by decide) rfl (fun c44 => ?_) (fun c44 => ?_)
              · refine wq_iconst dX6_readOrder_156 ?_
                exact wq_zret rfl (by decide) rfl dX6_readOrder_157
              · refine wq_aload_n dX6_readOrder_141 2 rfl rfl ?_
                refine g_8_0 ln_RX6_36 dX6_readOrder_142 ?_
                refine wq_iconst dX6_readOrder_145 ?_
                refine wq_cVi M_Src_pass (R_Src_pass Z 3 _) ob_6 rfl rfl (by decide) (by decide) (Nat.le_of_ble_eq_true rfl) ln_RX6_83 dX6_readOrder_146 (fun gr40 x42 J41 => ?_)
                refine wq_if_eq 156 dX6_readOrder_149 (by decide) rfl (fun c43 => ?_) (fun c43 => ?_)
                · refine wq_iconst dX6_readOrder_156 ?_
                  exact wq_zret rfl (by decide) rfl dX6_readOrder_157
                · refine wq_iconst dX6_readOrder_152 ?_
                  refine wq_goto 157 dX6_readOrder_153 (by decide) ?_
                  exact wq_zret rfl (by decide) rfl dX6_readOrder_157
            · skip
              refine WQ.split (fun c54 => ?_) (fun c54 => ?_)
              · refine wq_tin (n := 6) 180 dX6_readOrder_73 rfl c54 (by decide) (by decide) rfl (by decide) ?_
                refine wq_aload_n dX6_readOrder_180 2 rfl rfl ?_
                refine wq_iload_n dX6_readOrder_181 0 rfl rfl ?_
                refine wq_cVi M_Scr_readNumber (R_Scr_readNumber Z x8 _) ob_8 rfl rfl (by decide) (by decide) (Nat.le_of_ble_eq_true rfl) ln_RX6_105 dX6_readOrder_182 (fun gr46 x48 J47 => ?_)
                refine wq_if_eq 203 dX6_readOrder_185 (by decide) rfl (fun c53 => ?_) (fun c53 => ?_)
                · refine wq_iconst dX6_readOrder_203 ?_
                  exact wq_zret rfl (by decide) rfl dX6_readOrder_204
                · refine wq_aload_n dX6_readOrder_188 2 rfl rfl ?_
                  refine g_8_0 ln_RX6_36 dX6_readOrder_189 ?_
                  refine wq_iconst dX6_readOrder_192 ?_
                  refine wq_cVi M_Src_pass (R_Src_pass Z 3 _) ob_6 rfl rfl (by decide) (by decide) (Nat.le_of_ble_eq_true rfl) ln_RX6_83 dX6_readOrder_193 (fun gr49 x51 J50 => ?_)
                  refine wq_if_eq 203 dX6_readOrder_196 (by decide) rfl (fun c52 => ?_) (fun c52 => ?_)
                  · refine wq_iconst dX6_readOrder_203 ?_
                    exact wq_zret rfl (by decide) rfl dX6_readOrder_204
                  · refine wq_iconst dX6_readOrder_199 ?_
                    refine wq_goto 204 dX6_readOrder_200 (by decide) ?_
                    exact wq_zret rfl (by decide) rfl dX6_readOrder_204
              · skip
                refine WQ.split (fun c63 => ?_) (fun c63 => ?_)
                · refine wq_tin (n := 7) 180 dX6_readOrder_73 rfl c63 (by decide) (by decide) rfl (by decide) ?_
                  refine wq_aload_n dX6_readOrder_180 2 rfl rfl ?_
                  refine wq_iload_n dX6_readOrder_181 0 rfl rfl ?_
                  refine wq_cVi M_Scr_readNumber (R_Scr_readNumber Z x8 _) ob_8 rfl rfl (by decide) (by decide) (Nat.le_of_ble_eq_true rfl) ln_RX6_105 dX6_readOrder_182 (fun gr55 x57 J56 => ?_)
                  refine wq_if_eq 203 dX6_readOrder_185 (by decide) rfl (fun c62 => ?_) (fun c62 => ?_)
                  · refine wq_iconst dX6_readOrder_203 ?_
                    exact wq_zret rfl (by decide) rfl dX6_readOrder_204
                  · refine wq_aload_n dX6_readOrder_188 2 rfl rfl ?_
                    refine g_8_0 ln_RX6_36 dX6_readOrder_189 ?_
                    refine wq_iconst dX6_readOrder_192 ?_
                    refine wq_cVi M_Src_pass (R_Src_pass Z 3 _) ob_6 rfl rfl (by decide) (by decide) (Nat.le_of_ble_eq_true rfl) ln_RX6_83 dX6_readOrder_193 (fun gr58 x60 J59 => ?_)
                    refine wq_if_eq 203 dX6_readOrder_196 (by decide) rfl (fun c61 => ?_) (fun c61 => ?_)
                    · refine wq_iconst dX6_readOrder_203 ?_
                      exact wq_zret rfl (by decide) rfl dX6_readOrder_204
                    · refine wq_iconst dX6_readOrder_199 ?_
                      refine wq_goto 204 dX6_readOrder_200 (by decide) ?_
                      exact wq_zret rfl (by decide) rfl dX6_readOrder_204
                · skip
                  refine WQ.split (fun c72 => ?_) (fun c72 => ?_)
                  · refine wq_tin (n := 8) 180 dX6_readOrder_73 rfl c72 (by decide) (by decide) rfl (by decide) ?_
                    refine wq_aload_n dX6_readOrder_180 2 rfl rfl ?_
                    refine wq_iload_n dX6_readOrder_181 0 rfl rfl ?_
                    refine wq_cVi M_Scr_readNumber (R_Scr_readNumber Z x8 _) ob_8 rfl rfl (by decide) (by decide) (Nat.le_of_ble_eq_true rfl) ln_RX6_105 dX6_readOrder_182 (fun gr64 x66 J65 => ?_)
                    refine wq_if_eq 203 dX6_readOrder_185 (by decide) rfl (fun c71 => ?_) (fun c71 => ?_)
                    · refine wq_iconst dX6_readOrder_203 ?_
                      exact wq_zret rfl (by decide) rfl dX6_readOrder_204
                    · refine wq_aload_n dX6_readOrder_188 2 rfl rfl ?_
                      refine g_8_0 ln_RX6_36 dX6_readOrder_189 ?_
                      refine wq_iconst dX6_readOrder_192 ?_
                      refine wq_cVi M_Src_pass (R_Src_pass Z 3 _) ob_6 rfl rfl (by decide) (by decide) (Nat.le_of_ble_eq_true rfl) ln_RX6_83 dX6_readOrder_193 (fun gr67 x69 J68 => ?_)
                      refine wq_if_eq 203 dX6_readOrder_196 (by decide) rfl (fun c70 => ?_) (fun c70 => ?_)
                      · refine wq_iconst dX6_readOrder_203 ?_
                        exact wq_zret rfl (by decide) rfl dX6_readOrder_204
                      · refine wq_iconst dX6_readOrder_199 ?_
                        refine wq_goto 204 dX6_readOrder_200 (by decide) ?_
                        exact wq_zret rfl (by decide) rfl dX6_readOrder_204
                  · skip
                    refine WQ.split (fun c81 => ?_) (fun c81 => ?_)
                    · refine wq_tin (n := 9) 180 dX6_readOrder_73 rfl c81 (by decide) (by decide) rfl (by decide) ?_
                      refine wq_aload_n dX6_readOrder_180 2 rfl rfl ?_
                      refine wq_iload_n dX6_readOrder_181 0 rfl rfl ?_
                      refine wq_cVi M_Scr_readNumber (R_Scr_readNumber Z x8 _) ob_8 rfl rfl (by decide) (by decide) (Nat.le_of_ble_eq_true rfl) ln_RX6_105 dX6_readOrder_182 (fun gr73 x75 J74 => ?_)
                      refine wq_if_eq 203 dX6_readOrder_185 (by decide) rfl (fun c80 => ?_) (fun c80 => ?_)
                      · refine wq_iconst dX6_readOrder_203 ?_
                        exact wq_zret rfl (by decide) rfl dX6_readOrder_204
                      · refine wq_aload_n dX6_readOrder_188 2 rfl rfl ?_
                        refine g_8_0 ln_RX6_36 dX6_readOrder_189 ?_
                        refine wq_iconst dX6_readOrder_192 ?_
                        refine wq_cVi M_Src_pass (R_Src_pass Z 3 _) ob_6 rfl rfl (by decide) (by decide) (Nat.le_of_ble_eq_true rfl) ln_RX6_83 dX6_readOrder_193 (fun gr76 x78 J77 => ?_)
                        refine wq_if_eq 203 dX6_readOrder_196 (by decide) rfl (fun c79 => ?_) (fun c79 => ?_)
                        · refine wq_iconst dX6_readOrder_203 ?_
                          exact wq_zret rfl (by decide) rfl dX6_readOrder_204
                        · refine wq_iconst dX6_readOrder_199 ?_
                          refine wq_goto 204 dX6_readOrder_200 (by decide) ?_
                          exact wq_zret rfl (by decide) rfl dX6_readOrder_204
                    · skip
                      refine WQ.split (fun c90 => ?_) (fun c90 => ?_)
                      · refine wq_tin (n := 10) 158 dX6_readOrder_73 rfl c90 (by decide) (by decide) rfl (by decide) ?_
                        refine wq_aload_n dX6_readOrder_158 2 rfl rfl ?_
                        refine wq_iload_n dX6_readOrder_159 0 rfl rfl ?_
                        refine wq_cVi M_Scr_readNumber (R_Scr_readNumber Z x8 _) ob_8 rfl rfl (by decide) (by decide) (Nat.le_of_ble_eq_true rfl) ln_RX6_105 dX6_readOrder_160 (fun gr82 x84 J83 => ?_)
                        refine wq_if_eq 178 dX6_readOrder_163 (by decide) rfl (fun c89 => ?_) (fun c89 => ?_)
                        · refine wq_iconst dX6_readOrder_178 ?_
                          exact wq_zret rfl (by decide) rfl dX6_readOrder_179
                        · refine wq_aload_n dX6_readOrder_166 2 rfl rfl ?_
                          refine wq_iload_n dX6_readOrder_167 0 rfl rfl ?_
                          refine wq_cVi M_Scr_readOpen (R_Scr_readOpen Z x8 _) ob_8 rfl rfl (by decide) (by decide) (Nat.le_of_ble_eq_true rfl) ln_RX6_108 dX6_readOrder_168 (fun gr85 x87 J86 => ?_)
                          refine wq_if_eq 178 dX6_readOrder_171 (by decide) rfl (fun c88 => ?_) (fun c88 => ?_)
                          · refine wq_iconst dX6_readOrder_178 ?_
                            exact wq_zret rfl (by decide) rfl dX6_readOrder_179
                          · refine wq_iconst dX6_readOrder_174 ?_
                            refine wq_goto 179 dX6_readOrder_175 (by decide) ?_
                            exact wq_zret rfl (by decide) rfl dX6_readOrder_179
                      · skip
                        refine wq_tout 180 dX6_readOrder_73 rfl (by omega) (by decide) ?_
                        refine wq_aload_n dX6_readOrder_180 2 rfl rfl ?_
                        refine wq_iload_n dX6_readOrder_181 0 rfl rfl ?_
                        refine wq_cVi M_Scr_readNumber (R_Scr_readNumber Z x8 _) ob_8 rfl rfl (by decide) (by decide) (Nat.le_of_ble_eq_true rfl) ln_RX6_105 dX6_readOrder_182 (fun gr91 x93 J92 => ?_)
                        refine wq_if_eq 203 dX6_readOrder_185 (by decide) rfl (fun c98 => ?_) (fun c98 => ?_)
                        · refine wq_iconst dX6_readOrder_203 ?_
                          exact wq_zret rfl (by decide) rfl dX6_readOrder_204
                        · refine wq_aload_n dX6_readOrder_188 2 rfl rfl ?_
                          refine g_8_0 ln_RX6_36 dX6_readOrder_189 ?_
                          refine wq_iconst dX6_readOrder_192 ?_
                          refine wq_cVi M_Src_pass (R_Src_pass Z 3 _) ob_6 rfl rfl (by decide) (by decide) (Nat.le_of_ble_eq_true rfl) ln_RX6_83 dX6_readOrder_193 (fun gr94 x96 J95 => ?_)
                          refine wq_if_eq 203 dX6_readOrder_196 (by decide) rfl (fun c97 => ?_) (fun c97 => ?_)
                          · refine wq_iconst dX6_readOrder_203 ?_
                            exact wq_zret rfl (by decide) rfl dX6_readOrder_204
                          · refine wq_iconst dX6_readOrder_199 ?_
                            refine wq_goto 204 dX6_readOrder_200 (by decide) ?_
                            exact wq_zret rfl (by decide) rfl dX6_readOrder_204
    · refine wq_aload_n dX6_readOrder_33 1 rfl rfl ?_
      refine g_8_0 ln_RX6_36 dX6_readOrder_34 ?_
      refine wq_iconst dX6_readOrder_37 ?_
      refine wq_cVi M_Src_fail (R_Src_fail Z 5 _) ob_6 rfl rfl (by decide) (by decide) (Nat.le_of_ble_eq_true rfl) ln_RX6_70 dX6_readOrder_38 (fun gr99 x101 J100 => ?_)
      refine wq_grd (fun g102 => ?_)
      exact wq_zret rfl g102 rfl dX6_readOrder_41

theorem ln_RX4_19 : Cond.methodLink RX4 19 yX1_startRow ∈ lw_good := li_5 103 (by decide +kernel) (by decide +kernel)
theorem M_Rep_putRow : MwV yX4_putRow cX4_putRow 4 (none) 1 := ⟨li_5 107 (by decide +kernel) (by decide +kernel), li_5 106 (by decide +kernel) (by decide +kernel), lw_in 41 (by decide +kernel) (by decide +kernel), li_1 13 (by decide +kernel) (by decide +kernel), by decide +kernel⟩
theorem ln_RX4_25 : Cond.methodLink RX4 25 yX4_putRow ∈ lw_good := li_5 104 (by decide +kernel) (by decide +kernel)
theorem ln_RX4_40 : Cond.methodLink RX4 40 yX1_body ∈ lw_good := li_5 121 (by decide +kernel) (by decide +kernel)
theorem ln_RX4_29 : Cond.methodLink RX4 29 yX1_hasRule ∈ lw_good := li_5 120 (by decide +kernel) (by decide +kernel)
noncomputable def f_Rep_writeOf_w15 (v1 : Nat) (s : Int) (I : Mem) : Option (((Int) ⊕ (Unit)) × Mem) :=
if (w32 s) < 40 then
bnd (f_G_hasRule v1 s I) fun x8 J7 =>
if (w32 x8) = 0 then
some (.inl (s + 1), J7)
else
bnd (f_Rep_put 32 J7) fun _ J10 =>
bnd (f_Rep_putNumber s J10) fun _ J13 =>
bnd (f_Rep_put 61 J13) fun _ J16 =>
bnd (f_G_body v1 s J16) fun x20 J19 =>
if x20 < 516 then
bnd (f_Rep_putRow x20 J19) fun _ J23 =>
some (.inl (s + 1), J23)
else none
else
some (.inr (), I)

noncomputable def f_Rep_writeOf (a1 : Nat) (I : Mem) : Option ((Unit) × Mem) :=
if a1 < 12 then
ltI (sI I 10 0 1 0) fun J1 =>
bnd (f_Rep_putRow (43 * a1) J1) fun _ J4 =>
bnd (whl (f_Rep_writeOf_w15 a1) 0 J4) fun r55 J56 =>
some ((), J56)
else none
set_option maxRecDepth 20000 in
theorem R_Rep_writeOf (Z : ZT) (a1 : Nat) (I : Mem) (r : Unit) (J : Mem) (hf : f_Rep_writeOf a1 I = some (r, J)) : Runs Z yX4_writeOf cX4_writeOf 3 (none) 4 [vr Z 10 0, vr Z 1 a1] I (none, J) := by
  refine Runs.of (rv := fun _ => none) (by decide +kernel) (Nat.le_of_ble_eq_true rfl) hf (fun gr => ?_)
  unfold f_Rep_writeOf
  refine WQ.loc [0, 1] (lv' := [(0, vr Z 10 0), (1, vr Z 1 a1)]) rfl ?_
  refine wq_grd (fun h1 => ?_)
  refine wq_aload_n dX4_writeOf_0 0 rfl rfl ?_
  refine wq_iconst dX4_writeOf_1 ?_
  refine p_10_1 ln_RX4_15 dX4_writeOf_2 (fun J1 => ?_)
  refine wq_aload_n dX4_writeOf_5 0 rfl rfl ?_
  refine wq_aload_n dX4_writeOf_6 1 rfl rfl ?_
  refine wq_pV (v := vr Z 2 (43 * a1)) M_G_startRow (R_G_startRow Z a1 _ _ _ (if_pos h1)) (ob_1 h1) rfl rfl (by decide) (by decide) (Nat.le_of_ble_eq_true rfl) ln_RX4_19 dX4_writeOf_7 (fun gr2 => ?_)
  refine wq_cVv M_Rep_putRow (R_Rep_putRow Z (43 * a1) _) ob_10 rfl rfl (by decide) (by decide) (Nat.le_of_ble_eq_true rfl) ln_RX4_25 dX4_writeOf_10 (fun gr3 _ J4 => ?_)
  refine wq_iconst dX4_writeOf_13 ?_
  refine wq_istore_n (lv' := [(2, vi 0), (0, vr Z 10 0), (1, vr Z 1 a1)]) dX4_writeOf_14 rfl (by decide) rfl ?_
  refine WQ.loc [1, 2, 0] (lv' := [(0, vr Z 10 0), (1, vr Z 1 a1), (2, vi 0)]) rfl ?_
  refine wq_loopS (fun s33 => [(0, vr Z 10 0), (1, vr Z 1 a1), (2, vi s33)]) 61 (fun _ => []) (fun κ27 bk28 ex29 gr32 s33 J31 => ?_) (fun gr57 r55 J56 => ?_) gr3 _ rfl
  · unfold f_Rep_writeOf_w15
    refine wq_iload_n dX4_writeOf_15 2 rfl rfl ?_
    refine wq_bipush dX4_writeOf_16 (by decide) ?_
    refine wq_icmp_ge 61 dX4_writeOf_18 (by decide) rfl rfl (fun c54 => ?_) (fun c54 => ?_)
    · refine wq_aload_n dX4_writeOf_21 1 rfl rfl ?_
      refine wq_iload_n dX4_writeOf_22 2 rfl rfl ?_
      refine wq_cVi M_G_hasRule (R_G_hasRule Z a1 s33 _) (ob_1 h1) rfl rfl (by decide) (by decide) (Nat.le_of_ble_eq_true rfl) ln_RX4_29 dX4_writeOf_23 (fun gr34 x36 J35 => ?_)
      refine wq_if_eq 55 dX4_writeOf_26 (by decide) rfl (fun c53 => ?_) (fun c53 => ?_)
      · refine wq_iinc (lv' := [(2, vi (s33 + 1)), (0, vr Z 10 0), (1, vr Z 1 a1)]) dX4_writeOf_55 2 rfl (by decide) rfl ?_
        refine wq_goto 15 dX4_writeOf_58 (by decide) ?_
        exact WQ.loc [1, 2, 0] rfl (bk28 _ _ _)
      · refine wq_aload_n dX4_writeOf_29 0 rfl rfl ?_
        refine wq_bipush dX4_writeOf_30 (by decide) ?_
        refine wq_cVv M_Rep_put (R_Rep_put Z 32 _) ob_10 rfl rfl (by decide) (by decide) (Nat.le_of_ble_eq_true rfl) ln_RX4_33 dX4_writeOf_32 (fun gr37 _ J38 => ?_)
        refine wq_aload_n dX4_writeOf_35 0 rfl rfl ?_
        refine wq_iload_n dX4_writeOf_36 2 rfl rfl ?_
        refine wq_cVv M_Rep_putNumber (R_Rep_putNumber Z s33 _) ob_10 rfl rfl (by decide) (by decide) (Nat.le_of_ble_eq_true rfl) ln_RX4_37 dX4_writeOf_37 (fun gr40 _ J41 => ?_)
        refine wq_aload_n dX4_writeOf_40 0 rfl rfl ?_
        refine wq_bipush dX4_writeOf_41 (by decide) ?_
        refine wq_cVv M_Rep_put (R_Rep_put Z 61 _) ob_10 rfl rfl (by decide) (by decide) (Nat.le_of_ble_eq_true rfl) ln_RX4_33 dX4_writeOf_43 (fun gr43 _ J44 => ?_)
        refine wq_aload_n dX4_writeOf_46 0 rfl rfl ?_
        refine wq_aload_n dX4_writeOf_47 1 rfl rfl ?_
        refine wq_iload_n dX4_writeOf_48 2 rfl rfl ?_
        refine wq_cVr 2 M_G_body (R_G_body Z a1 s33 _) (ob_1 h1) rfl rfl (by decide) (by decide) (Nat.le_of_ble_eq_true rfl) ln_RX4_40 dX4_writeOf_49 (fun gr46 x48 J47 => ?_)
        refine wq_grd (fun g49 => ?_)
        refine wq_cVv M_Rep_putRow (R_Rep_putRow Z x48 _) ob_10 rfl rfl (by decide) (by decide) (Nat.le_of_ble_eq_true rfl) ln_RX4_25 dX4_writeOf_52 (fun gr50 _ J51 => ?_)
        refine wq_iinc (lv' := [(2, vi (s33 + 1)), (0, vr Z 10 0), (1, vr Z 1 a1)]) dX4_writeOf_55 2 rfl (by decide) rfl ?_
        refine wq_goto 15 dX4_writeOf_58 (by decide) ?_
        exact WQ.loc [1, 2, 0] rfl (bk28 _ _ _)
    · exact WQ.loc [] rfl (ex29 _ _ _)
  · exact wq_vret rfl rfl dX4_writeOf_61

theorem ln_RX12_271 : Cond.constant RX12 271 (Int32.ofInt 1000000) ∈ lw_good := li_5 68 (by decide +kernel) (by decide +kernel)
theorem M_Stp_makeSteps : MwV yX9_makeSteps cX9_makeSteps 5 (some .int) 2 := ⟨li_4 33 (by decide +kernel) (by decide +kernel), li_4 31 (by decide +kernel) (by decide +kernel), li_4 32 (by decide +kernel) (by decide +kernel), li_1 4 (by decide +kernel) (by decide +kernel), by decide +kernel⟩
theorem ln_RX12_272 : Cond.methodLink RX12 272 yX9_makeSteps ∈ lw_good := li_4 30 (by decide +kernel) (by decide +kernel)
noncomputable def f_PR_stepsLeft  (I : Mem) : Option ((Int) × Mem) :=
bnd (f_G_takeFrom 1 0 I) fun _ J2 =>
bnd (f_Stp_makeSteps 1 1000000 J2) fun x6 J5 =>
some (x6, J5)
set_option maxRecDepth 20000 in
theorem R_PR_stepsLeft (Z : ZT)  (I : Mem) (r : Int) (J : Mem) (hf : f_PR_stepsLeft I = some (r, J)) : Runs Z yX12_stepsLeft cX12_stepsLeft 1 (some .int) 6 [vr Z 0 0] I (some (vi r), J) := by
  refine Runs.of (rv := fun x => some (vi x)) (by decide +kernel) (Nat.le_of_ble_eq_true rfl) hf (fun gr => ?_)
  unfold f_PR_stepsLeft
  refine WQ.loc [0] (lv' := [(0, vr Z 0 0)]) rfl ?_
  refine wq_aload_n dX12_stepsLeft_0 0 rfl rfl ?_
  refine g_0_1 ln_RX12_16 dX12_stepsLeft_1 ?_
  refine wq_aload_n dX12_stepsLeft_4 0 rfl rfl ?_
  refine g_0_0 ln_RX12_12 dX12_stepsLeft_5 ?_
  refine wq_cVv M_G_takeFrom (R_G_takeFrom Z 1 0 _) (ob_1 (by decide)) rfl rfl (by decide) (by decide) (Nat.le_of_ble_eq_true rfl) ln_RX12_113 dX12_stepsLeft_8 (fun gr1 _ J2 => ?_)
  refine wq_aload_n dX12_stepsLeft_11 0 rfl rfl ?_
  refine g_0_2 ln_RX12_22 dX12_stepsLeft_12 ?_
  refine wq_aload_n dX12_stepsLeft_15 0 rfl rfl ?_
  refine g_0_1 ln_RX12_16 dX12_stepsLeft_16 ?_
  refine wq_ldc_w ln_RX12_271 dX12_stepsLeft_19 ?_
  refine wq_cVi M_Stp_makeSteps (R_Stp_makeSteps Z 1 1000000 _) ob_3 rfl rfl (by decide) (by decide) (Nat.le_of_ble_eq_true rfl) ln_RX12_272 dX12_stepsLeft_22 (fun gr4 x6 J5 => ?_)
  exact wq_iret rfl rfl dX12_stepsLeft_25

noncomputable def f_PR_sizeIn (a1 : Int) (I : Mem) : Option ((Int ⊕ String) × Mem) :=
if (w32 a1) < 0 then
ltI (thrw I) fun J1 =>
some (.inr xIA, J1)
else
if 100 < (w32 a1) then
ltI (thrw I) fun J11 =>
some (.inr xIA, J11)
else
bnd (f_G_takeFrom 1 0 I) fun _ J3 =>
bnd (f_Stp_makeSteps 1 a1 J3) fun x7 J6 =>
bnd (f_G_totalSize 1 J6) fun x10 J9 =>
some (.inl x10, J9)
set_option maxRecDepth 20000 in
theorem R_PR_sizeIn (Z : ZT) (a1 : Int) (I : Mem) : RX Z yX12_sizeIn cX12_sizeIn 2 (some .int) 6 [vr Z 0 0, vi a1] I (fun x => some (vi x)) (f_PR_sizeIn a1 I) := by
  refine RX.of (by decide +kernel) (Nat.le_of_ble_eq_true rfl) (fun gr => ?_)
  unfold f_PR_sizeIn
  refine WQ.loc [0, 1] (lv' := [(0, vr Z 0 0), (1, vi a1)]) rfl ?_
  refine wq_iload_n dX12_sizeIn_0 1 rfl rfl ?_
  refine wq_if_lt 10 dX12_sizeIn_1 (by decide) rfl (fun c13 => ?_) (fun c13 => ?_)
  · exact wq_throw thr_IA (Nat.le_of_ble_eq_true rfl) (by decide +kernel) rfl dX12_sizeIn_10 dX12_sizeIn_13 dX12_sizeIn_14 dX12_sizeIn_17
  · refine wq_iload_n dX12_sizeIn_4 1 rfl rfl ?_
    refine wq_bipush dX12_sizeIn_5 (by decide) ?_
    refine wq_icmp_le 18 dX12_sizeIn_7 (by decide) rfl rfl (fun c12 => ?_) (fun c12 => ?_)
    · exact wq_throw thr_IA (Nat.le_of_ble_eq_true rfl) (by decide +kernel) rfl dX12_sizeIn_10 dX12_sizeIn_13 dX12_sizeIn_14 dX12_sizeIn_17
    · refine wq_aload_n dX12_sizeIn_18 0 rfl rfl ?_
      refine g_0_1 ln_RX12_16 dX12_sizeIn_19 ?_
      refine wq_aload_n dX12_sizeIn_22 0 rfl rfl ?_
      refine g_0_0 ln_RX12_12 dX12_sizeIn_23 ?_
      refine wq_cVv M_G_takeFrom (R_G_takeFrom Z 1 0 _) (ob_1 (by decide)) rfl rfl (by decide) (by decide) (Nat.le_of_ble_eq_true rfl) ln_RX12_113 dX12_sizeIn_26 (fun gr2 _ J3 => ?_)
      refine wq_aload_n dX12_sizeIn_29 0 rfl rfl ?_
      refine g_0_2 ln_RX12_22 dX12_sizeIn_30 ?_
      refine wq_aload_n dX12_sizeIn_33 0 rfl rfl ?_
      refine g_0_1 ln_RX12_16 dX12_sizeIn_34 ?_
      refine wq_iload_n dX12_sizeIn_37 1 rfl rfl ?_
      refine wq_cVi M_Stp_makeSteps (R_Stp_makeSteps Z 1 a1 _) ob_3 rfl rfl (by decide) (by decide) (Nat.le_of_ble_eq_true rfl) ln_RX12_272 dX12_sizeIn_38 (fun gr5 x7 J6 => ?_)
      refine wq_pop dX12_sizeIn_41 rfl ?_
      refine wq_aload_n dX12_sizeIn_42 0 rfl rfl ?_
      refine g_0_1 ln_RX12_16 dX12_sizeIn_43 ?_
      refine wq_cVi M_G_totalSize (R_G_totalSize Z 1 _) (ob_1 (by decide)) rfl rfl (by decide) (by decide) (Nat.le_of_ble_eq_true rfl) ln_RX12_148 dX12_sizeIn_46 (fun gr8 x10 J9 => ?_)
      exact wq_iret rfl rfl dX12_sizeIn_49

noncomputable def f_PR_step (a1 : Int) (I : Mem) : Option ((Int ⊕ String) × Mem) :=
if (w32 a1) < 1 then
ltI (thrw I) fun J1 =>
some (.inr xIA, J1)
else
if 50 < (w32 a1) then
ltI (thrw I) fun J8 =>
some (.inr xIA, J8)
else
bnd (f_His_remember 0 I) fun _ J3 =>
bnd (f_Stp_makeSteps 0 a1 J3) fun x7 J6 =>
some (.inl x7, J6)
set_option maxRecDepth 20000 in
theorem R_PR_step (Z : ZT) (a1 : Int) (I : Mem) : RX Z yX12_step cX12_step 2 (some .int) 6 [vr Z 0 0, vi a1] I (fun x => some (vi x)) (f_PR_step a1 I) := by
  refine RX.of (by decide +kernel) (Nat.le_of_ble_eq_true rfl) (fun gr => ?_)
  unfold f_PR_step
  refine WQ.loc [0, 1] (lv' := [(0, vr Z 0 0), (1, vi a1)]) rfl ?_
  refine wq_iload_n dX12_step_0 1 rfl rfl ?_
  refine wq_iconst dX12_step_1 ?_
  refine wq_icmp_lt 11 dX12_step_2 (by decide) rfl rfl (fun c10 => ?_) (fun c10 => ?_)
  · exact wq_throw thr_IA (Nat.le_of_ble_eq_true rfl) (by decide +kernel) rfl dX12_step_11 dX12_step_14 dX12_step_15 dX12_step_18
  · refine wq_iload_n dX12_step_5 1 rfl rfl ?_
    refine wq_bipush dX12_step_6 (by decide) ?_
    refine wq_icmp_le 19 dX12_step_8 (by decide) rfl rfl (fun c9 => ?_) (fun c9 => ?_)
    · exact wq_throw thr_IA (Nat.le_of_ble_eq_true rfl) (by decide +kernel) rfl dX12_step_11 dX12_step_14 dX12_step_15 dX12_step_18
    · refine wq_aload_n dX12_step_19 0 rfl rfl ?_
      refine g_0_7 ln_RX12_61 dX12_step_20 ?_
      refine wq_aload_n dX12_step_23 0 rfl rfl ?_
      refine g_0_0 ln_RX12_12 dX12_step_24 ?_
      refine wq_cVv M_His_remember (R_His_remember Z 0 _) ob_9 rfl rfl (by decide) (by decide) (Nat.le_of_ble_eq_true rfl) ln_RX12_126 dX12_step_27 (fun gr2 _ J3 => ?_)
      refine wq_aload_n dX12_step_30 0 rfl rfl ?_
      refine g_0_2 ln_RX12_22 dX12_step_31 ?_
      refine wq_aload_n dX12_step_34 0 rfl rfl ?_
      refine g_0_0 ln_RX12_12 dX12_step_35 ?_
      refine wq_iload_n dX12_step_38 1 rfl rfl ?_
      refine wq_cVi M_Stp_makeSteps (R_Stp_makeSteps Z 0 a1 _) ob_3 rfl rfl (by decide) (by decide) (Nat.le_of_ble_eq_true rfl) ln_RX12_272 dX12_step_39 (fun gr5 x7 J6 => ?_)
      exact wq_iret rfl rfl dX12_step_42

noncomputable def f_PR_make (a1 : Int) (a2 : Int) (I : Mem) : Option ((Int ⊕ String) × Mem) :=
bnd (f_PR_isSymbol a1 I) fun x3 J2 =>
if (w32 x3) = 0 then
ltI (thrw J2) fun J4 =>
some (.inr xIA, J4)
else
bnd (f_PR_isSymbol a2 J2) fun x7 J6 =>
if (w32 x7) = 0 then
ltI (thrw J6) fun J18 =>
some (.inr xIA, J18)
else
bnd (f_PR_refusalOfMake a1 a2 J6) fun x10 J9 =>
if (w32 x10) < 0 then
some (.inl x10, J9)
else
bnd (f_His_remember 0 J9) fun _ J12 =>
bnd (f_G_join 0 a1 a2 J12) fun x16 J15 =>
some (.inl x16, J15)
set_option maxRecDepth 20000 in
theorem R_PR_make (Z : ZT) (a1 : Int) (a2 : Int) (I : Mem) : RX Z yX12_make cX12_make 4 (some .int) 6 [vr Z 0 0, vi a1, vi a2] I (fun x => some (vi x)) (f_PR_make a1 a2 I) := by
  refine RX.of (by decide +kernel) (Nat.le_of_ble_eq_true rfl) (fun gr => ?_)
  unfold f_PR_make
  refine WQ.loc [0, 1, 2] (lv' := [(0, vr Z 0 0), (1, vi a1), (2, vi a2)]) rfl ?_
  refine wq_iload_n dX12_make_0 1 rfl rfl ?_
  refine wq_cSi M_PR_isSymbol (R_PR_isSymbol Z a1 _) rfl rfl rfl (by decide) (by decide) (Nat.le_of_ble_eq_true rfl) ln_RX12_243 dX12_make_1 (fun gr1 x3 J2 => ?_)
  refine wq_if_eq 14 dX12_make_4 (by decide) rfl (fun c20 => ?_) (fun c20 => ?_)
  · exact wq_throw thr_IA (Nat.le_of_ble_eq_true rfl) (by decide +kernel) rfl dX12_make_14 dX12_make_17 dX12_make_18 dX12_make_21
  · refine wq_iload_n dX12_make_7 2 rfl rfl ?_
    refine wq_cSi M_PR_isSymbol (R_PR_isSymbol Z a2 _) rfl rfl rfl (by decide) (by decide) (Nat.le_of_ble_eq_true rfl) ln_RX12_243 dX12_make_8 (fun gr5 x7 J6 => ?_)
    refine wq_if_ne 22 dX12_make_11 (by decide) rfl (fun c19 => ?_) (fun c19 => ?_)
    · exact wq_throw thr_IA (Nat.le_of_ble_eq_true rfl) (by decide +kernel) rfl dX12_make_14 dX12_make_17 dX12_make_18 dX12_make_21
    · refine wq_aload_n dX12_make_22 0 rfl rfl ?_
      refine wq_iload_n dX12_make_23 1 rfl rfl ?_
      refine wq_iload_n dX12_make_24 2 rfl rfl ?_
      refine wq_cVi M_PR_refusalOfMake (R_PR_refusalOfMake Z a1 a2 _) ob_0 rfl rfl (by decide) (by decide) (Nat.le_of_ble_eq_true rfl) ln_RX12_283 dX12_make_25 (fun gr8 x10 J9 => ?_)
      refine wq_istore_n (lv' := [(3, vi x10), (0, vr Z 0 0), (1, vi a1), (2, vi a2)]) dX12_make_28 rfl (by decide) rfl ?_
      refine wq_iload_n dX12_make_29 0 rfl rfl ?_
      refine wq_if_ge 35 dX12_make_30 (by decide) rfl (fun c17 => ?_) (fun c17 => ?_)
      · refine wq_iload_n dX12_make_33 0 rfl rfl ?_
        exact wq_iret rfl rfl dX12_make_34
      · refine wq_aload_n dX12_make_35 1 rfl rfl ?_
        refine g_0_7 ln_RX12_61 dX12_make_36 ?_
        refine wq_aload_n dX12_make_39 1 rfl rfl ?_
        refine g_0_0 ln_RX12_12 dX12_make_40 ?_
        refine wq_cVv M_His_remember (R_His_remember Z 0 _) ob_9 rfl rfl (by decide) (by decide) (Nat.le_of_ble_eq_true rfl) ln_RX12_126 dX12_make_43 (fun gr11 _ J12 => ?_)
        refine wq_aload_n dX12_make_46 1 rfl rfl ?_
        refine g_0_0 ln_RX12_12 dX12_make_47 ?_
        refine wq_iload_n dX12_make_50 2 rfl rfl ?_
        refine wq_iload_n dX12_make_51 3 rfl rfl ?_
        refine wq_cVi M_G_join (R_G_join Z 0 a1 a2 _) (ob_1 (by decide)) rfl rfl (by decide) (by decide) (Nat.le_of_ble_eq_true rfl) ln_RX12_286 dX12_make_52 (fun gr14 x16 J15 => ?_)
        exact wq_iret rfl rfl dX12_make_55

theorem M_Rep_writeOf : MwV yX4_writeOf cX4_writeOf 3 (none) 1 := ⟨li_5 102 (by decide +kernel) (by decide +kernel), li_5 100 (by decide +kernel) (by decide +kernel), li_5 101 (by decide +kernel) (by decide +kernel), li_1 13 (by decide +kernel) (by decide +kernel), by decide +kernel⟩
theorem M_Rep_many : MwV yX4_many cX4_many 1 (some .int) 0 := ⟨li_5 125 (by decide +kernel) (by decide +kernel), li_5 123 (by decide +kernel) (by decide +kernel), li_5 124 (by decide +kernel) (by decide +kernel), li_1 13 (by decide +kernel) (by decide +kernel), by decide +kernel⟩
theorem ln_RX12_311 : Cond.methodLink RX12 311 yX4_many ∈ lw_good := li_5 122 (by decide +kernel) (by decide +kernel)
theorem ln_RX12_308 : Cond.methodLink RX12 308 yX4_writeOf ∈ lw_good := li_5 99 (by decide +kernel) (by decide +kernel)
noncomputable def f_PR_report  (I : Mem) : Option ((Int) × Mem) :=
bnd (f_Rep_writeOf 0 I) fun _ J2 =>
some ((J2 10 0 1), J2)
set_option maxRecDepth 20000 in
theorem R_PR_report (Z : ZT)  (I : Mem) (r : Int) (J : Mem) (hf : f_PR_report I = some (r, J)) : Runs Z yX12_report cX12_report 1 (some .int) 5 [vr Z 0 0] I (some (vi r), J) := by
  refine Runs.of (rv := fun x => some (vi x)) (by decide +kernel) (Nat.le_of_ble_eq_true rfl) hf (fun gr => ?_)
  unfold f_PR_report
  refine WQ.loc [0] (lv' := [(0, vr Z 0 0)]) rfl ?_
  refine wq_aload_n dX12_report_0 0 rfl rfl ?_
  refine g_0_8 ln_RX12_68 dX12_report_1 ?_
  refine wq_aload_n dX12_report_4 0 rfl rfl ?_
  refine g_0_0 ln_RX12_12 dX12_report_5 ?_
  refine wq_cVv M_Rep_writeOf (R_Rep_writeOf Z 0 _) ob_10 rfl rfl (by decide) (by decide) (Nat.le_of_ble_eq_true rfl) ln_RX12_308 dX12_report_8 (fun gr1 _ J2 => ?_)
  refine wq_aload_n dX12_report_11 0 rfl rfl ?_
  refine g_0_8 ln_RX12_68 dX12_report_12 ?_
  refine wq_pV (v := vi (J2 10 0 1)) M_Rep_many (R_Rep_many Z  _ _ _ rfl) ob_10 rfl rfl (by decide) (by decide) (Nat.le_of_ble_eq_true rfl) ln_RX12_311 dX12_report_15 (fun gr4 => ?_)
  exact wq_iret rfl rfl dX12_report_18

noncomputable def f_PR_bestNumber_w10 (v1 : Int) (s : Int × Int × Int) (I : Mem) : Option (((Int × Int × Int) ⊕ (Int)) × Mem) :=
bnd (f_PR_highest v1 I) fun x6 J5 =>
if (w32 x6) < (w32 s.2.2) then
some (.inr s.1, J5)
else
bnd (f_G_takeFrom 1 0 J5) fun _ J8 =>
bnd (f_G_putNumber 1 v1 s.2.2 J8) fun _ J11 =>
bnd (f_Stp_makeSteps 1 1000000 J11) fun x15 J14 =>
bnd (f_G_totalSize 1 J14) fun x18 J17 =>
if (w32 s.1) = (-1) then
some (.inl (s.2.2, x18, (s.2.2 + 1)), J17)
else
if (w32 x18) < (w32 s.2.1) then
some (.inl (s.2.2, x18, (s.2.2 + 1)), J17)
else
some (.inl (s.1, s.2.1, (s.2.2 + 1)), J17)

noncomputable def f_PR_bestNumber (a1 : Int) (I : Mem) : Option ((Int) × Mem) :=
bnd (f_PR_lowest a1 I) fun x3 J2 =>
bnd (whl (f_PR_bestNumber_w10 a1) ((-1), 0, x3) J2) fun r47 J48 =>
some (r47, J48)
set_option maxRecDepth 20000 in
theorem R_PR_bestNumber (Z : ZT) (a1 : Int) (I : Mem) (r : Int) (J : Mem) (hf : f_PR_bestNumber a1 I = some (r, J)) : Runs Z yX12_bestNumber cX12_bestNumber 6 (some .int) 6 [vr Z 0 0, vi a1] I (some (vi r), J) := by
  refine Runs.of (rv := fun x => some (vi x)) (by decide +kernel) (Nat.le_of_ble_eq_true rfl) hf (fun gr => ?_)
  unfold f_PR_bestNumber
  refine WQ.loc [0, 1] (lv' := [(0, vr Z 0 0), (1, vi a1)]) rfl ?_
  refine wq_iconst dX12_bestNumber_0 ?_
  refine wq_istore_n (lv' := [(2, vi (-1)), (0, vr Z 0 0), (1, vi a1)]) dX12_bestNumber_1 rfl (by decide) rfl ?_
  refine wq_iconst dX12_bestNumber_2 ?_
  refine wq_istore_n (lv' := [(3, vi 0), (2, vi (-1)), (0, vr Z 0 0), (1, vi a1)]) dX12_bestNumber_3 rfl (by decide) rfl ?_
  refine wq_iload_n dX12_bestNumber_4 3 rfl rfl ?_
  refine wq_cSi M_PR_lowest (R_PR_lowest Z a1 _) rfl rfl rfl (by decide) (by decide) (Nat.le_of_ble_eq_true rfl) ln_RX12_298 dX12_bestNumber_5 (fun gr1 x3 J2 => ?_)
  refine wq_istore (lv' := [(4, vi x3), (3, vi 0), (2, vi (-1)), (0, vr Z 0 0), (1, vi a1)]) dX12_bestNumber_8 (by decide) rfl ?_
  refine WQ.loc [3, 4, 2, 1, 0] (lv' := [(0, vr Z 0 0), (1, vi a1), (2, vi (-1)), (3, vi 0), (4, vi x3)]) rfl ?_
  refine wq_loopS (fun s28 => [(0, vr Z 0 0), (1, vi a1), (2, vi s28.1), (3, vi s28.2.1), (4, vi s28.2.2)]) 87 (fun r47 => [(2, vi r47)]) (fun κ22 bk23 ex24 gr27 s28 J26 => ?_) (fun gr49 r47 J48 => ?_) gr1 _ rfl
  · unfold f_PR_bestNumber_w10
    refine wq_iload dX12_bestNumber_10 4 rfl ?_
    refine wq_iload_n dX12_bestNumber_12 1 rfl rfl ?_
    refine wq_cSi M_PR_highest (R_PR_highest Z a1 _) rfl rfl rfl (by decide) (by decide) (Nat.le_of_ble_eq_true rfl) ln_RX12_301 dX12_bestNumber_13 (fun gr29 x31 J30 => ?_)
    refine wq_icmp_gt 87 dX12_bestNumber_16 (by decide) rfl rfl (fun c46 => ?_) (fun c46 => ?_)
    · exact WQ.loc [2] rfl (ex24 _ _ _)
    · refine wq_aload_n dX12_bestNumber_19 0 rfl rfl ?_
      refine g_0_1 ln_RX12_16 dX12_bestNumber_20 ?_
      refine wq_aload_n dX12_bestNumber_23 0 rfl rfl ?_
      refine g_0_0 ln_RX12_12 dX12_bestNumber_24 ?_
      refine wq_cVv M_G_takeFrom (R_G_takeFrom Z 1 0 _) (ob_1 (by decide)) rfl rfl (by decide) (by decide) (Nat.le_of_ble_eq_true rfl) ln_RX12_113 dX12_bestNumber_27 (fun gr32 _ J33 => ?_)
      refine wq_aload_n dX12_bestNumber_30 0 rfl rfl ?_
      refine g_0_1 ln_RX12_16 dX12_bestNumber_31 ?_
      refine wq_iload_n dX12_bestNumber_34 1 rfl rfl ?_
      refine wq_iload dX12_bestNumber_35 4 rfl ?_
      refine wq_cVv M_G_putNumber (R_G_putNumber Z 1 a1 s28.2.2 _) (ob_1 (by decide)) rfl rfl (by decide) (by decide) (Nat.le_of_ble_eq_true rfl) ln_RX12_304 dX12_bestNumber_37 (fun gr35 _ J36 => ?_)
      refine wq_aload_n dX12_bestNumber_40 0 rfl rfl ?_
      refine g_0_2 ln_RX12_22 dX12_bestNumber_41 ?_
      refine wq_aload_n dX12_bestNumber_44 0 rfl rfl ?_
      refine g_0_1 ln_RX12_16 dX12_bestNumber_45 ?_
      refine wq_ldc_w ln_RX12_271 dX12_bestNumber_48 ?_
      refine wq_cVi M_Stp_makeSteps (R_Stp_makeSteps Z 1 1000000 _) ob_3 rfl rfl (by decide) (by decide) (Nat.le_of_ble_eq_true rfl) ln_RX12_272 dX12_bestNumber_51 (fun gr38 x40 J39 => ?_)
      refine wq_pop dX12_bestNumber_54 rfl ?_
      refine wq_aload_n dX12_bestNumber_55 0 rfl rfl ?_
      refine g_0_1 ln_RX12_16 dX12_bestNumber_56 ?_
      refine wq_cVi M_G_totalSize (R_G_totalSize Z 1 _) (ob_1 (by decide)) rfl rfl (by decide) (by decide) (Nat.le_of_ble_eq_true rfl) ln_RX12_148 dX12_bestNumber_59 (fun gr41 x43 J42 => ?_)
      refine wq_istore (lv' := [(5, vi x43), (0, vr Z 0 0), (1, vi a1), (2, vi s28.1), (3, vi s28.2.1), (4, vi s28.2.2)]) dX12_bestNumber_62 (by decide) rfl ?_
      refine wq_iload_n dX12_bestNumber_64 3 rfl rfl ?_
      refine wq_iconst dX12_bestNumber_65 ?_
      refine wq_icmp_eq 75 dX12_bestNumber_66 (by decide) rfl rfl (fun c45 => ?_) (fun c45 => ?_)
      · refine wq_iload dX12_bestNumber_75 0 rfl ?_
        refine wq_istore_n (lv' := [(3, vi x43), (5, vi x43), (0, vr Z 0 0), (1, vi a1), (2, vi s28.1), (4, vi s28.2.2)]) dX12_bestNumber_77 rfl (by decide) rfl ?_
        refine wq_iload dX12_bestNumber_78 5 rfl ?_
        refine wq_istore_n (lv' := [(2, vi s28.2.2), (3, vi x43), (5, vi x43), (0, vr Z 0 0), (1, vi a1), (4, vi s28.2.2)]) dX12_bestNumber_80 rfl (by decide) rfl ?_
        refine wq_iinc (lv' := [(4, vi (s28.2.2 + 1)), (2, vi s28.2.2), (3, vi x43), (5, vi x43), (0, vr Z 0 0), (1, vi a1)]) dX12_bestNumber_81 5 rfl (by decide) rfl ?_
        refine wq_goto 10 dX12_bestNumber_84 (by decide) ?_
        exact WQ.loc [4, 5, 1, 2, 0] rfl (bk23 _ _ _)
      · refine wq_iload dX12_bestNumber_69 0 rfl ?_
        refine wq_iload_n dX12_bestNumber_71 4 rfl rfl ?_
        refine wq_icmp_ge 81 dX12_bestNumber_72 (by decide) rfl rfl (fun c44 => ?_) (fun c44 => ?_)
        · refine wq_iload dX12_bestNumber_75 0 rfl ?_
          refine wq_istore_n (lv' := [(3, vi x43), (5, vi x43), (0, vr Z 0 0), (1, vi a1), (2, vi s28.1), (4, vi s28.2.2)]) dX12_bestNumber_77 rfl (by decide) rfl ?_
          refine wq_iload dX12_bestNumber_78 5 rfl ?_
          refine wq_istore_n (lv' := [(2, vi s28.2.2), (3, vi x43), (5, vi x43), (0, vr Z 0 0), (1, vi a1), (4, vi s28.2.2)]) dX12_bestNumber_80 rfl (by decide) rfl ?_
          refine wq_iinc (lv' := [(4, vi (s28.2.2 + 1)), (2, vi s28.2.2), (3, vi x43), (5, vi x43), (0, vr Z 0 0), (1, vi a1)]) dX12_bestNumber_81 5 rfl (by decide) rfl ?_
          refine wq_goto 10 dX12_bestNumber_84 (by decide) ?_
          exact WQ.loc [4, 5, 1, 2, 0] rfl (bk23 _ _ _)
        · refine wq_iinc (lv' := [(4, vi (s28.2.2 + 1)), (5, vi x43), (0, vr Z 0 0), (1, vi a1), (2, vi s28.1), (3, vi s28.2.1)]) dX12_bestNumber_81 5 rfl (by decide) rfl ?_
          refine wq_goto 10 dX12_bestNumber_84 (by decide) ?_
          exact WQ.loc [2, 3, 4, 5, 0] rfl (bk23 _ _ _)
  · refine wq_iload_n dX12_bestNumber_87 0 rfl rfl ?_
    exact wq_iret rfl rfl dX12_bestNumber_88

theorem M_Scr_number : MwV yX6_number cX6_number 2 (some .int) 1 := ⟨li_4 23 (by decide +kernel) (by decide +kernel), li_4 21 (by decide +kernel) (by decide +kernel), li_4 22 (by decide +kernel) (by decide +kernel), li_1 9 (by decide +kernel) (by decide +kernel), by decide +kernel⟩
theorem ln_RX12_343 : Cond.fieldLink RX12 343 RX0 "$SwitchMap$PairRules$Word" "[I" ∈ lw_good := li_4 24 (by decide +kernel) (by decide +kernel)
theorem M_Scr_word : MwV yX6_word cX6_word 2 (some (.object RX11)) 1 := ⟨li_4 28 (by decide +kernel) (by decide +kernel), li_4 26 (by decide +kernel) (by decide +kernel), li_4 27 (by decide +kernel) (by decide +kernel), li_1 9 (by decide +kernel) (by decide +kernel), by decide +kernel⟩
theorem ln_RX12_353 : Cond.methodLink RX12 353 yWordOrd ∈ lw_good := li_4 29 (by decide +kernel) (by decide +kernel)
theorem M_PR_doMake : MwV yX12_doMake cX12_doMake 3 (some .boolean) 2 := ⟨li_4 182 (by decide +kernel) (by decide +kernel), li_4 181 (by decide +kernel) (by decide +kernel), lw_in 35 (by decide +kernel) (by decide +kernel), li_1 1 (by decide +kernel) (by decide +kernel), by decide +kernel⟩
theorem ln_RX12_361 : Cond.methodLink RX12 361 yX12_doMake ∈ lw_good := li_4 179 (by decide +kernel) (by decide +kernel)
theorem M_PR_doExpand : MwV yX12_doExpand cX12_doExpand 2 (some .boolean) 1 := ⟨li_4 208 (by decide +kernel) (by decide +kernel), li_4 207 (by decide +kernel) (by decide +kernel), lw_in 37 (by decide +kernel) (by decide +kernel), li_1 1 (by decide +kernel) (by decide +kernel), by decide +kernel⟩
theorem ln_RX12_365 : Cond.methodLink RX12 365 yX12_doExpand ∈ lw_good := li_4 205 (by decide +kernel) (by decide +kernel)
theorem M_PR_doAppend : MwV yX12_doAppend cX12_doAppend 3 (some .boolean) 1 := ⟨li_4 214 (by decide +kernel) (by decide +kernel), li_4 213 (by decide +kernel) (by decide +kernel), lw_in 38 (by decide +kernel) (by decide +kernel), li_1 1 (by decide +kernel) (by decide +kernel), by decide +kernel⟩
theorem ln_RX12_368 : Cond.methodLink RX12 368 yX12_doAppend ∈ lw_good := li_4 211 (by decide +kernel) (by decide +kernel)
theorem M_PR_doCut : MwV yX12_doCut cX12_doCut 2 (some .boolean) 1 := ⟨li_4 226 (by decide +kernel) (by decide +kernel), li_4 225 (by decide +kernel) (by decide +kernel), lw_in 39 (by decide +kernel) (by decide +kernel), li_1 1 (by decide +kernel) (by decide +kernel), by decide +kernel⟩
theorem ln_RX12_371 : Cond.methodLink RX12 371 yX12_doCut ∈ lw_good := li_4 223 (by decide +kernel) (by decide +kernel)
theorem ln_RX12_349 : Cond.methodLink RX12 349 yX6_word ∈ lw_good := li_4 25 (by decide +kernel) (by decide +kernel)
theorem ln_RX12_342 : Cond.methodLink RX12 342 yX6_number ∈ lw_good := li_4 20 (by decide +kernel) (by decide +kernel)
noncomputable def f_PR_doOrder (a1 : Int) (I : Mem) : Option ((Int) × Mem) :=
bnd (f_Scr_number a1 I) fun x3 J2 =>
bnd (f_Scr_word a1 J2) fun x6 J5 =>
if x6 < 15 then
if 0 ≤ (w32 ((x6 : Nat) : Int)) ∧ (w32 ((x6 : Nat) : Int)) < 15 then
if (w32 (wSm.getD (w32 ((x6 : Nat) : Int)).toNat 0)) = 1 then
bnd (f_Stp_makeSteps 0 x3 J5) fun x12 J11 =>
some (1, J11)
else if (w32 (wSm.getD (w32 ((x6 : Nat) : Int)).toNat 0)) = 2 then
bnd (f_Stp_inlineAll 0 J5) fun x16 J15 =>
some (1, J15)
else if (w32 (wSm.getD (w32 ((x6 : Nat) : Int)).toNat 0)) = 3 then
bnd (f_Scr_letter a1 0 J5) fun x20 J19 =>
bnd (f_Scr_letter a1 1 J19) fun x23 J22 =>
bnd (f_PR_doMake x20 x23 J22) fun x26 J25 =>
if x26 = 0 ∨ x26 = 1 then
some (x26, J25)
else none
else if (w32 (wSm.getD (w32 ((x6 : Nat) : Int)).toNat 0)) = 4 then
bnd (f_PR_doExpand x3 J5) fun x31 J30 =>
if x31 = 0 ∨ x31 = 1 then
some (x31, J30)
else none
else if (w32 (wSm.getD (w32 ((x6 : Nat) : Int)).toNat 0)) = 5 then
bnd (f_PR_doAppend a1 J5) fun x36 J35 =>
if x36 = 0 ∨ x36 = 1 then
some (x36, J35)
else none
else if (w32 (wSm.getD (w32 ((x6 : Nat) : Int)).toNat 0)) = 6 then
bnd (f_PR_doCut x3 J5) fun x41 J40 =>
if x41 = 0 ∨ x41 = 1 then
some (x41, J40)
else none
else if (w32 (wSm.getD (w32 ((x6 : Nat) : Int)).toNat 0)) = 7 then
bnd (f_G_putNumber 0 4 x3 J5) fun _ J45 =>
some (1, J45)
else if (w32 (wSm.getD (w32 ((x6 : Nat) : Int)).toNat 0)) = 8 then
bnd (f_G_putNumber 0 5 x3 J5) fun _ J49 =>
some (1, J49)
else if (w32 (wSm.getD (w32 ((x6 : Nat) : Int)).toNat 0)) = 9 then
bnd (f_G_putNumber 0 6 x3 J5) fun _ J53 =>
some (1, J53)
else some (0, J5)
else none
else none
set_option maxRecDepth 20000 in
theorem R_PR_doOrder (Z : ZT) (a1 : Int) (I : Mem) (r : Int) (J : Mem) (hf : f_PR_doOrder a1 I = some (r, J)) : Runs Z yX12_doOrder cX12_doOrder 3 (some .boolean) 7 [vr Z 0 0, vi a1] I (some (vi r), J) := by
  refine Runs.of (rv := fun x => some (vi x)) (by decide +kernel) (Nat.le_of_ble_eq_true rfl) hf (fun gr => ?_)
  unfold f_PR_doOrder
  refine WQ.loc [0, 1] (lv' := [(0, vr Z 0 0), (1, vi a1)]) rfl ?_
  refine wq_aload_n dX12_doOrder_0 0 rfl rfl ?_
  refine g_0_6 ln_RX12_54 dX12_doOrder_1 ?_
  refine wq_iload_n dX12_doOrder_4 1 rfl rfl ?_
  refine wq_cVi M_Scr_number (R_Scr_number Z a1 _) ob_8 rfl rfl (by decide) (by decide) (Nat.le_of_ble_eq_true rfl) ln_RX12_342 dX12_doOrder_5 (fun gr1 x3 J2 => ?_)
  refine wq_istore_n (lv' := [(2, vi x3), (0, vr Z 0 0), (1, vi a1)]) dX12_doOrder_8 rfl (by decide) rfl ?_
  refine wq_gets sta_smap ln_RX12_343 dX12_doOrder_9 ?_
  refine wq_aload_n dX12_doOrder_12 1 rfl rfl ?_
  refine g_0_6 ln_RX12_54 dX12_doOrder_13 ?_
  refine wq_iload_n dX12_doOrder_16 2 rfl rfl ?_
  refine wq_cVr 11 M_Scr_word (R_Scr_word Z a1 _) ob_8 rfl rfl (by decide) (by decide) (Nat.le_of_ble_eq_true rfl) ln_RX12_349 dX12_doOrder_17 (fun gr4 x6 J5 => ?_)
  refine wq_grd (fun g7 => ?_)
  refine wq_ordinal g7 (by decide) (Nat.le_of_ble_eq_true rfl) ln_RX12_353 dX12_doOrder_20 (fun gr8 => ?_)
  refine wq_grd (fun g9 => ?_)
  refine wq_smap rfl g9 dX12_doOrder_23 ?_
  refine WQ.split (fun c13 => ?_) (fun c13 => ?_)
  · refine wq_tin (n := 1) 76 dX12_doOrder_24 rfl c13 (by decide) (by decide) rfl (by decide) ?_
    refine wq_aload_n dX12_doOrder_76 1 rfl rfl ?_
    refine g_0_2 ln_RX12_22 dX12_doOrder_77 ?_
    refine wq_aload_n dX12_doOrder_80 1 rfl rfl ?_
    refine g_0_0 ln_RX12_12 dX12_doOrder_81 ?_
    refine wq_iload_n dX12_doOrder_84 0 rfl rfl ?_
    refine wq_cVi M_Stp_makeSteps (R_Stp_makeSteps Z 0 x3 _) ob_3 rfl rfl (by decide) (by decide) (Nat.le_of_ble_eq_true rfl) ln_RX12_272 dX12_doOrder_85 (fun gr10 x12 J11 => ?_)
    refine wq_pop dX12_doOrder_88 rfl ?_
    refine wq_iconst dX12_doOrder_89 ?_
    exact wq_zret rfl (by decide) rfl dX12_doOrder_90
  · skip
    refine WQ.split (fun c17 => ?_) (fun c17 => ?_)
    · refine wq_tin (n := 2) 91 dX12_doOrder_24 rfl c17 (by decide) (by decide) rfl (by decide) ?_
      refine wq_aload_n dX12_doOrder_91 1 rfl rfl ?_
      refine g_0_2 ln_RX12_22 dX12_doOrder_92 ?_
      refine wq_aload_n dX12_doOrder_95 1 rfl rfl ?_
      refine g_0_0 ln_RX12_12 dX12_doOrder_96 ?_
      refine wq_cVi M_Stp_inlineAll (R_Stp_inlineAll Z 0 _) ob_3 rfl rfl (by decide) (by decide) (Nat.le_of_ble_eq_true rfl) ln_RX12_279 dX12_doOrder_99 (fun gr14 x16 J15 => ?_)
      refine wq_pop dX12_doOrder_102 rfl ?_
      refine wq_iconst dX12_doOrder_103 ?_
      exact wq_zret rfl (by decide) rfl dX12_doOrder_104
    · skip
      refine WQ.split (fun c28 => ?_) (fun c28 => ?_)
      · refine wq_tin (n := 3) 105 dX12_doOrder_24 rfl c28 (by decide) (by decide) rfl (by decide) ?_
        refine wq_aload_n dX12_doOrder_105 1 rfl rfl ?_
        refine wq_aload_n dX12_doOrder_106 1 rfl rfl ?_
        refine g_0_6 ln_RX12_54 dX12_doOrder_107 ?_
        refine wq_iload_n dX12_doOrder_110 2 rfl rfl ?_
        refine wq_iconst dX12_doOrder_111 ?_
        refine wq_cVi M_Scr_letter (R_Scr_letter Z a1 0 _) ob_8 rfl rfl (by decide) (by decide) (Nat.le_of_ble_eq_true rfl) ln_RX12_358 dX12_doOrder_112 (fun gr18 x20 J19 => ?_)
        refine wq_aload_n dX12_doOrder_115 1 rfl rfl ?_
        refine g_0_6 ln_RX12_54 dX12_doOrder_116 ?_
        refine wq_iload_n dX12_doOrder_119 2 rfl rfl ?_
        refine wq_iconst dX12_doOrder_120 ?_
        refine wq_cVi M_Scr_letter (R_Scr_letter Z a1 1 _) ob_8 rfl rfl (by decide) (by decide) (Nat.le_of_ble_eq_true rfl) ln_RX12_358 dX12_doOrder_121 (fun gr21 x23 J22 => ?_)
        refine wq_cVi M_PR_doMake (R_PR_doMake Z x20 x23 _) ob_0 rfl rfl (by decide) (by decide) (Nat.le_of_ble_eq_true rfl) ln_RX12_361 dX12_doOrder_124 (fun gr24 x26 J25 => ?_)
        refine wq_grd (fun g27 => ?_)
        exact wq_zret rfl g27 rfl dX12_doOrder_127
      · skip
        refine WQ.split (fun c33 => ?_) (fun c33 => ?_)
        · refine wq_tin (n := 4) 128 dX12_doOrder_24 rfl c33 (by decide) (by decide) rfl (by decide) ?_
          refine wq_aload_n dX12_doOrder_128 1 rfl rfl ?_
          refine wq_iload_n dX12_doOrder_129 0 rfl rfl ?_
          refine wq_cVi M_PR_doExpand (R_PR_doExpand Z x3 _) ob_0 rfl rfl (by decide) (by decide) (Nat.le_of_ble_eq_true rfl) ln_RX12_365 dX12_doOrder_130 (fun gr29 x31 J30 => ?_)
          refine wq_grd (fun g32 => ?_)
          exact wq_zret rfl g32 rfl dX12_doOrder_133
        · skip
          refine WQ.split (fun c38 => ?_) (fun c38 => ?_)
          · refine wq_tin (n := 5) 134 dX12_doOrder_24 rfl c38 (by decide) (by decide) rfl (by decide) ?_
            refine wq_aload_n dX12_doOrder_134 1 rfl rfl ?_
            refine wq_iload_n dX12_doOrder_135 2 rfl rfl ?_
            refine wq_cVi M_PR_doAppend (R_PR_doAppend Z a1 _) ob_0 rfl rfl (by decide) (by decide) (Nat.le_of_ble_eq_true rfl) ln_RX12_368 dX12_doOrder_136 (fun gr34 x36 J35 => ?_)
            refine wq_grd (fun g37 => ?_)
            exact wq_zret rfl g37 rfl dX12_doOrder_139
          · skip
            refine WQ.split (fun c43 => ?_) (fun c43 => ?_)
            · refine wq_tin (n := 6) 140 dX12_doOrder_24 rfl c43 (by decide) (by decide) rfl (by decide) ?_
              refine wq_aload_n dX12_doOrder_140 1 rfl rfl ?_
              refine wq_iload_n dX12_doOrder_141 0 rfl rfl ?_
              refine wq_cVi M_PR_doCut (R_PR_doCut Z x3 _) ob_0 rfl rfl (by decide) (by decide) (Nat.le_of_ble_eq_true rfl) ln_RX12_371 dX12_doOrder_142 (fun gr39 x41 J40 => ?_)
              refine wq_grd (fun g42 => ?_)
              exact wq_zret rfl g42 rfl dX12_doOrder_145
            · skip
              refine WQ.split (fun c47 => ?_) (fun c47 => ?_)
              · refine wq_tin (n := 7) 146 dX12_doOrder_24 rfl c47 (by decide) (by decide) rfl (by decide) ?_
                refine wq_aload_n dX12_doOrder_146 1 rfl rfl ?_
                refine g_0_0 ln_RX12_12 dX12_doOrder_147 ?_
                refine wq_iconst dX12_doOrder_150 ?_
                refine wq_iload_n dX12_doOrder_151 0 rfl rfl ?_
                refine wq_cVv M_G_putNumber (R_G_putNumber Z 0 4 x3 _) (ob_1 (by decide)) rfl rfl (by decide) (by decide) (Nat.le_of_ble_eq_true rfl) ln_RX12_304 dX12_doOrder_152 (fun gr44 _ J45 => ?_)
                refine wq_iconst dX12_doOrder_155 ?_
                exact wq_zret rfl (by decide) rfl dX12_doOrder_156
              · skip
                refine WQ.split (fun c51 => ?_) (fun c51 => ?_)
                · refine wq_tin (n := 8) 157 dX12_doOrder_24 rfl c51 (by decide) (by decide) rfl (by decide) ?_
                  refine wq_aload_n dX12_doOrder_157 1 rfl rfl ?_
                  refine g_0_0 ln_RX12_12 dX12_doOrder_158 ?_
                  refine wq_iconst dX12_doOrder_161 ?_
                  refine wq_iload_n dX12_doOrder_162 0 rfl rfl ?_
                  refine wq_cVv M_G_putNumber (R_G_putNumber Z 0 5 x3 _) (ob_1 (by decide)) rfl rfl (by decide) (by decide) (Nat.le_of_ble_eq_true rfl) ln_RX12_304 dX12_doOrder_163 (fun gr48 _ J49 => ?_)
                  refine wq_iconst dX12_doOrder_166 ?_
                  exact wq_zret rfl (by decide) rfl dX12_doOrder_167
                · skip
                  refine WQ.split (fun c55 => ?_) (fun c55 => ?_)
                  · refine wq_tin (n := 9) 168 dX12_doOrder_24 rfl c55 (by decide) (by decide) rfl (by decide) ?_
                    refine wq_aload_n dX12_doOrder_168 1 rfl rfl ?_
                    refine g_0_0 ln_RX12_12 dX12_doOrder_169 ?_
                    refine wq_bipush dX12_doOrder_172 (by decide) ?_
                    refine wq_iload_n dX12_doOrder_174 0 rfl rfl ?_
                    refine wq_cVv M_G_putNumber (R_G_putNumber Z 0 6 x3 _) (ob_1 (by decide)) rfl rfl (by decide) (by decide) (Nat.le_of_ble_eq_true rfl) ln_RX12_304 dX12_doOrder_175 (fun gr52 _ J53 => ?_)
                    refine wq_iconst dX12_doOrder_178 ?_
                    exact wq_zret rfl (by decide) rfl dX12_doOrder_179
                  · skip
                    refine wq_tout 180 dX12_doOrder_24 rfl (by omega) (by decide) ?_
                    refine wq_iconst dX12_doOrder_180 ?_
                    exact wq_zret rfl (by decide) rfl dX12_doOrder_181

theorem M_Set_readItems : MwV yX7_readItems cX7_readItems 4 (some .boolean) 1 := ⟨li_3 17 (by decide +kernel) (by decide +kernel), li_3 16 (by decide +kernel) (by decide +kernel), lw_in 4 (by decide +kernel) (by decide +kernel), li_1 8 (by decide +kernel) (by decide +kernel), by decide +kernel⟩
theorem ln_RX7_70 : Cond.methodLink RX7 70 yX1_body ∈ lw_good := li_3 10 (by decide +kernel) (by decide +kernel)
theorem ln_RX7_93 : Cond.methodLink RX7 93 yX1_putLength ∈ lw_good := li_3 62 (by decide +kernel) (by decide +kernel)
theorem ln_RX7_74 : Cond.methodLink RX7 74 yX7_readItems ∈ lw_good := li_3 14 (by decide +kernel) (by decide +kernel)
noncomputable def f_Set_readRules_j95 (v1 : Int)   (I : Mem) : Option (((Int) ⊕ (Int)) × Mem) :=
bnd (f_Src_pass 3 I) fun x32 J31 =>
if (w32 x32) = 0 then
some (.inr (0), J31)
else
bnd (f_G_putLength 1 v1 (J31 7 0 3) J31) fun _ J34 =>
ltI (sI J34 7 0 2 (v1 + 1)) fun J36 =>
some (.inl (v1 + 1), J36)

noncomputable def f_Set_readRules_w2  (s : Int) (I : Mem) : Option (((Int) ⊕ (Int)) × Mem) :=
if 40 < (w32 s) then
some (.inr (1), I)
else
bnd (f_Src_word I) fun x3 J2 =>
if x3 < 15 then
if x3 = 0 then
if (w32 s) = 40 then
bnd (f_Src_fail 5 J2) fun x51 J50 =>
if x51 = 0 ∨ x51 = 1 then
some (.inr (x51), J50)
else none
else
bnd (f_Src_advance J2) fun _ J6 =>
bnd (f_G_body 1 s J6) fun x10 J9 =>
if x10 < 516 then
bnd (f_Set_readItems x10 J9) fun x14 J13 =>
if (w32 x14) = 0 then
some (.inr (0), J13)
else
bnd (f_Src_is 3 J13) fun x17 J16 =>
if (w32 x17) = 0 then
f_Set_readRules_j95 s J16
else
bnd (f_G_body 1 s J16) fun x21 J20 =>
if x21 < 516 then
if (w32 (J20 2 x21 1)) < 2 then
bnd (f_Src_fail 3 J20) fun x26 J25 =>
if x26 = 0 ∨ x26 = 1 then
some (.inr (x26), J25)
else none
else
f_Set_readRules_j95 s J20
else none
else none
else
some (.inr (1), J2)
else none

noncomputable def f_Set_readRules  (I : Mem) : Option ((Int) × Mem) :=
whl (f_Set_readRules_w2) 0 I
set_option maxRecDepth 20000 in
theorem R_Set_readRules (Z : ZT)  (I : Mem) (r : Int) (J : Mem) (hf : f_Set_readRules I = some (r, J)) : Runs Z yX7_readRules cX7_readRules 2 (some .boolean) 7 [vr Z 7 0] I (some (vi r), J) := by
  refine Runs.of (rv := fun x => some (vi x)) (by decide +kernel) (Nat.le_of_ble_eq_true rfl) hf (fun gr => ?_)
  unfold f_Set_readRules
  refine WQ.loc [0] (lv' := [(0, vr Z 7 0)]) rfl ?_
  refine wq_iconst dX7_readRules_0 ?_
  refine wq_istore_n (lv' := [(1, vi 0), (0, vr Z 7 0)]) dX7_readRules_1 rfl (by decide) rfl ?_
  refine WQ.loc [1, 0] (lv' := [(0, vr Z 7 0), (1, vi 0)]) rfl ?_
  refine wq_loop (fun s62 => [(0, vr Z 7 0), (1, vi s62)]) (fun κ56 bk57 hr59 gr61 s62 J60 => ?_) gr _ rfl
  unfold f_Set_readRules_w2
  refine wq_iload_n dX7_readRules_2 1 rfl rfl ?_
  refine wq_bipush dX7_readRules_3 (by decide) ?_
  refine wq_icmp_gt 133 dX7_readRules_5 (by decide) rfl rfl (fun c109 => ?_) (fun c109 => ?_)
  · refine wq_iconst dX7_readRules_133 ?_
    exact wq_zret rfl (by decide) ((hr59 _ _).trans rfl) dX7_readRules_134
  · refine wq_aload_n dX7_readRules_8 0 rfl rfl ?_
    refine g_7_0 ln_RX7_9 dX7_readRules_9 ?_
    refine wq_cVr 11 M_Src_word (R_Src_word Z _) ob_6 rfl rfl (by decide) (by decide) (Nat.le_of_ble_eq_true rfl) ln_RX7_53 dX7_readRules_12 (fun gr63 x65 J64 => ?_)
    refine wq_grd (fun g66 => ?_)
    refine wq_gets (sta_word 0 (by decide)) ln_RX7_57 dX7_readRules_15 ?_
    refine wq_acmp_ne 133 dX7_readRules_18 (by decide) g66 (by decide) (fun c108 => ?_) (fun c108 => ?_)
    · refine wq_iload_n dX7_readRules_21 1 rfl rfl ?_
      refine wq_bipush dX7_readRules_22 (by decide) ?_
      refine wq_icmp_ne 36 dX7_readRules_24 (by decide) rfl rfl (fun c107 => ?_) (fun c107 => ?_)
      · refine wq_aload_n dX7_readRules_27 0 rfl rfl ?_
        refine g_7_0 ln_RX7_9 dX7_readRules_28 ?_
        refine wq_iconst dX7_readRules_31 ?_
        refine wq_cVi M_Src_fail (R_Src_fail Z 5 _) ob_6 rfl rfl (by decide) (by decide) (Nat.le_of_ble_eq_true rfl) ln_RX7_63 dX7_readRules_32 (fun gr103 x105 J104 => ?_)
        refine wq_grd (fun g106 => ?_)
        exact wq_zret rfl g106 ((hr59 _ _).trans rfl) dX7_readRules_35
      · refine wq_aload_n dX7_readRules_36 0 rfl rfl ?_
        refine g_7_0 ln_RX7_9 dX7_readRules_37 ?_
        refine wq_cVv M_Src_advance (R_Src_advance Z _) ob_6 rfl rfl (by decide) (by decide) (Nat.le_of_ble_eq_true rfl) ln_RX7_67 dX7_readRules_40 (fun gr67 _ J68 => ?_)
        refine wq_aload_n dX7_readRules_43 0 rfl rfl ?_
        refine wq_aload_n dX7_readRules_44 0 rfl rfl ?_
        refine g_7_1 ln_RX7_15 dX7_readRules_45 ?_
        refine wq_iload_n dX7_readRules_48 1 rfl rfl ?_
        refine wq_cVr 2 M_G_body (R_G_body Z 1 s62 _) (ob_1 (by decide)) rfl rfl (by decide) (by decide) (Nat.le_of_ble_eq_true rfl) ln_RX7_70 dX7_readRules_49 (fun gr70 x72 J71 => ?_)
        refine wq_grd (fun g73 => ?_)
        refine wq_cVi M_Set_readItems (R_Set_readItems Z x72 _) ob_7 rfl rfl (by decide) (by decide) (Nat.le_of_ble_eq_true rfl) ln_RX7_74 dX7_readRules_52 (fun gr74 x76 J75 => ?_)
        refine wq_if_ne 60 dX7_readRules_55 (by decide) rfl (fun c102 => ?_) (fun c102 => ?_)
        · refine wq_iconst dX7_readRules_58 ?_
          exact wq_zret rfl (by decide) ((hr59 _ _).trans rfl) dX7_readRules_59
        · refine wq_aload_n dX7_readRules_60 0 rfl rfl ?_
          refine g_7_0 ln_RX7_9 dX7_readRules_61 ?_
          refine wq_iconst dX7_readRules_64 ?_
          refine wq_cVi M_Src_is (R_Src_is Z 3 _) ob_6 rfl rfl (by decide) (by decide) (Nat.le_of_ble_eq_true rfl) ln_RX7_78 dX7_readRules_65 (fun gr77 x79 J78 => ?_)
          have hj80 : ∀ (gr93 : Nat → Nat)   (J92 : Mem), WQ Z (yX7_readRules, cX7_readRules, 2, some .boolean, 7) I gr93 95 [(0, vr Z 7 0), (1, vi s62)] [] J92 (f_Set_readRules_j95 s62 J92) κ56 := by
            intro gr93 J92
            unfold f_Set_readRules_j95
            refine wq_aload_n dX7_readRules_95 0 rfl rfl ?_
            refine g_7_0 ln_RX7_9 dX7_readRules_96 ?_
            refine wq_iconst dX7_readRules_99 ?_
            refine wq_cVi M_Src_pass (R_Src_pass Z 3 _) ob_6 rfl rfl (by decide) (by decide) (Nat.le_of_ble_eq_true rfl) ln_RX7_87 dX7_readRules_100 (fun gr94 x96 J95 => ?_)
            refine wq_if_ne 108 dX7_readRules_103 (by decide) rfl (fun c101 => ?_) (fun c101 => ?_)
            · refine wq_iconst dX7_readRules_106 ?_
              exact wq_zret rfl (by decide) ((hr59 _ _).trans rfl) dX7_readRules_107
            · refine wq_aload_n dX7_readRules_108 0 rfl rfl ?_
              refine g_7_1 ln_RX7_15 dX7_readRules_109 ?_
              refine wq_iload_n dX7_readRules_112 1 rfl rfl ?_
              refine wq_aload_n dX7_readRules_113 0 rfl rfl ?_
              refine g_7_3 ln_RX7_90 dX7_readRules_114 ?_
              refine wq_cVv M_G_putLength (R_G_putLength Z 1 s62 (J95 7 0 3) _) (ob_1 (by decide)) rfl rfl (by decide) (by decide) (Nat.le_of_ble_eq_true rfl) ln_RX7_93 dX7_readRules_117 (fun gr97 _ J98 => ?_)
              refine wq_aload_n dX7_readRules_120 0 rfl rfl ?_
              refine wq_iload_n dX7_readRules_121 1 rfl rfl ?_
              refine wq_iconst dX7_readRules_122 ?_
              refine wq_iadd dX7_readRules_123 ?_
              refine p_7_2 ln_RX7_24 dX7_readRules_124 (fun J100 => ?_)
              refine wq_iinc (lv' := [(1, vi (s62 + 1)), (0, vr Z 7 0)]) dX7_readRules_127 1 rfl (by decide) rfl ?_
              refine wq_goto 2 dX7_readRules_130 (by decide) ?_
              exact WQ.loc [1, 0] rfl (bk57 _ _ _)
          refine wq_if_eq 95 dX7_readRules_68 (by decide) rfl (fun c91 => ?_) (fun c91 => ?_)
          · exact WQ.loc [0, 1] rfl (hj80 _   _)
          · refine wq_aload_n dX7_readRules_71 0 rfl rfl ?_
            refine g_7_1 ln_RX7_15 dX7_readRules_72 ?_
            refine wq_iload_n dX7_readRules_75 1 rfl rfl ?_
            refine wq_cVr 2 M_G_body (R_G_body Z 1 s62 _) (ob_1 (by decide)) rfl rfl (by decide) (by decide) (Nat.le_of_ble_eq_true rfl) ln_RX7_70 dX7_readRules_76 (fun gr81 x83 J82 => ?_)
            refine wq_grd (fun g84 => ?_)
            refine wq_pV (v := vi (J82 2 x83 1)) M_Row_many (R_Row_many Z x83 _ _ _ (if_pos g84)) (ob_2 g84) rfl rfl (by decide) (by decide) (Nat.le_of_ble_eq_true rfl) ln_RX7_81 dX7_readRules_79 (fun gr85 => ?_)
            refine wq_iconst dX7_readRules_82 ?_
            refine wq_icmp_ge 95 dX7_readRules_83 (by decide) rfl rfl (fun c90 => ?_) (fun c90 => ?_)
            · refine wq_aload_n dX7_readRules_86 0 rfl rfl ?_
              refine g_7_0 ln_RX7_9 dX7_readRules_87 ?_
              refine wq_iconst dX7_readRules_90 ?_
              refine wq_cVi M_Src_fail (R_Src_fail Z 3 _) ob_6 rfl rfl (by decide) (by decide) (Nat.le_of_ble_eq_true rfl) ln_RX7_63 dX7_readRules_91 (fun gr86 x88 J87 => ?_)
              refine wq_grd (fun g89 => ?_)
              exact wq_zret rfl g89 ((hr59 _ _).trans rfl) dX7_readRules_94
            · exact WQ.loc [0, 1] rfl (hj80 _   _)
    · refine wq_iconst dX7_readRules_133 ?_
      exact wq_zret rfl (by decide) ((hr59 _ _).trans rfl) dX7_readRules_134

theorem ln_RX7_97 : Cond.fieldLink RX7 97 RX11 "START" "LPairRules$Word;" ∈ lw_good := li_3 70 (by decide +kernel) (by decide +kernel)
theorem ln_RX7_100 : Cond.methodLink RX7 100 yX1_startRow ∈ lw_good := li_3 72 (by decide +kernel) (by decide +kernel)
noncomputable def f_Set_readStart  (I : Mem) : Option ((Int) × Mem) :=
bnd (f_Src_word I) fun x3 J2 =>
if x3 < 15 then
if x3 = 1 then
bnd (f_Src_advance J2) fun _ J6 =>
bnd (f_Set_readItems (43 * 1) J6) fun x11 J10 =>
if x11 = 0 ∨ x11 = 1 then
some (x11, J10)
else none
else
bnd (f_Src_fail 1 J2) fun x15 J14 =>
if x15 = 0 ∨ x15 = 1 then
some (x15, J14)
else none
else none
set_option maxRecDepth 20000 in
theorem R_Set_readStart (Z : ZT)  (I : Mem) (r : Int) (J : Mem) (hf : f_Set_readStart I = some (r, J)) : Runs Z yX7_readStart cX7_readStart 1 (some .boolean) 7 [vr Z 7 0] I (some (vi r), J) := by
  refine Runs.of (rv := fun x => some (vi x)) (by decide +kernel) (Nat.le_of_ble_eq_true rfl) hf (fun gr => ?_)
  unfold f_Set_readStart
  refine WQ.loc [0] (lv' := [(0, vr Z 7 0)]) rfl ?_
  refine wq_aload_n dX7_readStart_0 0 rfl rfl ?_
  refine g_7_0 ln_RX7_9 dX7_readStart_1 ?_
  refine wq_cVr 11 M_Src_word (R_Src_word Z _) ob_6 rfl rfl (by decide) (by decide) (Nat.le_of_ble_eq_true rfl) ln_RX7_53 dX7_readStart_4 (fun gr1 x3 J2 => ?_)
  refine wq_grd (fun g4 => ?_)
  refine wq_gets (sta_word 1 (by decide)) ln_RX7_97 dX7_readStart_7 ?_
  refine wq_acmp_eq 22 dX7_readStart_10 (by decide) g4 (by decide) (fun c17 => ?_) (fun c17 => ?_)
  · refine wq_aload_n dX7_readStart_22 0 rfl rfl ?_
    refine g_7_0 ln_RX7_9 dX7_readStart_23 ?_
    refine wq_cVv M_Src_advance (R_Src_advance Z _) ob_6 rfl rfl (by decide) (by decide) (Nat.le_of_ble_eq_true rfl) ln_RX7_67 dX7_readStart_26 (fun gr5 _ J6 => ?_)
    refine wq_aload_n dX7_readStart_29 0 rfl rfl ?_
    refine wq_aload_n dX7_readStart_30 0 rfl rfl ?_
    refine g_7_1 ln_RX7_15 dX7_readStart_31 ?_
    refine wq_pV (v := vr Z 2 (43 * 1)) M_G_startRow (R_G_startRow Z 1 _ _ _ (if_pos (by decide))) (ob_1 (by decide)) rfl rfl (by decide) (by decide) (Nat.le_of_ble_eq_true rfl) ln_RX7_100 dX7_readStart_34 (fun gr8 => ?_)
    refine wq_cVi M_Set_readItems (R_Set_readItems Z (43 * 1) _) ob_7 rfl rfl (by decide) (by decide) (Nat.le_of_ble_eq_true rfl) ln_RX7_74 dX7_readStart_37 (fun gr9 x11 J10 => ?_)
    refine wq_grd (fun g12 => ?_)
    exact wq_zret rfl g12 rfl dX7_readStart_40
  · refine wq_aload_n dX7_readStart_13 0 rfl rfl ?_
    refine g_7_0 ln_RX7_9 dX7_readStart_14 ?_
    refine wq_iconst dX7_readStart_17 ?_
    refine wq_cVi M_Src_fail (R_Src_fail Z 1 _) ob_6 rfl rfl (by decide) (by decide) (Nat.le_of_ble_eq_true rfl) ln_RX7_63 dX7_readStart_18 (fun gr13 x15 J14 => ?_)
    refine wq_grd (fun g16 => ?_)
    exact wq_zret rfl g16 rfl dX7_readStart_21

theorem M_Src_rewind : MwV yX8_rewind cX8_rewind 1 (none) 0 := ⟨li_2 163 (by decide +kernel) (by decide +kernel), li_2 161 (by decide +kernel) (by decide +kernel), li_2 162 (by decide +kernel) (by decide +kernel), li_1 7 (by decide +kernel) (by decide +kernel), by decide +kernel⟩
theorem M_Scr_readOrder : MwV yX6_readOrder cX6_readOrder 3 (some .boolean) 0 := ⟨li_3 208 (by decide +kernel) (by decide +kernel), li_3 207 (by decide +kernel) (by decide +kernel), lw_in 16 (by decide +kernel) (by decide +kernel), li_1 9 (by decide +kernel) (by decide +kernel), by decide +kernel⟩
theorem ln_RX6_67 : Cond.methodLink RX6 67 yX6_readOrder ∈ lw_good := li_3 205 (by decide +kernel) (by decide +kernel)
theorem M_Scr_readClose : MwV yX6_readClose cX6_readClose 3 (some .boolean) 0 := ⟨li_3 195 (by decide +kernel) (by decide +kernel), li_3 194 (by decide +kernel) (by decide +kernel), lw_in 14 (by decide +kernel) (by decide +kernel), li_1 9 (by decide +kernel) (by decide +kernel), by decide +kernel⟩
theorem ln_RX6_63 : Cond.methodLink RX6 63 yX6_readClose ∈ lw_good := li_3 192 (by decide +kernel) (by decide +kernel)
theorem ln_RX6_54 : Cond.methodLink RX6 54 yX8_rewind ∈ lw_good := li_3 190 (by decide +kernel) (by decide +kernel)
noncomputable def f_Scr_read_j74 (v1 : Int)  (e0 : Int) (I : Mem) : Option (((Int) ⊕ (Int)) × Mem) :=
if (w32 e0) = 0 then
bnd (f_Scr_readOrder I) fun x26 J25 =>
if (w32 x26) = 0 then
some (.inr (0), J25)
else
some (.inl (v1 + 1), J25)
else
bnd (f_Scr_readClose I) fun x30 J29 =>
if (w32 x30) = 0 then
some (.inr (0), J29)
else
some (.inl (v1 + 1), J29)

noncomputable def f_Scr_read_j73 (v1 : Int)   (I : Mem) : Option (((Int) ⊕ (Int)) × Mem) :=
f_Scr_read_j74 v1 0 I

noncomputable def f_Scr_read_j51 (v1 : Int)   (I : Mem) : Option (((Int) ⊕ (Int)) × Mem) :=
if 0 < (w32 (I 8 0 10)) then
bnd (f_Src_is 5 I) fun x21 J20 =>
if (w32 x21) = 0 then
f_Scr_read_j73 v1 J20
else
f_Scr_read_j74 v1 1 J20
else
f_Scr_read_j73 v1 I

noncomputable def f_Scr_read_w24  (s : Int) (I : Mem) : Option (((Int) ⊕ (Int)) × Mem) :=
if 600 < (w32 s) then
bnd (f_Src_fail 1 I) fun x9 J8 =>
if x9 = 0 ∨ x9 = 1 then
some (.inr (x9), J8)
else none
else
if (w32 (I 8 0 10)) = 0 then
bnd (f_Src_is 0 I) fun x14 J13 =>
if (w32 x14) = 0 then
f_Scr_read_j51 s J13
else
some (.inr (1), J13)
else
f_Scr_read_j51 s I

noncomputable def f_Scr_read  (I : Mem) : Option ((Int) × Mem) :=
ltI (sI I 8 0 8 0) fun J1 =>
ltI (sI J1 8 0 9 0) fun J2 =>
ltI (sI J2 8 0 10 0) fun J3 =>
bnd (f_Src_rewind J3) fun _ J5 =>
whl (f_Scr_read_w24) 0 J5
set_option maxRecDepth 20000 in
theorem R_Scr_read (Z : ZT)  (I : Mem) (r : Int) (J : Mem) (hf : f_Scr_read I = some (r, J)) : Runs Z yX6_read cX6_read 3 (some .boolean) 8 [vr Z 8 0] I (some (vi r), J) := by
  refine Runs.of (rv := fun x => some (vi x)) (by decide +kernel) (Nat.le_of_ble_eq_true rfl) hf (fun gr => ?_)
  unfold f_Scr_read
  refine WQ.loc [0] (lv' := [(0, vr Z 8 0)]) rfl ?_
  refine wq_aload_n dX6_read_0 0 rfl rfl ?_
  refine wq_iconst dX6_read_1 ?_
  refine p_8_8 ln_RX6_44 dX6_read_2 (fun J1 => ?_)
  refine wq_aload_n dX6_read_5 0 rfl rfl ?_
  refine wq_iconst dX6_read_6 ?_
  refine p_8_9 ln_RX6_48 dX6_read_7 (fun J2 => ?_)
  refine wq_aload_n dX6_read_10 0 rfl rfl ?_
  refine wq_iconst dX6_read_11 ?_
  refine p_8_10 ln_RX6_51 dX6_read_12 (fun J3 => ?_)
  refine wq_aload_n dX6_read_15 0 rfl rfl ?_
  refine g_8_0 ln_RX6_36 dX6_read_16 ?_
  refine wq_cVv M_Src_rewind (R_Src_rewind Z _) ob_6 rfl rfl (by decide) (by decide) (Nat.le_of_ble_eq_true rfl) ln_RX6_54 dX6_read_19 (fun gr4 _ J5 => ?_)
  refine wq_iconst dX6_read_22 ?_
  refine wq_istore_n (lv' := [(1, vi 0), (0, vr Z 8 0)]) dX6_read_23 rfl (by decide) rfl ?_
  refine WQ.loc [1, 0] (lv' := [(0, vr Z 8 0), (1, vi 0)]) rfl ?_
  refine wq_loop (fun s75 => [(0, vr Z 8 0), (1, vi s75)]) (fun κ69 bk70 hr72 gr74 s75 J73 => ?_) gr4 _ rfl
  unfold f_Scr_read_w24
  refine wq_iload_n dX6_read_24 1 rfl rfl ?_
  refine wq_sipush dX6_read_25 (by decide) ?_
  refine wq_icmp_gt 104 dX6_read_28 (by decide) rfl rfl (fun c108 => ?_) (fun c108 => ?_)
  · refine wq_aload_n dX6_read_104 0 rfl rfl ?_
    refine g_8_0 ln_RX6_36 dX6_read_105 ?_
    refine wq_iconst dX6_read_108 ?_
    refine wq_cVi M_Src_fail (R_Src_fail Z 1 _) ob_6 rfl rfl (by decide) (by decide) (Nat.le_of_ble_eq_true rfl) ln_RX6_70 dX6_read_109 (fun gr76 x78 J77 => ?_)
    refine wq_grd (fun g79 => ?_)
    exact wq_zret rfl g79 ((hr72 _ _).trans rfl) dX6_read_112
  · refine wq_aload_n dX6_read_31 0 rfl rfl ?_
    refine g_8_10 ln_RX6_51 dX6_read_32 ?_
    have hj80 : ∀ (gr87 : Nat → Nat)   (J86 : Mem), WQ Z (yX6_read, cX6_read, 3, some .boolean, 8) I gr87 51 [(0, vr Z 8 0), (1, vi s75)] [] J86 (f_Scr_read_j51 s75 J86) κ69 := by
      intro gr87 J86
      unfold f_Scr_read_j51
      refine wq_aload_n dX6_read_51 0 rfl rfl ?_
      refine g_8_10 ln_RX6_51 dX6_read_52 ?_
      have hj88 : ∀ (gr96 : Nat → Nat)  (hj88e0 : Int) (J95 : Mem), WQ Z (yX6_read, cX6_read, 3, some .boolean, 8) I gr96 74 [(0, vr Z 8 0), (1, vi s75)] [vi hj88e0] J95 (f_Scr_read_j74 s75 hj88e0 J95) κ69 := by
        intro gr96 hj88e0 J95
        unfold f_Scr_read_j74
        refine wq_istore_n (lv' := [(2, vi hj88e0), (0, vr Z 8 0), (1, vi s75)]) dX6_read_74 rfl (by decide) rfl ?_
        refine wq_iload_n dX6_read_75 0 rfl rfl ?_
        refine wq_if_eq 89 dX6_read_76 (by decide) rfl (fun c105 => ?_) (fun c105 => ?_)
        · refine wq_aload_n dX6_read_89 1 rfl rfl ?_
          refine wq_cVi M_Scr_readOrder (R_Scr_readOrder Z _) ob_8 rfl rfl (by decide) (by decide) (Nat.le_of_ble_eq_true rfl) ln_RX6_67 dX6_read_90 (fun gr97 x99 J98 => ?_)
          refine wq_if_ne 98 dX6_read_93 (by decide) rfl (fun c100 => ?_) (fun c100 => ?_)
          · refine wq_iconst dX6_read_96 ?_
            exact wq_zret rfl (by decide) ((hr72 _ _).trans rfl) dX6_read_97
          · refine wq_iinc (lv' := [(1, vi (s75 + 1)), (2, vi hj88e0), (0, vr Z 8 0)]) dX6_read_98 2 rfl (by decide) rfl ?_
            refine wq_goto 24 dX6_read_101 (by decide) ?_
            exact WQ.loc [2, 0] rfl (bk70 _ _ _)
        · refine wq_aload_n dX6_read_79 1 rfl rfl ?_
          refine wq_cVi M_Scr_readClose (R_Scr_readClose Z _) ob_8 rfl rfl (by decide) (by decide) (Nat.le_of_ble_eq_true rfl) ln_RX6_63 dX6_read_80 (fun gr101 x103 J102 => ?_)
          refine wq_if_eq 96 dX6_read_83 (by decide) rfl (fun c104 => ?_) (fun c104 => ?_)
          · refine wq_iconst dX6_read_96 ?_
            exact wq_zret rfl (by decide) ((hr72 _ _).trans rfl) dX6_read_97
          · refine wq_goto 98 dX6_read_86 (by decide) ?_
            refine wq_iinc (lv' := [(1, vi (s75 + 1)), (2, vi hj88e0), (0, vr Z 8 0)]) dX6_read_98 2 rfl (by decide) rfl ?_
            refine wq_goto 24 dX6_read_101 (by decide) ?_
            exact WQ.loc [2, 0] rfl (bk70 _ _ _)
      have hj89 : ∀ (gr107 : Nat → Nat)   (J106 : Mem), WQ Z (yX6_read, cX6_read, 3, some .boolean, 8) I gr107 73 [(0, vr Z 8 0), (1, vi s75)] [] J106 (f_Scr_read_j73 s75 J106) κ69 := by
        intro gr107 J106
        unfold f_Scr_read_j73
        refine wq_iconst dX6_read_73 ?_
        exact WQ.loc [0, 1] rfl (hj88 _  _ _)
      refine wq_if_le 73 dX6_read_55 (by decide) rfl (fun c94 => ?_) (fun c94 => ?_)
      · refine wq_aload_n dX6_read_58 0 rfl rfl ?_
        refine g_8_0 ln_RX6_36 dX6_read_59 ?_
        refine wq_iconst dX6_read_62 ?_
        refine wq_cVi M_Src_is (R_Src_is Z 5 _) ob_6 rfl rfl (by decide) (by decide) (Nat.le_of_ble_eq_true rfl) ln_RX6_59 dX6_read_63 (fun gr90 x92 J91 => ?_)
        refine wq_if_eq 73 dX6_read_66 (by decide) rfl (fun c93 => ?_) (fun c93 => ?_)
        · exact WQ.loc [0, 1] rfl (hj89 _   _)
        · refine wq_iconst dX6_read_69 ?_
          refine wq_goto 74 dX6_read_70 (by decide) ?_
          exact WQ.loc [0, 1] rfl (hj88 _  _ _)
      · exact WQ.loc [0, 1] rfl (hj89 _   _)
    refine wq_if_ne 51 dX6_read_35 (by decide) rfl (fun c85 => ?_) (fun c85 => ?_)
    · refine wq_aload_n dX6_read_38 0 rfl rfl ?_
      refine g_8_0 ln_RX6_36 dX6_read_39 ?_
      refine wq_iconst dX6_read_42 ?_
      refine wq_cVi M_Src_is (R_Src_is Z 0 _) ob_6 rfl rfl (by decide) (by decide) (Nat.le_of_ble_eq_true rfl) ln_RX6_59 dX6_read_43 (fun gr81 x83 J82 => ?_)
      refine wq_if_eq 51 dX6_read_46 (by decide) rfl (fun c84 => ?_) (fun c84 => ?_)
      · exact WQ.loc [0, 1] rfl (hj80 _   _)
      · refine wq_iconst dX6_read_49 ?_
        exact wq_zret rfl (by decide) ((hr72 _ _).trans rfl) dX6_read_50
    · exact WQ.loc [0, 1] rfl (hj80 _   _)

theorem M_Scr_read : MwV yX6_read cX6_read 3 (some .boolean) 0 := ⟨li_3 189 (by decide +kernel) (by decide +kernel), li_3 187 (by decide +kernel) (by decide +kernel), li_3 188 (by decide +kernel) (by decide +kernel), li_1 9 (by decide +kernel) (by decide +kernel), by decide +kernel⟩
theorem M_Scr_firstOrder : MwV yX6_firstOrder cX6_firstOrder 1 (some .int) 0 := ⟨li_4 0 (by decide +kernel) (by decide +kernel), li_3 238 (by decide +kernel) (by decide +kernel), li_3 239 (by decide +kernel) (by decide +kernel), li_1 9 (by decide +kernel) (by decide +kernel), by decide +kernel⟩
theorem M_PR_doOrder : MwV yX12_doOrder cX12_doOrder 3 (some .boolean) 1 := ⟨li_4 19 (by decide +kernel) (by decide +kernel), li_4 18 (by decide +kernel) (by decide +kernel), lw_in 23 (by decide +kernel) (by decide +kernel), li_1 1 (by decide +kernel) (by decide +kernel), by decide +kernel⟩
theorem M_Scr_orderBehind : MwV yX6_orderBehind cX6_orderBehind 2 (some .int) 1 := ⟨li_5 1 (by decide +kernel) (by decide +kernel), li_4 239 (by decide +kernel) (by decide +kernel), li_5 0 (by decide +kernel) (by decide +kernel), li_1 9 (by decide +kernel) (by decide +kernel), by decide +kernel⟩
theorem ln_RX12_135 : Cond.methodLink RX12 135 yX6_orderBehind ∈ lw_good := li_4 238 (by decide +kernel) (by decide +kernel)
theorem ln_RX12_132 : Cond.methodLink RX12 132 yX12_doOrder ∈ lw_good := li_4 16 (by decide +kernel) (by decide +kernel)
theorem M_Src_dropAll : MwV yX8_dropAll cX8_dropAll 1 (none) 0 := ⟨li_3 113 (by decide +kernel) (by decide +kernel), li_3 111 (by decide +kernel) (by decide +kernel), li_3 112 (by decide +kernel) (by decide +kernel), li_1 7 (by decide +kernel) (by decide +kernel), by decide +kernel⟩
theorem ln_RX12_99 : Cond.methodLink RX12 99 yX8_dropAll ∈ lw_good := li_3 110 (by decide +kernel) (by decide +kernel)
theorem ln_RX12_129 : Cond.methodLink RX12 129 yX6_firstOrder ∈ lw_good := li_3 237 (by decide +kernel) (by decide +kernel)
theorem M_PR_failure : MwV yX12_failure cX12_failure 1 (some .int) 0 := ⟨li_3 117 (by decide +kernel) (by decide +kernel), li_3 116 (by decide +kernel) (by decide +kernel), lw_in 12 (by decide +kernel) (by decide +kernel), li_1 1 (by decide +kernel) (by decide +kernel), by decide +kernel⟩
theorem ln_RX12_102 : Cond.methodLink RX12 102 yX12_failure ∈ lw_good := li_3 114 (by decide +kernel) (by decide +kernel)
theorem ln_RX12_125 : Cond.methodLink RX12 125 yX6_read ∈ lw_good := li_3 186 (by decide +kernel) (by decide +kernel)
noncomputable def f_PR_play_w50  (s : Int × Int) (I : Mem) : Option (((Int × Int) ⊕ (Int)) × Mem) :=
if (w32 s.1) < 40 then
if (w32 s.2) = (-1) then
some (.inr s.1, I)
else
bnd (f_PR_doOrder s.2 I) fun x13 J12 =>
if (w32 x13) = 0 then
some (.inr s.1, J12)
else
bnd (f_Scr_orderBehind s.2 J12) fun x16 J15 =>
some (.inl ((s.1 + 1), x16), J15)
else
some (.inr s.1, I)

noncomputable def f_PR_play  (I : Mem) : Option ((Int) × Mem) :=
bnd (f_Scr_read I) fun x3 J2 =>
if (w32 x3) = 0 then
bnd (f_Src_dropAll J2) fun _ J43 =>
bnd (f_PR_failure J43) fun x47 J46 =>
some (x47, J46)
else
ltI (sI J2 0 0 9 (-1)) fun J4 =>
bnd (f_His_remember 0 J4) fun _ J6 =>
bnd (f_Scr_firstOrder J6) fun x10 J9 =>
bnd (whl (f_PR_play_w50) (0, x10) J9) fun r36 J37 =>
bnd (f_Src_dropAll J37) fun _ J40 =>
some (r36, J40)
set_option maxRecDepth 20000 in
theorem R_PR_play (Z : ZT)  (I : Mem) (r : Int) (J : Mem) (hf : f_PR_play I = some (r, J)) : Runs Z yX12_play cX12_play 4 (some .int) 9 [vr Z 0 0] I (some (vi r), J) := by
  refine Runs.of (rv := fun x => some (vi x)) (by decide +kernel) (Nat.le_of_ble_eq_true rfl) hf (fun gr => ?_)
  unfold f_PR_play
  refine WQ.loc [0] (lv' := [(0, vr Z 0 0)]) rfl ?_
  refine wq_aload_n dX12_play_0 0 rfl rfl ?_
  refine g_0_6 ln_RX12_54 dX12_play_1 ?_
  refine wq_cVi M_Scr_read (R_Scr_read Z _) ob_8 rfl rfl (by decide) (by decide) (Nat.le_of_ble_eq_true rfl) ln_RX12_125 dX12_play_4 (fun gr1 x3 J2 => ?_)
  refine wq_istore_n (lv' := [(1, vi x3), (0, vr Z 0 0)]) dX12_play_7 rfl (by decide) rfl ?_
  refine wq_iload_n dX12_play_8 0 rfl rfl ?_
  refine wq_if_ne 24 dX12_play_9 (by decide) rfl (fun c48 => ?_) (fun c48 => ?_)
  · refine wq_aload_n dX12_play_12 1 rfl rfl ?_
    refine g_0_4 ln_RX12_36 dX12_play_13 ?_
    refine wq_cVv M_Src_dropAll (R_Src_dropAll Z _) ob_6 rfl rfl (by decide) (by decide) (Nat.le_of_ble_eq_true rfl) ln_RX12_99 dX12_play_16 (fun gr42 _ J43 => ?_)
    refine wq_aload_n dX12_play_19 1 rfl rfl ?_
    refine wq_cVi M_PR_failure (R_PR_failure Z _) ob_0 rfl rfl (by decide) (by decide) (Nat.le_of_ble_eq_true rfl) ln_RX12_102 dX12_play_20 (fun gr45 x47 J46 => ?_)
    exact wq_iret rfl rfl dX12_play_23
  · refine wq_aload_n dX12_play_24 1 rfl rfl ?_
    refine wq_iconst dX12_play_25 ?_
    refine p_0_9 ln_RX12_72 dX12_play_26 (fun J4 => ?_)
    refine wq_aload_n dX12_play_29 1 rfl rfl ?_
    refine g_0_7 ln_RX12_61 dX12_play_30 ?_
    refine wq_aload_n dX12_play_33 1 rfl rfl ?_
    refine g_0_0 ln_RX12_12 dX12_play_34 ?_
    refine wq_cVv M_His_remember (R_His_remember Z 0 _) ob_9 rfl rfl (by decide) (by decide) (Nat.le_of_ble_eq_true rfl) ln_RX12_126 dX12_play_37 (fun gr5 _ J6 => ?_)
    refine wq_iconst dX12_play_40 ?_
    refine wq_istore_n (lv' := [(2, vi 0), (1, vi x3), (0, vr Z 0 0)]) dX12_play_41 rfl (by decide) rfl ?_
    refine wq_aload_n dX12_play_42 2 rfl rfl ?_
    refine g_0_6 ln_RX12_54 dX12_play_43 ?_
    refine wq_cVi M_Scr_firstOrder (R_Scr_firstOrder Z _) ob_8 rfl rfl (by decide) (by decide) (Nat.le_of_ble_eq_true rfl) ln_RX12_129 dX12_play_46 (fun gr8 x10 J9 => ?_)
    refine wq_istore_n (lv' := [(3, vi x10), (2, vi 0), (1, vi x3), (0, vr Z 0 0)]) dX12_play_49 rfl (by decide) rfl ?_
    refine WQ.loc [3, 1, 0] (lv' := [(0, vr Z 0 0), (2, vi 0), (3, vi x10)]) rfl ?_
    refine wq_loopS (fun s26 => [(0, vr Z 0 0), (2, vi s26.1), (3, vi s26.2)]) 84 (fun r36 => [(0, vr Z 0 0), (2, vi r36)]) (fun κ20 bk21 ex22 gr25 s26 J24 => ?_) (fun gr38 r36 J37 => ?_) gr8 _ rfl
    · unfold f_PR_play_w50
      refine wq_iload_n dX12_play_50 1 rfl rfl ?_
      refine wq_bipush dX12_play_51 (by decide) ?_
      refine wq_icmp_ge 84 dX12_play_53 (by decide) rfl rfl (fun c35 => ?_) (fun c35 => ?_)
      · refine wq_iload_n dX12_play_56 2 rfl rfl ?_
        refine wq_iconst dX12_play_57 ?_
        refine wq_icmp_eq 84 dX12_play_58 (by decide) rfl rfl (fun c34 => ?_) (fun c34 => ?_)
        · exact WQ.loc [0, 1] rfl (ex22 _ _ _)
        · refine wq_aload_n dX12_play_61 0 rfl rfl ?_
          refine wq_iload_n dX12_play_62 2 rfl rfl ?_
          refine wq_cVi M_PR_doOrder (R_PR_doOrder Z s26.2 _) ob_0 rfl rfl (by decide) (by decide) (Nat.le_of_ble_eq_true rfl) ln_RX12_132 dX12_play_63 (fun gr27 x29 J28 => ?_)
          refine wq_if_eq 84 dX12_play_66 (by decide) rfl (fun c33 => ?_) (fun c33 => ?_)
          · exact WQ.loc [0, 1] rfl (ex22 _ _ _)
          · refine wq_iinc (lv' := [(2, vi (s26.1 + 1)), (0, vr Z 0 0), (3, vi s26.2)]) dX12_play_69 1 rfl (by decide) rfl ?_
            refine wq_aload_n dX12_play_72 1 rfl rfl ?_
            refine g_0_6 ln_RX12_54 dX12_play_73 ?_
            refine wq_iload_n dX12_play_76 2 rfl rfl ?_
            refine wq_cVi M_Scr_orderBehind (R_Scr_orderBehind Z s26.2 _) ob_8 rfl rfl (by decide) (by decide) (Nat.le_of_ble_eq_true rfl) ln_RX12_135 dX12_play_77 (fun gr30 x32 J31 => ?_)
            refine wq_istore_n (lv' := [(3, vi x32), (2, vi (s26.1 + 1)), (0, vr Z 0 0)]) dX12_play_80 rfl (by decide) rfl ?_
            refine wq_goto 50 dX12_play_81 (by decide) ?_
            exact WQ.loc [2, 1, 0] rfl (bk21 _ _ _)
      · exact WQ.loc [0, 1] rfl (ex22 _ _ _)
    · refine wq_aload_n dX12_play_84 0 rfl rfl ?_
      refine g_0_4 ln_RX12_36 dX12_play_85 ?_
      refine wq_cVv M_Src_dropAll (R_Src_dropAll Z _) ob_6 rfl rfl (by decide) (by decide) (Nat.le_of_ble_eq_true rfl) ln_RX12_99 dX12_play_88 (fun gr39 _ J40 => ?_)
      refine wq_iload_n dX12_play_91 1 rfl rfl ?_
      exact wq_iret rfl rfl dX12_play_92

theorem M_PR_bestNumber : MwV yX12_bestNumber cX12_bestNumber 6 (some .int) 1 := ⟨li_5 76 (by decide +kernel) (by decide +kernel), li_5 75 (by decide +kernel) (by decide +kernel), lw_in 40 (by decide +kernel) (by decide +kernel), li_1 1 (by decide +kernel) (by decide +kernel), by decide +kernel⟩
theorem ln_RX12_276 : Cond.methodLink RX12 276 yX12_bestNumber ∈ lw_good := li_5 73 (by decide +kernel) (by decide +kernel)
noncomputable def f_PR_bestTie  (I : Mem) : Option ((Int) × Mem) :=
bnd (f_PR_bestNumber 5 I) fun x3 J2 =>
some (x3, J2)
set_option maxRecDepth 20000 in
theorem R_PR_bestTie (Z : ZT)  (I : Mem) (r : Int) (J : Mem) (hf : f_PR_bestTie I = some (r, J)) : Runs Z yX12_bestTie cX12_bestTie 1 (some .int) 7 [vr Z 0 0] I (some (vi r), J) := by
  refine Runs.of (rv := fun x => some (vi x)) (by decide +kernel) (Nat.le_of_ble_eq_true rfl) hf (fun gr => ?_)
  unfold f_PR_bestTie
  refine WQ.loc [0] (lv' := [(0, vr Z 0 0)]) rfl ?_
  refine wq_aload_n dX12_bestTie_0 0 rfl rfl ?_
  refine wq_iconst dX12_bestTie_1 ?_
  refine wq_cVi M_PR_bestNumber (R_PR_bestNumber Z 5 _) ob_0 rfl rfl (by decide) (by decide) (Nat.le_of_ble_eq_true rfl) ln_RX12_276 dX12_bestTie_2 (fun gr1 x3 J2 => ?_)
  exact wq_iret rfl rfl dX12_bestTie_5

noncomputable def f_PR_bestLeast  (I : Mem) : Option ((Int) × Mem) :=
bnd (f_PR_bestNumber 4 I) fun x3 J2 =>
some (x3, J2)
set_option maxRecDepth 20000 in
theorem R_PR_bestLeast (Z : ZT)  (I : Mem) (r : Int) (J : Mem) (hf : f_PR_bestLeast I = some (r, J)) : Runs Z yX12_bestLeast cX12_bestLeast 1 (some .int) 7 [vr Z 0 0] I (some (vi r), J) := by
  refine Runs.of (rv := fun x => some (vi x)) (by decide +kernel) (Nat.le_of_ble_eq_true rfl) hf (fun gr => ?_)
  unfold f_PR_bestLeast
  refine WQ.loc [0] (lv' := [(0, vr Z 0 0)]) rfl ?_
  refine wq_aload_n dX12_bestLeast_0 0 rfl rfl ?_
  refine wq_iconst dX12_bestLeast_1 ?_
  refine wq_cVi M_PR_bestNumber (R_PR_bestNumber Z 4 _) ob_0 rfl rfl (by decide) (by decide) (Nat.le_of_ble_eq_true rfl) ln_RX12_276 dX12_bestLeast_2 (fun gr1 x3 J2 => ?_)
  exact wq_iret rfl rfl dX12_bestLeast_5

theorem M_Set_readRules : MwV yX7_readRules cX7_readRules 2 (some .boolean) 0 := ⟨li_2 175 (by decide +kernel) (by decide +kernel), li_2 174 (by decide +kernel) (by decide +kernel), lw_in 2 (by decide +kernel) (by decide +kernel), li_1 8 (by decide +kernel) (by decide +kernel), by decide +kernel⟩
theorem M_Set_readStart : MwV yX7_readStart cX7_readStart 1 (some .boolean) 0 := ⟨li_3 69 (by decide +kernel) (by decide +kernel), li_3 68 (by decide +kernel) (by decide +kernel), lw_in 7 (by decide +kernel) (by decide +kernel), li_1 8 (by decide +kernel) (by decide +kernel), by decide +kernel⟩
theorem M_Set_readStatements : MwV yX7_readStatements cX7_readStatements 2 (some .boolean) 0 := ⟨li_3 79 (by decide +kernel) (by decide +kernel), li_3 78 (by decide +kernel) (by decide +kernel), lw_in 8 (by decide +kernel) (by decide +kernel), li_1 8 (by decide +kernel) (by decide +kernel), by decide +kernel⟩
theorem ln_RX7_50 : Cond.methodLink RX7 50 yX7_readStatements ∈ lw_good := li_3 76 (by decide +kernel) (by decide +kernel)
theorem ln_RX7_47 : Cond.methodLink RX7 47 yX7_readStart ∈ lw_good := li_3 66 (by decide +kernel) (by decide +kernel)
theorem ln_RX7_43 : Cond.methodLink RX7 43 yX7_readRules ∈ lw_good := li_2 172 (by decide +kernel) (by decide +kernel)
theorem ln_RX7_38 : Cond.methodLink RX7 38 yX8_rewind ∈ lw_good := li_2 160 (by decide +kernel) (by decide +kernel)
theorem ln_RX7_19 : Cond.methodLink RX7 19 yX1_clear ∈ lw_good := li_2 159 (by decide +kernel) (by decide +kernel)
noncomputable def f_Set_read  (I : Mem) : Option ((Int) × Mem) :=
bnd (f_G_clear 1 I) fun _ J2 =>
ltI (sI J2 7 0 2 0) fun J4 =>
ltI (sI J4 7 0 4 0) fun J5 =>
ltI (sI J5 7 0 5 0) fun J6 =>
ltI (sI J6 7 0 6 0) fun J7 =>
bnd (f_Src_rewind J7) fun _ J9 =>
bnd (f_Set_readRules J9) fun x13 J12 =>
if (w32 x13) = 0 then
some (0, J12)
else
bnd (f_Set_readStart J12) fun x16 J15 =>
if (w32 x16) = 0 then
some (0, J15)
else
bnd (f_Set_readStatements J15) fun x19 J18 =>
if (w32 x19) = 0 then
some (0, J18)
else
some (1, J18)
set_option maxRecDepth 20000 in
theorem R_Set_read (Z : ZT)  (I : Mem) (r : Int) (J : Mem) (hf : f_Set_read I = some (r, J)) : Runs Z yX7_read cX7_read 1 (some .boolean) 9 [vr Z 7 0] I (some (vi r), J) := by
  refine Runs.of (rv := fun x => some (vi x)) (by decide +kernel) (Nat.le_of_ble_eq_true rfl) hf (fun gr => ?_)
  unfold f_Set_read
  refine WQ.loc [0] (lv' := [(0, vr Z 7 0)]) rfl ?_
  refine wq_aload_n dX7_read_0 0 rfl rfl ?_
  refine g_7_1 ln_RX7_15 dX7_read_1 ?_
  refine wq_cVv M_G_clear (R_G_clear Z 1 _) (ob_1 (by decide)) rfl rfl (by decide) (by decide) (Nat.le_of_ble_eq_true rfl) ln_RX7_19 dX7_read_4 (fun gr1 _ J2 => ?_)
  refine wq_aload_n dX7_read_7 0 rfl rfl ?_
  refine wq_iconst dX7_read_8 ?_
  refine p_7_2 ln_RX7_24 dX7_read_9 (fun J4 => ?_)
  refine wq_aload_n dX7_read_12 0 rfl rfl ?_
  refine wq_iconst dX7_read_13 ?_
  refine p_7_4 (by decide) ln_RX7_28 dX7_read_14 (fun J5 => ?_)
  refine wq_aload_n dX7_read_17 0 rfl rfl ?_
  refine wq_iconst dX7_read_18 ?_
  refine p_7_5 (by decide) ln_RX7_32 dX7_read_19 (fun J6 => ?_)
  refine wq_aload_n dX7_read_22 0 rfl rfl ?_
  refine wq_iconst dX7_read_23 ?_
  refine p_7_6 (by decide) ln_RX7_35 dX7_read_24 (fun J7 => ?_)
  refine wq_aload_n dX7_read_27 0 rfl rfl ?_
  refine g_7_0 ln_RX7_9 dX7_read_28 ?_
  refine wq_cVv M_Src_rewind (R_Src_rewind Z _) ob_6 rfl rfl (by decide) (by decide) (Nat.le_of_ble_eq_true rfl) ln_RX7_38 dX7_read_31 (fun gr8 _ J9 => ?_)
  refine wq_aload_n dX7_read_34 0 rfl rfl ?_
  refine wq_cVi M_Set_readRules (R_Set_readRules Z _) ob_7 rfl rfl (by decide) (by decide) (Nat.le_of_ble_eq_true rfl) ln_RX7_43 dX7_read_35 (fun gr11 x13 J12 => ?_)
  refine wq_if_eq 59 dX7_read_38 (by decide) rfl (fun c22 => ?_) (fun c22 => ?_)
  · refine wq_iconst dX7_read_59 ?_
    exact wq_zret rfl (by decide) rfl dX7_read_60
  · refine wq_aload_n dX7_read_41 0 rfl rfl ?_
    refine wq_cVi M_Set_readStart (R_Set_readStart Z _) ob_7 rfl rfl (by decide) (by decide) (Nat.le_of_ble_eq_true rfl) ln_RX7_47 dX7_read_42 (fun gr14 x16 J15 => ?_)
    refine wq_if_eq 59 dX7_read_45 (by decide) rfl (fun c21 => ?_) (fun c21 => ?_)
    · refine wq_iconst dX7_read_59 ?_
      exact wq_zret rfl (by decide) rfl dX7_read_60
    · refine wq_aload_n dX7_read_48 0 rfl rfl ?_
      refine wq_cVi M_Set_readStatements (R_Set_readStatements Z _) ob_7 rfl rfl (by decide) (by decide) (Nat.le_of_ble_eq_true rfl) ln_RX7_50 dX7_read_49 (fun gr17 x19 J18 => ?_)
      refine wq_if_eq 59 dX7_read_52 (by decide) rfl (fun c20 => ?_) (fun c20 => ?_)
      · refine wq_iconst dX7_read_59 ?_
        exact wq_zret rfl (by decide) rfl dX7_read_60
      · refine wq_iconst dX7_read_55 ?_
        refine wq_goto 60 dX7_read_56 (by decide) ?_
        exact wq_zret rfl (by decide) rfl dX7_read_60

theorem ln_RX12_45 : Cond.fieldLink RX12 45 RX12 "setup" "LPairRules$Setup;" ∈ lw_good := li_2 105 (by decide +kernel) (by decide +kernel)
theorem M_Set_read : MwV yX7_read cX7_read 1 (some .boolean) 0 := ⟨li_2 158 (by decide +kernel) (by decide +kernel), li_2 156 (by decide +kernel) (by decide +kernel), li_2 157 (by decide +kernel) (by decide +kernel), li_1 8 (by decide +kernel) (by decide +kernel), by decide +kernel⟩
theorem M_G_beginWith : MwV yX1_beginWith cX1_beginWith 2 (none) 1 := ⟨li_3 144 (by decide +kernel) (by decide +kernel), li_3 142 (by decide +kernel) (by decide +kernel), li_3 143 (by decide +kernel) (by decide +kernel), li_1 2 (by decide +kernel) (by decide +kernel), by decide +kernel⟩
theorem M_His_forgetSaved : MwV yX2_forgetSaved cX2_forgetSaved 2 (none) 0 := ⟨li_3 175 (by decide +kernel) (by decide +kernel), li_3 173 (by decide +kernel) (by decide +kernel), li_3 174 (by decide +kernel) (by decide +kernel), li_1 12 (by decide +kernel) (by decide +kernel), by decide +kernel⟩
theorem ln_RX12_119 : Cond.methodLink RX12 119 yX2_forgetSaved ∈ lw_good := li_3 172 (by decide +kernel) (by decide +kernel)
theorem ln_RX12_109 : Cond.methodLink RX12 109 yX1_beginWith ∈ lw_good := li_3 141 (by decide +kernel) (by decide +kernel)
theorem ln_RX12_95 : Cond.methodLink RX12 95 yX7_read ∈ lw_good := li_2 155 (by decide +kernel) (by decide +kernel)
noncomputable def f_PR_load  (I : Mem) : Option ((Int) × Mem) :=
bnd (f_Set_read I) fun x3 J2 =>
bnd (f_Src_dropAll J2) fun _ J5 =>
if (w32 x3) = 0 then
bnd (f_PR_failure J5) fun x28 J27 =>
some (x28, J27)
else
ltI (sI J5 0 0 9 (-1)) fun J7 =>
bnd (f_Sv_unfold 1 J7) fun _ J9 =>
bnd (f_G_beginWith 1 J9) fun _ J12 =>
bnd (f_G_takeFrom 0 1 J12) fun _ J15 =>
bnd (f_His_forgetPast J15) fun _ J18 =>
bnd (f_His_forgetSaved J18) fun _ J21 =>
bnd (f_G_textLength 0 J21) fun x25 J24 =>
some (x25, J24)
set_option maxRecDepth 20000 in
theorem R_PR_load (Z : ZT)  (I : Mem) (r : Int) (J : Mem) (hf : f_PR_load I = some (r, J)) : Runs Z yX12_load cX12_load 2 (some .int) 10 [vr Z 0 0] I (some (vi r), J) := by
  refine Runs.of (rv := fun x => some (vi x)) (by decide +kernel) (Nat.le_of_ble_eq_true rfl) hf (fun gr => ?_)
  unfold f_PR_load
  refine WQ.loc [0] (lv' := [(0, vr Z 0 0)]) rfl ?_
  refine wq_aload_n dX12_load_0 0 rfl rfl ?_
  refine g_0_5 ln_RX12_45 dX12_load_1 ?_
  refine wq_cVi M_Set_read (R_Set_read Z _) ob_7 rfl rfl (by decide) (by decide) (Nat.le_of_ble_eq_true rfl) ln_RX12_95 dX12_load_4 (fun gr1 x3 J2 => ?_)
  refine wq_istore_n (lv' := [(1, vi x3), (0, vr Z 0 0)]) dX12_load_7 rfl (by decide) rfl ?_
  refine wq_aload_n dX12_load_8 1 rfl rfl ?_
  refine g_0_4 ln_RX12_36 dX12_load_9 ?_
  refine wq_cVv M_Src_dropAll (R_Src_dropAll Z _) ob_6 rfl rfl (by decide) (by decide) (Nat.le_of_ble_eq_true rfl) ln_RX12_99 dX12_load_12 (fun gr4 _ J5 => ?_)
  refine wq_iload_n dX12_load_15 0 rfl rfl ?_
  refine wq_if_ne 24 dX12_load_16 (by decide) rfl (fun c29 => ?_) (fun c29 => ?_)
  · refine wq_aload_n dX12_load_19 1 rfl rfl ?_
    refine wq_cVi M_PR_failure (R_PR_failure Z _) ob_0 rfl rfl (by decide) (by decide) (Nat.le_of_ble_eq_true rfl) ln_RX12_102 dX12_load_20 (fun gr26 x28 J27 => ?_)
    exact wq_iret rfl rfl dX12_load_23
  · refine wq_aload_n dX12_load_24 1 rfl rfl ?_
    refine wq_iconst dX12_load_25 ?_
    refine p_0_9 ln_RX12_72 dX12_load_26 (fun J7 => ?_)
    refine wq_aload_n dX12_load_29 1 rfl rfl ?_
    refine g_0_3 ln_RX12_29 dX12_load_30 ?_
    refine wq_aload_n dX12_load_33 1 rfl rfl ?_
    refine g_0_1 ln_RX12_16 dX12_load_34 ?_
    refine wq_cVv M_Sv_unfold (R_Sv_unfold Z 1 _) ob_5 rfl rfl (by decide) (by decide) (Nat.le_of_ble_eq_true rfl) ln_RX12_105 dX12_load_37 (fun gr8 _ J9 => ?_)
    refine wq_aload_n dX12_load_40 1 rfl rfl ?_
    refine g_0_1 ln_RX12_16 dX12_load_41 ?_
    refine wq_aload_n dX12_load_44 1 rfl rfl ?_
    refine g_0_3 ln_RX12_29 dX12_load_45 ?_
    refine wq_cVv M_G_beginWith (R_G_beginWith Z 1 _) (ob_1 (by decide)) rfl rfl (by decide) (by decide) (Nat.le_of_ble_eq_true rfl) ln_RX12_109 dX12_load_48 (fun gr11 _ J12 => ?_)
    refine wq_aload_n dX12_load_51 1 rfl rfl ?_
    refine g_0_0 ln_RX12_12 dX12_load_52 ?_
    refine wq_aload_n dX12_load_55 1 rfl rfl ?_
    refine g_0_1 ln_RX12_16 dX12_load_56 ?_
    refine wq_cVv M_G_takeFrom (R_G_takeFrom Z 0 1 _) (ob_1 (by decide)) rfl rfl (by decide) (by decide) (Nat.le_of_ble_eq_true rfl) ln_RX12_113 dX12_load_59 (fun gr14 _ J15 => ?_)
    refine wq_aload_n dX12_load_62 1 rfl rfl ?_
    refine g_0_7 ln_RX12_61 dX12_load_63 ?_
    refine wq_cVv M_His_forgetPast (R_His_forgetPast Z _) ob_9 rfl rfl (by decide) (by decide) (Nat.le_of_ble_eq_true rfl) ln_RX12_116 dX12_load_66 (fun gr17 _ J18 => ?_)
    refine wq_aload_n dX12_load_69 1 rfl rfl ?_
    refine g_0_7 ln_RX12_61 dX12_load_70 ?_
    refine wq_cVv M_His_forgetSaved (R_His_forgetSaved Z _) ob_9 rfl rfl (by decide) (by decide) (Nat.le_of_ble_eq_true rfl) ln_RX12_119 dX12_load_73 (fun gr20 _ J21 => ?_)
    refine wq_aload_n dX12_load_76 1 rfl rfl ?_
    refine g_0_0 ln_RX12_12 dX12_load_77 ?_
    refine wq_cVi M_G_textLength (R_G_textLength Z 0 _) (ob_1 (by decide)) rfl rfl (by decide) (by decide) (Nat.le_of_ble_eq_true rfl) ln_RX12_122 dX12_load_80 (fun gr23 x25 J24 => ?_)
    exact wq_iret rfl rfl dX12_load_83
end
section
theorem ln_RX13_100 : Cond.fieldLink RX13 100 RX13 "thrown" "I" ∈ lw_good := li_7 61 (by decide +kernel) (by decide +kernel)
noncomputable def f_M_thrown  (I : Mem) : Option ((Int) × Mem) :=
some ((I 26 0 7), I)
set_option maxRecDepth 20000 in
theorem R_M_thrown (Z : ZT)  (I : Mem) (r : Int) (J : Mem) (hf : f_M_thrown I = some (r, J)) : Runs Z yX13_thrown cX13_thrown 1 (some .int) 1 [vr Z 26 0] I (some (vi r), J) := by
  refine Runs.of (rv := fun x => some (vi x)) (by decide +kernel) (Nat.le_of_ble_eq_true rfl) hf (fun gr => ?_)
  unfold f_M_thrown
  refine WQ.loc [0] (lv' := [(0, vr Z 26 0)]) rfl ?_
  refine wq_aload_n dX13_thrown_0 0 rfl rfl ?_
  refine g_26_7 ln_RX13_100 dX13_thrown_1 ?_
  exact wq_iret rfl rfl dX13_thrown_4

noncomputable def f_M_in (a0 : Int) (a1 : Int) (a2 : Int) (I : Mem) : Option ((Int) × Mem) :=
if (w32 a0) < (w32 a1) then
some (0, I)
else
if (w32 a2) < (w32 a0) then
some (0, I)
else
some (1, I)
set_option maxRecDepth 20000 in
theorem R_M_in (Z : ZT) (a0 : Int) (a1 : Int) (a2 : Int) (I : Mem) (r : Int) (J : Mem) (hf : f_M_in a0 a1 a2 I = some (r, J)) : Runs Z yX13_in cX13_in 3 (some .boolean) 1 [vi a0, vi a1, vi a2] I (some (vi r), J) := by
  refine Runs.of (rv := fun x => some (vi x)) (by decide +kernel) (Nat.le_of_ble_eq_true rfl) hf (fun gr => ?_)
  unfold f_M_in
  refine WQ.loc [0, 1, 2] (lv' := [(0, vi a0), (1, vi a1), (2, vi a2)]) rfl ?_
  refine wq_iload_n dX13_in_0 0 rfl rfl ?_
  refine wq_iload_n dX13_in_1 1 rfl rfl ?_
  refine wq_icmp_lt 14 dX13_in_2 (by decide) rfl rfl (fun c2 => ?_) (fun c2 => ?_)
  · refine wq_iconst dX13_in_14 ?_
    exact wq_zret rfl (by decide) rfl dX13_in_15
  · refine wq_iload_n dX13_in_5 0 rfl rfl ?_
    refine wq_iload_n dX13_in_6 2 rfl rfl ?_
    refine wq_icmp_gt 14 dX13_in_7 (by decide) rfl rfl (fun c1 => ?_) (fun c1 => ?_)
    · refine wq_iconst dX13_in_14 ?_
      exact wq_zret rfl (by decide) rfl dX13_in_15
    · refine wq_iconst dX13_in_10 ?_
      refine wq_goto 15 dX13_in_11 (by decide) ?_
      exact wq_zret rfl (by decide) rfl dX13_in_15

noncomputable def f_M_one (a0 : Int) (I : Mem) : Option ((Int) × Mem) :=
if (w32 a0) = 0 then
some (0, I)
else
some (1, I)
set_option maxRecDepth 20000 in
theorem R_M_one (Z : ZT) (a0 : Int) (I : Mem) (r : Int) (J : Mem) (hf : f_M_one a0 I = some (r, J)) : Runs Z yX13_one cX13_one 1 (some .int) 1 [vi a0] I (some (vi r), J) := by
  refine Runs.of (rv := fun x => some (vi x)) (by decide +kernel) (Nat.le_of_ble_eq_true rfl) hf (fun gr => ?_)
  unfold f_M_one
  refine WQ.loc [0] (lv' := [(0, vi a0)]) rfl ?_
  refine wq_iload_n dX13_one_0 0 rfl rfl ?_
  refine wq_if_eq 8 dX13_one_1 (by decide) rfl (fun c1 => ?_) (fun c1 => ?_)
  · refine wq_iconst dX13_one_8 ?_
    exact wq_iret rfl rfl dX13_one_9
  · refine wq_iconst dX13_one_4 ?_
    refine wq_goto 9 dX13_one_5 (by decide) ?_
    exact wq_iret rfl rfl dX13_one_9

noncomputable def f_M_fails_j16    (I : Mem) : Option ((Int) × Mem) :=
if (w32 (I 26 0 7)) = 0 then
some (0, I)
else
some (1, I)

noncomputable def f_M_fails (a1 : Int) (a2 : Int) (I : Mem) : Option ((Int) × Mem) :=
if (w32 (I 26 0 7)) = 0 then
if (w32 a1) = 0 then
f_M_fails_j16 I
else
ltI (sI I 26 0 7 a2) fun J2 =>
f_M_fails_j16 J2
else
f_M_fails_j16 I
set_option maxRecDepth 20000 in
theorem R_M_fails (Z : ZT) (a1 : Int) (a2 : Int) (I : Mem) (r : Int) (J : Mem) (hf : f_M_fails a1 a2 I = some (r, J)) : Runs Z yX13_fails cX13_fails 3 (some .boolean) 1 [vr Z 26 0, vi a1, vi a2] I (some (vi r), J) := by
  refine Runs.of (rv := fun x => some (vi x)) (by decide +kernel) (Nat.le_of_ble_eq_true rfl) hf (fun gr => ?_)
  unfold f_M_fails
  refine WQ.loc [0, 1, 2] (lv' := [(0, vr Z 26 0), (1, vi a1), (2, vi a2)]) rfl ?_
  refine wq_aload_n dX13_fails_0 0 rfl rfl ?_
  refine g_26_7 ln_RX13_100 dX13_fails_1 ?_
  have hj1 : ∀ (gr7 : Nat → Nat)   (J6 : Mem), WQ Z (yX13_fails, cX13_fails, 3, some .boolean, 1) I gr7 16 [(0, vr Z 26 0)] [] J6 (f_M_fails_j16 J6) (fun b K => some (.inl ((fun x => some (vi x)) b), K)) := by
    intro gr7 J6
    unfold f_M_fails_j16
    refine wq_aload_n dX13_fails_16 0 rfl rfl ?_
    refine g_26_7 ln_RX13_100 dX13_fails_17 ?_
    refine wq_if_eq 27 dX13_fails_20 (by decide) rfl (fun c8 => ?_) (fun c8 => ?_)
    · refine wq_iconst dX13_fails_27 ?_
      exact wq_zret rfl (by decide) rfl dX13_fails_28
    · refine wq_iconst dX13_fails_23 ?_
      refine wq_goto 28 dX13_fails_24 (by decide) ?_
      exact wq_zret rfl (by decide) rfl dX13_fails_28
  refine wq_if_ne 16 dX13_fails_4 (by decide) rfl (fun c4 => ?_) (fun c4 => ?_)
  · refine wq_iload_n dX13_fails_7 1 rfl rfl ?_
    refine wq_if_eq 16 dX13_fails_8 (by decide) rfl (fun c3 => ?_) (fun c3 => ?_)
    · exact WQ.loc [0] rfl (hj1 _   _)
    · refine wq_aload_n dX13_fails_11 0 rfl rfl ?_
      refine wq_iload_n dX13_fails_12 2 rfl rfl ?_
      refine p_26_7 ln_RX13_100 dX13_fails_13 (fun J2 => ?_)
      exact WQ.loc [0] rfl (hj1 _   _)
  · exact WQ.loc [0] rfl (hj1 _   _)

noncomputable def f_M_lays_w3 (v0 : Nat) (v1 : Int) (v2 : Nat) (v3 : Int) (s : Int) (I : Mem) : Option (((Int) ⊕ (Unit)) × Mem) :=
if (w32 s) < 16860 then
if 0 ≤ (w32 (v1 + s)) ∧ (w32 (v1 + s)) < ((mLen v0 : Nat) : Int) then
if 0 ≤ (w32 (v3 + s)) ∧ (w32 (v3 + s)) < ((mLen v2 : Nat) : Int) then
ltI (sI I 27 v2 (w32 (v3 + s)).toNat (I 27 v0 (w32 (v1 + s)).toNat)) fun J3 =>
some (.inl (s + 1), J3)
else none
else none
else
some (.inr (), I)

noncomputable def f_M_lays (a0 : Nat) (a1 : Int) (a2 : Nat) (a3 : Int) (I : Mem) : Option ((Unit) × Mem) :=
if a0 < 23 then
if a2 < 23 then
bnd (whl (f_M_lays_w3 a0 a1 a2 a3) 0 I) fun r16 J17 =>
some ((), J17)
else none
else none
set_option maxRecDepth 20000 in
theorem R_M_lays (Z : ZT) (a0 : Nat) (a1 : Int) (a2 : Nat) (a3 : Int) (I : Mem) (r : Unit) (J : Mem) (hf : f_M_lays a0 a1 a2 a3 I = some (r, J)) : Runs Z yX13_lays cX13_lays 5 (none) 1 [vr Z 27 a0, vi a1, vr Z 27 a2, vi a3] I (none, J) := by
  refine Runs.of (rv := fun _ => none) (by decide +kernel) (Nat.le_of_ble_eq_true rfl) hf (fun gr => ?_)
  unfold f_M_lays
  refine WQ.loc [0, 1, 2, 3] (lv' := [(0, vr Z 27 a0), (1, vi a1), (2, vr Z 27 a2), (3, vi a3)]) rfl ?_
  refine wq_grd (fun h0 => ?_)
  refine wq_grd (fun h2 => ?_)
  refine wq_iconst dX13_lays_0 ?_
  refine wq_istore (lv' := [(4, vi 0), (0, vr Z 27 a0), (1, vi a1), (2, vr Z 27 a2), (3, vi a3)]) dX13_lays_1 (by decide) rfl ?_
  refine WQ.loc [1, 2, 3, 4, 0] (lv' := [(0, vr Z 27 a0), (1, vi a1), (2, vr Z 27 a2), (3, vi a3), (4, vi 0)]) rfl ?_
  refine wq_loopS (fun s11 => [(0, vr Z 27 a0), (1, vi a1), (2, vr Z 27 a2), (3, vi a3), (4, vi s11)]) 29 (fun _ => []) (fun κ5 bk6 ex7 gr10 s11 J9 => ?_) (fun gr18 r16 J17 => ?_) gr _ rfl
  · unfold f_M_lays_w3
    refine wq_iload dX13_lays_3 4 rfl ?_
    refine wq_sipush dX13_lays_5 (by decide) ?_
    refine wq_icmp_ge 29 dX13_lays_8 (by decide) rfl rfl (fun c15 => ?_) (fun c15 => ?_)
    · refine wq_aload_n dX13_lays_11 2 rfl rfl ?_
      refine wq_iload_n dX13_lays_12 3 rfl rfl ?_
      refine wq_iload dX13_lays_13 4 rfl ?_
      refine wq_iadd dX13_lays_15 ?_
      refine wq_aload_n dX13_lays_16 0 rfl rfl ?_
      refine wq_iload_n dX13_lays_17 1 rfl rfl ?_
      refine wq_iload dX13_lays_18 4 rfl ?_
      refine wq_iadd dX13_lays_20 ?_
      refine wq_grd (fun g12 => ?_)
      refine wq_iald (k := 27) (i := a0) rfl h0 rfl rfl (m := ((mLen a0 : Nat) : Int)) g12 (Nat.le_of_eq (Int.toNat_natCast _)) dX13_lays_21 ?_
      refine wq_grd (fun g13 => ?_)
      refine wq_iast (k := 27) (i := a2) (fun _ _ => rfl) h2 rfl rfl (m := ((mLen a2 : Nat) : Int)) g13 (Nat.le_of_eq (Int.toNat_natCast _)) (by decide) (by decide) (by decide) dX13_lays_22 (fun J14 => ?_)
      refine wq_iinc (lv' := [(4, vi (s11 + 1)), (0, vr Z 27 a0), (1, vi a1), (2, vr Z 27 a2), (3, vi a3)]) dX13_lays_23 4 rfl (by decide) rfl ?_
      refine wq_goto 3 dX13_lays_26 (by decide) ?_
      exact WQ.loc [1, 2, 3, 4, 0] rfl (bk6 _ _ _)
    · exact WQ.loc [] rfl (ex7 _ _ _)
  · exact wq_vret rfl rfl dX13_lays_29

theorem ln_RX13_9 : Cond.fieldLink RX13 9 RX13 "w" "[I" ∈ lw_good := li_7 54 (by decide +kernel) (by decide +kernel)
noncomputable def f_M_begins_w2  (s : Int) (I : Mem) : Option (((Int) ⊕ (Unit)) × Mem) :=
if (w32 s) < 16860 then
if 0 ≤ (w32 s) ∧ (w32 s) < 16860 then
ltI (sI I 27 0 (w32 s).toNat 0) fun J2 =>
some (.inl (s + 1), J2)
else none
else
some (.inr (), I)

noncomputable def f_M_begins  (I : Mem) : Option ((Unit) × Mem) :=
bnd (whl (f_M_begins_w2) 0 I) fun r14 J15 =>
ltI (sI J15 27 0 0 2) fun J18 =>
ltI (sI J18 27 0 2 1) fun J20 =>
some ((), J20)
set_option maxRecDepth 20000 in
theorem R_M_begins (Z : ZT)  (I : Mem) (r : Unit) (J : Mem) (hf : f_M_begins I = some (r, J)) : Runs Z yX13_begins cX13_begins 2 (none) 1 [vr Z 26 0] I (none, J) := by
  refine Runs.of (rv := fun _ => none) (by decide +kernel) (Nat.le_of_ble_eq_true rfl) hf (fun gr => ?_)
  unfold f_M_begins
  refine WQ.loc [0] (lv' := [(0, vr Z 26 0)]) rfl ?_
  refine wq_iconst dX13_begins_0 ?_
  refine wq_istore_n (lv' := [(1, vi 0), (0, vr Z 26 0)]) dX13_begins_1 rfl (by decide) rfl ?_
  refine WQ.loc [1, 0] (lv' := [(0, vr Z 26 0), (1, vi 0)]) rfl ?_
  refine wq_loopS (fun s10 => [(0, vr Z 26 0), (1, vi s10)]) 22 (fun _ => [(0, vr Z 26 0)]) (fun κ4 bk5 ex6 gr9 s10 J8 => ?_) (fun gr16 r14 J15 => ?_) gr _ rfl
  · unfold f_M_begins_w2
    refine wq_iload_n dX13_begins_2 1 rfl rfl ?_
    refine wq_sipush dX13_begins_3 (by decide) ?_
    refine wq_icmp_ge 22 dX13_begins_6 (by decide) rfl rfl (fun c13 => ?_) (fun c13 => ?_)
    · refine wq_aload_n dX13_begins_9 0 rfl rfl ?_
      refine g_26_0 ln_RX13_9 dX13_begins_10 ?_
      refine wq_iload_n dX13_begins_13 1 rfl rfl ?_
      refine wq_iconst dX13_begins_14 ?_
      refine wq_grd (fun g11 => ?_)
      refine wq_iast (k := 27) (i := 0) (fun _ _ => rfl) (by decide) rfl rfl (m := 16860) g11 (Nat.le_of_ble_eq_true rfl) (by decide) (by decide) (by decide) dX13_begins_15 (fun J12 => ?_)
      refine wq_iinc (lv' := [(1, vi (s10 + 1)), (0, vr Z 26 0)]) dX13_begins_16 1 rfl (by decide) rfl ?_
      refine wq_goto 2 dX13_begins_19 (by decide) ?_
      exact WQ.loc [1, 0] rfl (bk5 _ _ _)
    · exact WQ.loc [0] rfl (ex6 _ _ _)
  · refine wq_aload_n dX13_begins_22 0 rfl rfl ?_
    refine g_26_0 ln_RX13_9 dX13_begins_23 ?_
    refine wq_iconst dX13_begins_26 ?_
    refine wq_iconst dX13_begins_27 ?_
    refine wq_iast (k := 27) (i := 0) (fun _ _ => rfl) (by decide) rfl rfl (m := 16860) (by decide) (Nat.le_of_ble_eq_true rfl) (by decide) (by decide) (by decide) dX13_begins_28 (fun J18 => ?_)
    refine wq_aload_n dX13_begins_29 0 rfl rfl ?_
    refine g_26_0 ln_RX13_9 dX13_begins_30 ?_
    refine wq_iconst dX13_begins_33 ?_
    refine wq_iconst dX13_begins_34 ?_
    refine wq_iast (k := 27) (i := 0) (fun _ _ => rfl) (by decide) rfl rfl (m := 16860) (by decide) (Nat.le_of_ble_eq_true rfl) (by decide) (by decide) (by decide) dX13_begins_35 (fun J20 => ?_)
    exact wq_vret rfl rfl dX13_begins_36

noncomputable def f_M_counts (a1 : Int) (a2 : Int) (I : Mem) : Option ((Unit) × Mem) :=
if 0 ≤ (w32 (6 + a1)) ∧ (w32 (6 + a1)) < 16860 then
ltI (sI I 27 0 (w32 (6 + a1)).toNat ((I 27 0 (w32 (6 + a1)).toNat) + a2)) fun J2 =>
some ((), J2)
else none
set_option maxRecDepth 20000 in
theorem R_M_counts (Z : ZT) (a1 : Int) (a2 : Int) (I : Mem) (r : Unit) (J : Mem) (hf : f_M_counts a1 a2 I = some (r, J)) : Runs Z yX13_counts cX13_counts 3 (none) 1 [vr Z 26 0, vi a1, vi a2] I (none, J) := by
  refine Runs.of (rv := fun _ => none) (by decide +kernel) (Nat.le_of_ble_eq_true rfl) hf (fun gr => ?_)
  unfold f_M_counts
  refine WQ.loc [0, 1, 2] (lv' := [(0, vr Z 26 0), (1, vi a1), (2, vi a2)]) rfl ?_
  refine wq_aload_n dX13_counts_0 0 rfl rfl ?_
  refine g_26_0 ln_RX13_9 dX13_counts_1 ?_
  refine wq_bipush dX13_counts_4 (by decide) ?_
  refine wq_iload_n dX13_counts_6 1 rfl rfl ?_
  refine wq_iadd dX13_counts_7 ?_
  refine wq_dup2 dX13_counts_8 rfl rfl ?_
  refine wq_grd (fun g1 => ?_)
  refine wq_iald (k := 27) (i := 0) rfl (by decide) rfl rfl (m := 16860) g1 (Nat.le_of_ble_eq_true rfl) dX13_counts_9 ?_
  refine wq_iload_n dX13_counts_10 2 rfl rfl ?_
  refine wq_iadd dX13_counts_11 ?_
  refine wq_iast (k := 27) (i := 0) (fun _ _ => rfl) (by decide) rfl rfl (m := 16860) g1 (Nat.le_of_ble_eq_true rfl) (by decide) (by decide) (by decide) dX13_counts_12 (fun J2 => ?_)
  exact wq_vret rfl rfl dX13_counts_13

noncomputable def f_M_many (a1 : Int) (I : Mem) : Option ((Int) × Mem) :=
if 0 ≤ (w32 (16 + a1)) ∧ (w32 (16 + a1)) < 16860 then
some ((I 27 0 (w32 (16 + a1)).toNat), I)
else none
set_option maxRecDepth 20000 in
theorem R_M_many (Z : ZT) (a1 : Int) (I : Mem) (r : Int) (J : Mem) (hf : f_M_many a1 I = some (r, J)) : Runs Z yX13_many cX13_many 2 (some .int) 1 [vr Z 26 0, vi a1] I (some (vi r), J) := by
  refine Runs.of (rv := fun x => some (vi x)) (by decide +kernel) (Nat.le_of_ble_eq_true rfl) hf (fun gr => ?_)
  unfold f_M_many
  refine WQ.loc [0, 1] (lv' := [(0, vr Z 26 0), (1, vi a1)]) rfl ?_
  refine wq_aload_n dX13_many_0 0 rfl rfl ?_
  refine g_26_0 ln_RX13_9 dX13_many_1 ?_
  refine wq_bipush dX13_many_4 (by decide) ?_
  refine wq_iload_n dX13_many_6 1 rfl rfl ?_
  refine wq_iadd dX13_many_7 ?_
  refine wq_grd (fun g1 => ?_)
  refine wq_iald (k := 27) (i := 0) rfl (by decide) rfl rfl (m := 16860) g1 (Nat.le_of_ble_eq_true rfl) dX13_many_8 ?_
  exact wq_iret rfl rfl dX13_many_9

noncomputable def f_M_at (a1 : Int) (a2 : Int) (I : Mem) : Option ((Int) × Mem) :=
if 0 ≤ (w32 ((60 + (400 * a1)) + a2)) ∧ (w32 ((60 + (400 * a1)) + a2)) < 16860 then
some ((I 27 0 (w32 ((60 + (400 * a1)) + a2)).toNat), I)
else none
set_option maxRecDepth 20000 in
theorem R_M_at (Z : ZT) (a1 : Int) (a2 : Int) (I : Mem) (r : Int) (J : Mem) (hf : f_M_at a1 a2 I = some (r, J)) : Runs Z yX13_at cX13_at 3 (some .int) 1 [vr Z 26 0, vi a1, vi a2] I (some (vi r), J) := by
  refine Runs.of (rv := fun x => some (vi x)) (by decide +kernel) (Nat.le_of_ble_eq_true rfl) hf (fun gr => ?_)
  unfold f_M_at
  refine WQ.loc [0, 1, 2] (lv' := [(0, vr Z 26 0), (1, vi a1), (2, vi a2)]) rfl ?_
  refine wq_aload_n dX13_at_0 0 rfl rfl ?_
  refine g_26_0 ln_RX13_9 dX13_at_1 ?_
  refine wq_bipush dX13_at_4 (by decide) ?_
  refine wq_sipush dX13_at_6 (by decide) ?_
  refine wq_iload_n dX13_at_9 1 rfl rfl ?_
  refine wq_imul dX13_at_10 ?_
  refine wq_iadd dX13_at_11 ?_
  refine wq_iload_n dX13_at_12 2 rfl rfl ?_
  refine wq_iadd dX13_at_13 ?_
  refine wq_grd (fun g1 => ?_)
  refine wq_iald (k := 27) (i := 0) rfl (by decide) rfl rfl (m := 16860) g1 (Nat.le_of_ble_eq_true rfl) dX13_at_14 ?_
  exact wq_iret rfl rfl dX13_at_15

noncomputable def f_M_puts (a1 : Int) (a2 : Int) (a3 : Int) (I : Mem) : Option ((Unit) × Mem) :=
if 0 ≤ (w32 ((60 + (400 * a1)) + a2)) ∧ (w32 ((60 + (400 * a1)) + a2)) < 16860 then
ltI (sI I 27 0 (w32 ((60 + (400 * a1)) + a2)).toNat a3) fun J2 =>
some ((), J2)
else none
set_option maxRecDepth 20000 in
theorem R_M_puts (Z : ZT) (a1 : Int) (a2 : Int) (a3 : Int) (I : Mem) (r : Unit) (J : Mem) (hf : f_M_puts a1 a2 a3 I = some (r, J)) : Runs Z yX13_puts cX13_puts 4 (none) 1 [vr Z 26 0, vi a1, vi a2, vi a3] I (none, J) := by
  refine Runs.of (rv := fun _ => none) (by decide +kernel) (Nat.le_of_ble_eq_true rfl) hf (fun gr => ?_)
  unfold f_M_puts
  refine WQ.loc [0, 1, 2, 3] (lv' := [(0, vr Z 26 0), (1, vi a1), (2, vi a2), (3, vi a3)]) rfl ?_
  refine wq_aload_n dX13_puts_0 0 rfl rfl ?_
  refine g_26_0 ln_RX13_9 dX13_puts_1 ?_
  refine wq_bipush dX13_puts_4 (by decide) ?_
  refine wq_sipush dX13_puts_6 (by decide) ?_
  refine wq_iload_n dX13_puts_9 1 rfl rfl ?_
  refine wq_imul dX13_puts_10 ?_
  refine wq_iadd dX13_puts_11 ?_
  refine wq_iload_n dX13_puts_12 2 rfl rfl ?_
  refine wq_iadd dX13_puts_13 ?_
  refine wq_iload_n dX13_puts_14 3 rfl rfl ?_
  refine wq_grd (fun g1 => ?_)
  refine wq_iast (k := 27) (i := 0) (fun _ _ => rfl) (by decide) rfl rfl (m := 16860) g1 (Nat.le_of_ble_eq_true rfl) (by decide) (by decide) (by decide) dX13_puts_15 (fun J2 => ?_)
  exact wq_vret rfl rfl dX13_puts_16

theorem M_M_many : MwV yX13_many cX13_many 2 (some .int) 1 := ⟨li_7 26 (by decide +kernel) (by decide +kernel), li_7 25 (by decide +kernel) (by decide +kernel), lw_in 49 (by decide +kernel) (by decide +kernel), li_1 16 (by decide +kernel) (by decide +kernel), by decide +kernel⟩
theorem M_M_puts : MwV yX13_puts cX13_puts 4 (none) 3 := ⟨li_7 30 (by decide +kernel) (by decide +kernel), li_7 29 (by decide +kernel) (by decide +kernel), lw_in 50 (by decide +kernel) (by decide +kernel), li_1 16 (by decide +kernel) (by decide +kernel), by decide +kernel⟩
theorem ln_RX13_107 : Cond.methodLink RX13 107 yX13_puts ∈ lw_good := li_7 27 (by decide +kernel) (by decide +kernel)
theorem ln_RX13_103 : Cond.methodLink RX13 103 yX13_many ∈ lw_good := li_7 23 (by decide +kernel) (by decide +kernel)
noncomputable def f_M_adds (a1 : Int) (a2 : Int) (I : Mem) : Option ((Unit) × Mem) :=
bnd (f_M_many a1 I) fun x3 J2 =>
bnd (f_M_puts a1 x3 a2 J2) fun _ J5 =>
if 0 ≤ (w32 (16 + a1)) ∧ (w32 (16 + a1)) < 16860 then
ltI (sI J5 27 0 (w32 (16 + a1)).toNat ((J5 27 0 (w32 (16 + a1)).toNat) + 1)) fun J8 =>
some ((), J8)
else none
set_option maxRecDepth 20000 in
theorem R_M_adds (Z : ZT) (a1 : Int) (a2 : Int) (I : Mem) (r : Unit) (J : Mem) (hf : f_M_adds a1 a2 I = some (r, J)) : Runs Z yX13_adds cX13_adds 3 (none) 2 [vr Z 26 0, vi a1, vi a2] I (none, J) := by
  refine Runs.of (rv := fun _ => none) (by decide +kernel) (Nat.le_of_ble_eq_true rfl) hf (fun gr => ?_)
  unfold f_M_adds
  refine WQ.loc [0, 1, 2] (lv' := [(0, vr Z 26 0), (1, vi a1), (2, vi a2)]) rfl ?_
  refine wq_aload_n dX13_adds_0 0 rfl rfl ?_
  refine wq_iload_n dX13_adds_1 1 rfl rfl ?_
  refine wq_aload_n dX13_adds_2 0 rfl rfl ?_
  refine wq_iload_n dX13_adds_3 1 rfl rfl ?_
  refine wq_cVi M_M_many (R_M_many Z a1 _) ob_26 rfl rfl (by decide) (by decide) (Nat.le_of_ble_eq_true rfl) ln_RX13_103 dX13_adds_4 (fun gr1 x3 J2 => ?_)
  refine wq_iload_n dX13_adds_7 2 rfl rfl ?_
  refine wq_cVv M_M_puts (R_M_puts Z a1 x3 a2 _) ob_26 rfl rfl (by decide) (by decide) (Nat.le_of_ble_eq_true rfl) ln_RX13_107 dX13_adds_8 (fun gr4 _ J5 => ?_)
  refine wq_aload_n dX13_adds_11 0 rfl rfl ?_
  refine g_26_0 ln_RX13_9 dX13_adds_12 ?_
  refine wq_bipush dX13_adds_15 (by decide) ?_
  refine wq_iload_n dX13_adds_17 1 rfl rfl ?_
  refine wq_iadd dX13_adds_18 ?_
  refine wq_dup2 dX13_adds_19 rfl rfl ?_
  refine wq_grd (fun g7 => ?_)
  refine wq_iald (k := 27) (i := 0) rfl (by decide) rfl rfl (m := 16860) g7 (Nat.le_of_ble_eq_true rfl) dX13_adds_20 ?_
  refine wq_iconst dX13_adds_21 ?_
  refine wq_iadd dX13_adds_22 ?_
  refine wq_iast (k := 27) (i := 0) (fun _ _ => rfl) (by decide) rfl rfl (m := 16860) g7 (Nat.le_of_ble_eq_true rfl) (by decide) (by decide) (by decide) dX13_adds_23 (fun J8 => ?_)
  exact wq_vret rfl rfl dX13_adds_24

noncomputable def f_M_isHere (a1 : Int) (I : Mem) : Option ((Int) × Mem) :=
bnd (f_M_many (a1 + 1) I) fun x3 J2 =>
if 0 < (w32 x3) then
some (1, J2)
else
some (0, J2)
set_option maxRecDepth 20000 in
theorem R_M_isHere (Z : ZT) (a1 : Int) (I : Mem) (r : Int) (J : Mem) (hf : f_M_isHere a1 I = some (r, J)) : Runs Z yX13_isHere cX13_isHere 2 (some .boolean) 2 [vr Z 26 0, vi a1] I (some (vi r), J) := by
  refine Runs.of (rv := fun x => some (vi x)) (by decide +kernel) (Nat.le_of_ble_eq_true rfl) hf (fun gr => ?_)
  unfold f_M_isHere
  refine WQ.loc [0, 1] (lv' := [(0, vr Z 26 0), (1, vi a1)]) rfl ?_
  refine wq_aload_n dX13_isHere_0 0 rfl rfl ?_
  refine wq_iload_n dX13_isHere_1 1 rfl rfl ?_
  refine wq_iconst dX13_isHere_2 ?_
  refine wq_iadd dX13_isHere_3 ?_
  refine wq_cVi M_M_many (R_M_many Z (a1 + 1) _) ob_26 rfl rfl (by decide) (by decide) (Nat.le_of_ble_eq_true rfl) ln_RX13_103 dX13_isHere_4 (fun gr1 x3 J2 => ?_)
  refine wq_if_le 14 dX13_isHere_7 (by decide) rfl (fun c4 => ?_) (fun c4 => ?_)
  · refine wq_iconst dX13_isHere_10 ?_
    refine wq_goto 15 dX13_isHere_11 (by decide) ?_
    exact wq_zret rfl (by decide) rfl dX13_isHere_15
  · refine wq_iconst dX13_isHere_14 ?_
    exact wq_zret rfl (by decide) rfl dX13_isHere_15

theorem M_M_isHere : MwV yX13_isHere cX13_isHere 2 (some .boolean) 1 := ⟨li_7 50 (by decide +kernel) (by decide +kernel), li_7 49 (by decide +kernel) (by decide +kernel), lw_in 55 (by decide +kernel) (by decide +kernel), li_1 16 (by decide +kernel) (by decide +kernel), by decide +kernel⟩
theorem ln_RX13_111 : Cond.methodLink RX13 111 yX13_isHere ∈ lw_good := li_7 47 (by decide +kernel) (by decide +kernel)
noncomputable def f_M_isSymbol (a1 : Int) (I : Mem) : Option ((Int) × Mem) :=
if (w32 a1) < 26 then
some (1, I)
else
bnd (f_M_isHere (a1 - 26) I) fun x3 J2 =>
if (w32 x3) = 0 then
some (0, J2)
else
some (1, J2)
set_option maxRecDepth 20000 in
theorem R_M_isSymbol (Z : ZT) (a1 : Int) (I : Mem) (r : Int) (J : Mem) (hf : f_M_isSymbol a1 I = some (r, J)) : Runs Z yX13_isSymbol cX13_isSymbol 2 (some .boolean) 3 [vr Z 26 0, vi a1] I (some (vi r), J) := by
  refine Runs.of (rv := fun x => some (vi x)) (by decide +kernel) (Nat.le_of_ble_eq_true rfl) hf (fun gr => ?_)
  unfold f_M_isSymbol
  refine WQ.loc [0, 1] (lv' := [(0, vr Z 26 0), (1, vi a1)]) rfl ?_
  refine wq_iload_n dX13_isSymbol_0 1 rfl rfl ?_
  refine wq_bipush dX13_isSymbol_1 (by decide) ?_
  refine wq_icmp_lt 17 dX13_isSymbol_3 (by decide) rfl rfl (fun c5 => ?_) (fun c5 => ?_)
  · refine wq_iconst dX13_isSymbol_17 ?_
    refine wq_goto 22 dX13_isSymbol_18 (by decide) ?_
    exact wq_zret rfl (by decide) rfl dX13_isSymbol_22
  · refine wq_aload_n dX13_isSymbol_6 0 rfl rfl ?_
    refine wq_iload_n dX13_isSymbol_7 1 rfl rfl ?_
    refine wq_bipush dX13_isSymbol_8 (by decide) ?_
    refine wq_isub dX13_isSymbol_10 ?_
    refine wq_cVi M_M_isHere (R_M_isHere Z (a1 - 26) _) ob_26 rfl rfl (by decide) (by decide) (Nat.le_of_ble_eq_true rfl) ln_RX13_111 dX13_isSymbol_11 (fun gr1 x3 J2 => ?_)
    refine wq_if_eq 21 dX13_isSymbol_14 (by decide) rfl (fun c4 => ?_) (fun c4 => ?_)
    · refine wq_iconst dX13_isSymbol_21 ?_
      exact wq_zret rfl (by decide) rfl dX13_isSymbol_22
    · refine wq_iconst dX13_isSymbol_17 ?_
      refine wq_goto 22 dX13_isSymbol_18 (by decide) ?_
      exact wq_zret rfl (by decide) rfl dX13_isSymbol_22

theorem M_M_one : MwS yX13_one cX13_one 1 (some .int) 1 := ⟨li_7 53 (by decide +kernel) (by decide +kernel), li_7 52 (by decide +kernel) (by decide +kernel), li_1 16 (by decide +kernel) (by decide +kernel), by decide +kernel⟩
theorem ln_RX13_115 : Cond.methodLink RX13 115 yX13_one ∈ lw_good := li_7 51 (by decide +kernel) (by decide +kernel)
noncomputable def f_M_rules_w4  (s : Int × Int) (I : Mem) : Option (((Int × Int) ⊕ (Int)) × Mem) :=
if (w32 s.2) < 40 then
bnd (f_M_isHere s.2 I) fun x3 J2 =>
bnd (f_M_one x3 J2) fun x6 J5 =>
some (.inl ((s.1 + x6), (s.2 + 1)), J5)
else
some (.inr s.1, I)

noncomputable def f_M_rules  (I : Mem) : Option ((Int) × Mem) :=
bnd (whl (f_M_rules_w4) (0, 0) I) fun r22 J23 =>
some (r22, J23)
set_option maxRecDepth 20000 in
theorem R_M_rules (Z : ZT)  (I : Mem) (r : Int) (J : Mem) (hf : f_M_rules I = some (r, J)) : Runs Z yX13_rules cX13_rules 3 (some .int) 3 [vr Z 26 0] I (some (vi r), J) := by
  refine Runs.of (rv := fun x => some (vi x)) (by decide +kernel) (Nat.le_of_ble_eq_true rfl) hf (fun gr => ?_)
  unfold f_M_rules
  refine WQ.loc [0] (lv' := [(0, vr Z 26 0)]) rfl ?_
  refine wq_iconst dX13_rules_0 ?_
  refine wq_istore_n (lv' := [(1, vi 0), (0, vr Z 26 0)]) dX13_rules_1 rfl (by decide) rfl ?_
  refine wq_iconst dX13_rules_2 ?_
  refine wq_istore_n (lv' := [(2, vi 0), (1, vi 0), (0, vr Z 26 0)]) dX13_rules_3 rfl (by decide) rfl ?_
  refine WQ.loc [2, 1, 0] (lv' := [(0, vr Z 26 0), (1, vi 0), (2, vi 0)]) rfl ?_
  refine wq_loopS (fun s14 => [(0, vr Z 26 0), (1, vi s14.1), (2, vi s14.2)]) 27 (fun r22 => [(1, vi r22)]) (fun κ8 bk9 ex10 gr13 s14 J12 => ?_) (fun gr24 r22 J23 => ?_) gr _ rfl
  · unfold f_M_rules_w4
    refine wq_iload_n dX13_rules_4 2 rfl rfl ?_
    refine wq_bipush dX13_rules_5 (by decide) ?_
    refine wq_icmp_ge 27 dX13_rules_7 (by decide) rfl rfl (fun c21 => ?_) (fun c21 => ?_)
    · refine wq_iload_n dX13_rules_10 1 rfl rfl ?_
      refine wq_aload_n dX13_rules_11 0 rfl rfl ?_
      refine wq_iload_n dX13_rules_12 2 rfl rfl ?_
      refine wq_cVi M_M_isHere (R_M_isHere Z s14.2 _) ob_26 rfl rfl (by decide) (by decide) (Nat.le_of_ble_eq_true rfl) ln_RX13_111 dX13_rules_13 (fun gr15 x17 J16 => ?_)
      refine wq_cSi M_M_one (R_M_one Z x17 _) rfl rfl rfl (by decide) (by decide) (Nat.le_of_ble_eq_true rfl) ln_RX13_115 dX13_rules_16 (fun gr18 x20 J19 => ?_)
      refine wq_iadd dX13_rules_19 ?_
      refine wq_istore_n (lv' := [(1, vi (s14.1 + x20)), (0, vr Z 26 0), (2, vi s14.2)]) dX13_rules_20 rfl (by decide) rfl ?_
      refine wq_iinc (lv' := [(2, vi (s14.2 + 1)), (1, vi (s14.1 + x20)), (0, vr Z 26 0)]) dX13_rules_21 2 rfl (by decide) rfl ?_
      refine wq_goto 4 dX13_rules_24 (by decide) ?_
      exact WQ.loc [2, 1, 0] rfl (bk9 _ _ _)
    · exact WQ.loc [1] rfl (ex10 _ _ _)
  · refine wq_iload_n dX13_rules_27 0 rfl rfl ?_
    exact wq_iret rfl rfl dX13_rules_28

noncomputable def f_M_sizeNow_w4  (s : Int × Int) (I : Mem) : Option (((Int × Int) ⊕ (Int)) × Mem) :=
if (w32 s.2) < 41 then
bnd (f_M_many s.2 I) fun x3 J2 =>
some (.inl ((s.1 + x3), (s.2 + 1)), J2)
else
some (.inr s.1, I)

noncomputable def f_M_sizeNow  (I : Mem) : Option ((Int) × Mem) :=
bnd (whl (f_M_sizeNow_w4) (0, 0) I) fun r16 J17 =>
some (r16, J17)
set_option maxRecDepth 20000 in
theorem R_M_sizeNow (Z : ZT)  (I : Mem) (r : Int) (J : Mem) (hf : f_M_sizeNow I = some (r, J)) : Runs Z yX13_sizeNow cX13_sizeNow 3 (some .int) 2 [vr Z 26 0] I (some (vi r), J) := by
  refine Runs.of (rv := fun x => some (vi x)) (by decide +kernel) (Nat.le_of_ble_eq_true rfl) hf (fun gr => ?_)
  unfold f_M_sizeNow
  refine WQ.loc [0] (lv' := [(0, vr Z 26 0)]) rfl ?_
  refine wq_iconst dX13_sizeNow_0 ?_
  refine wq_istore_n (lv' := [(1, vi 0), (0, vr Z 26 0)]) dX13_sizeNow_1 rfl (by decide) rfl ?_
  refine wq_iconst dX13_sizeNow_2 ?_
  refine wq_istore_n (lv' := [(2, vi 0), (1, vi 0), (0, vr Z 26 0)]) dX13_sizeNow_3 rfl (by decide) rfl ?_
  refine WQ.loc [2, 1, 0] (lv' := [(0, vr Z 26 0), (1, vi 0), (2, vi 0)]) rfl ?_
  refine wq_loopS (fun s11 => [(0, vr Z 26 0), (1, vi s11.1), (2, vi s11.2)]) 24 (fun r16 => [(1, vi r16)]) (fun κ5 bk6 ex7 gr10 s11 J9 => ?_) (fun gr18 r16 J17 => ?_) gr _ rfl
  · unfold f_M_sizeNow_w4
    refine wq_iload_n dX13_sizeNow_4 2 rfl rfl ?_
    refine wq_bipush dX13_sizeNow_5 (by decide) ?_
    refine wq_icmp_ge 24 dX13_sizeNow_7 (by decide) rfl rfl (fun c15 => ?_) (fun c15 => ?_)
    · refine wq_iload_n dX13_sizeNow_10 1 rfl rfl ?_
      refine wq_aload_n dX13_sizeNow_11 0 rfl rfl ?_
      refine wq_iload_n dX13_sizeNow_12 2 rfl rfl ?_
      refine wq_cVi M_M_many (R_M_many Z s11.2 _) ob_26 rfl rfl (by decide) (by decide) (Nat.le_of_ble_eq_true rfl) ln_RX13_103 dX13_sizeNow_13 (fun gr12 x14 J13 => ?_)
      refine wq_iadd dX13_sizeNow_16 ?_
      refine wq_istore_n (lv' := [(1, vi (s11.1 + x14)), (0, vr Z 26 0), (2, vi s11.2)]) dX13_sizeNow_17 rfl (by decide) rfl ?_
      refine wq_iinc (lv' := [(2, vi (s11.2 + 1)), (1, vi (s11.1 + x14)), (0, vr Z 26 0)]) dX13_sizeNow_18 2 rfl (by decide) rfl ?_
      refine wq_goto 4 dX13_sizeNow_21 (by decide) ?_
      exact WQ.loc [2, 1, 0] rfl (bk6 _ _ _)
    · exact WQ.loc [1] rfl (ex7 _ _ _)
  · refine wq_iload_n dX13_sizeNow_24 0 rfl rfl ?_
    exact wq_iret rfl rfl dX13_sizeNow_25

noncomputable def f_M_freeRule_w2  (s : Int) (I : Mem) : Option (((Int) ⊕ (Int)) × Mem) :=
if (w32 s) < 40 then
bnd (f_M_isHere s I) fun x3 J2 =>
if (w32 x3) = 0 then
some (.inr (s), J2)
else
some (.inl (s + 1), J2)
else
some (.inr ((-1)), I)

noncomputable def f_M_freeRule  (I : Mem) : Option ((Int) × Mem) :=
whl (f_M_freeRule_w2) 0 I
set_option maxRecDepth 20000 in
theorem R_M_freeRule (Z : ZT)  (I : Mem) (r : Int) (J : Mem) (hf : f_M_freeRule I = some (r, J)) : Runs Z yX13_freeRule cX13_freeRule 2 (some .int) 3 [vr Z 26 0] I (some (vi r), J) := by
  refine Runs.of (rv := fun x => some (vi x)) (by decide +kernel) (Nat.le_of_ble_eq_true rfl) hf (fun gr => ?_)
  unfold f_M_freeRule
  refine WQ.loc [0] (lv' := [(0, vr Z 26 0)]) rfl ?_
  refine wq_iconst dX13_freeRule_0 ?_
  refine wq_istore_n (lv' := [(1, vi 0), (0, vr Z 26 0)]) dX13_freeRule_1 rfl (by decide) rfl ?_
  refine WQ.loc [1, 0] (lv' := [(0, vr Z 26 0), (1, vi 0)]) rfl ?_
  refine wq_loop (fun s12 => [(0, vr Z 26 0), (1, vi s12)]) (fun κ6 bk7 hr9 gr11 s12 J10 => ?_) gr _ rfl
  unfold f_M_freeRule_w2
  refine wq_iload_n dX13_freeRule_2 1 rfl rfl ?_
  refine wq_bipush dX13_freeRule_3 (by decide) ?_
  refine wq_icmp_ge 24 dX13_freeRule_5 (by decide) rfl rfl (fun c17 => ?_) (fun c17 => ?_)
  · refine wq_aload_n dX13_freeRule_8 0 rfl rfl ?_
    refine wq_iload_n dX13_freeRule_9 1 rfl rfl ?_
    refine wq_cVi M_M_isHere (R_M_isHere Z s12 _) ob_26 rfl rfl (by decide) (by decide) (Nat.le_of_ble_eq_true rfl) ln_RX13_111 dX13_freeRule_10 (fun gr13 x15 J14 => ?_)
    refine wq_if_ne 18 dX13_freeRule_13 (by decide) rfl (fun c16 => ?_) (fun c16 => ?_)
    · refine wq_iload_n dX13_freeRule_16 1 rfl rfl ?_
      exact wq_iret rfl ((hr9 _ _).trans rfl) dX13_freeRule_17
    · refine wq_iinc (lv' := [(1, vi (s12 + 1)), (0, vr Z 26 0)]) dX13_freeRule_18 1 rfl (by decide) rfl ?_
      refine wq_goto 2 dX13_freeRule_21 (by decide) ?_
      exact WQ.loc [1, 0] rfl (bk7 _ _ _)
  · refine wq_iconst dX13_freeRule_24 ?_
    exact wq_iret rfl ((hr9 _ _).trans rfl) dX13_freeRule_25

noncomputable def f_M_removes (a1 : Int) (I : Mem) : Option ((Unit) × Mem) :=
if 0 ≤ (w32 ((16 + a1) + 1)) ∧ (w32 ((16 + a1) + 1)) < 16860 then
ltI (sI I 27 0 (w32 ((16 + a1) + 1)).toNat 0) fun J2 =>
some ((), J2)
else none
set_option maxRecDepth 20000 in
theorem R_M_removes (Z : ZT) (a1 : Int) (I : Mem) (r : Unit) (J : Mem) (hf : f_M_removes a1 I = some (r, J)) : Runs Z yX13_removes cX13_removes 2 (none) 1 [vr Z 26 0, vi a1] I (none, J) := by
  refine Runs.of (rv := fun _ => none) (by decide +kernel) (Nat.le_of_ble_eq_true rfl) hf (fun gr => ?_)
  unfold f_M_removes
  refine WQ.loc [0, 1] (lv' := [(0, vr Z 26 0), (1, vi a1)]) rfl ?_
  refine wq_aload_n dX13_removes_0 0 rfl rfl ?_
  refine g_26_0 ln_RX13_9 dX13_removes_1 ?_
  refine wq_bipush dX13_removes_4 (by decide) ?_
  refine wq_iload_n dX13_removes_6 1 rfl rfl ?_
  refine wq_iadd dX13_removes_7 ?_
  refine wq_iconst dX13_removes_8 ?_
  refine wq_iadd dX13_removes_9 ?_
  refine wq_iconst dX13_removes_10 ?_
  refine wq_grd (fun g1 => ?_)
  refine wq_iast (k := 27) (i := 0) (fun _ _ => rfl) (by decide) rfl rfl (m := 16860) g1 (Nat.le_of_ble_eq_true rfl) (by decide) (by decide) (by decide) dX13_removes_11 (fun J2 => ?_)
  exact wq_vret rfl rfl dX13_removes_12

theorem M_M_at : MwV yX13_at cX13_at 3 (some .int) 2 := ⟨li_7 42 (by decide +kernel) (by decide +kernel), li_7 41 (by decide +kernel) (by decide +kernel), lw_in 53 (by decide +kernel) (by decide +kernel), li_1 16 (by decide +kernel) (by decide +kernel), by decide +kernel⟩
theorem ln_RX13_119 : Cond.methodLink RX13 119 yX13_at ∈ lw_good := li_7 39 (by decide +kernel) (by decide +kernel)
noncomputable def f_M_opens_w20 (v1 : Int) (v2 : Int) (v3 : Int) (v4 : Int) (s : Int) (I : Mem) : Option (((Int) ⊕ (Unit)) × Mem) :=
if (w32 v2) < (w32 s) then
bnd (f_M_at v1 s I) fun x9 J8 =>
bnd (f_M_puts v1 (s + v4) x9 J8) fun _ J11 =>
some (.inl (s + (-1)), J11)
else
some (.inr (), I)

noncomputable def f_M_opens_w52 (v1 : Int) (v2 : Int) (v3 : Int) (v4 : Int) (s : Int) (I : Mem) : Option (((Int) ⊕ (Unit)) × Mem) :=
if (w32 v4) < (w32 s) then
some (.inr (), I)
else
bnd (f_M_at (v3 + 1) s I) fun x33 J32 =>
bnd (f_M_puts v1 (v2 + s) x33 J32) fun _ J35 =>
some (.inl (s + 1), J35)

noncomputable def f_M_opens (a1 : Int) (a2 : Int) (a3 : Int) (I : Mem) : Option ((Unit) × Mem) :=
bnd (f_M_many (a3 + 1) I) fun x3 J2 =>
bnd (f_M_many a1 J2) fun x6 J5 =>
bnd (whl (f_M_opens_w20 a1 a2 a3 (x3 - 1)) (x6 - 1) J5) fun r28 J29 =>
bnd (whl (f_M_opens_w52 a1 a2 a3 (x3 - 1)) 0 J29) fun r52 J53 =>
if 0 ≤ (w32 (16 + a1)) ∧ (w32 (16 + a1)) < 16860 then
ltI (sI J53 27 0 (w32 (16 + a1)).toNat ((J53 27 0 (w32 (16 + a1)).toNat) + (x3 - 1))) fun J56 =>
some ((), J56)
else none
set_option maxRecDepth 20000 in
theorem R_M_opens (Z : ZT) (a1 : Int) (a2 : Int) (a3 : Int) (I : Mem) (r : Unit) (J : Mem) (hf : f_M_opens a1 a2 a3 I = some (r, J)) : Runs Z yX13_opens cX13_opens 6 (none) 2 [vr Z 26 0, vi a1, vi a2, vi a3] I (none, J) := by
  refine Runs.of (rv := fun _ => none) (by decide +kernel) (Nat.le_of_ble_eq_true rfl) hf (fun gr => ?_)
  unfold f_M_opens
  refine WQ.loc [0, 1, 2, 3] (lv' := [(0, vr Z 26 0), (1, vi a1), (2, vi a2), (3, vi a3)]) rfl ?_
  refine wq_aload_n dX13_opens_0 0 rfl rfl ?_
  refine wq_iload_n dX13_opens_1 3 rfl rfl ?_
  refine wq_iconst dX13_opens_2 ?_
  refine wq_iadd dX13_opens_3 ?_
  refine wq_cVi M_M_many (R_M_many Z (a3 + 1) _) ob_26 rfl rfl (by decide) (by decide) (Nat.le_of_ble_eq_true rfl) ln_RX13_103 dX13_opens_4 (fun gr1 x3 J2 => ?_)
  refine wq_iconst dX13_opens_7 ?_
  refine wq_isub dX13_opens_8 ?_
  refine wq_istore (lv' := [(4, vi (x3 - 1)), (0, vr Z 26 0), (1, vi a1), (2, vi a2), (3, vi a3)]) dX13_opens_9 (by decide) rfl ?_
  refine wq_aload_n dX13_opens_11 1 rfl rfl ?_
  refine wq_iload_n dX13_opens_12 2 rfl rfl ?_
  refine wq_cVi M_M_many (R_M_many Z a1 _) ob_26 rfl rfl (by decide) (by decide) (Nat.le_of_ble_eq_true rfl) ln_RX13_103 dX13_opens_13 (fun gr4 x6 J5 => ?_)
  refine wq_iconst dX13_opens_16 ?_
  refine wq_isub dX13_opens_17 ?_
  refine wq_istore (lv' := [(5, vi (x6 - 1)), (4, vi (x3 - 1)), (0, vr Z 26 0), (1, vi a1), (2, vi a2), (3, vi a3)]) dX13_opens_18 (by decide) rfl ?_
  refine WQ.loc [2, 3, 4, 5, 1, 0] (lv' := [(0, vr Z 26 0), (1, vi a1), (2, vi a2), (3, vi a3), (4, vi (x3 - 1)), (5, vi (x6 - 1))]) rfl ?_
  refine wq_loopS (fun s20 => [(0, vr Z 26 0), (1, vi a1), (2, vi a2), (3, vi a3), (4, vi (x3 - 1)), (5, vi s20)]) 49 (fun _ => [(0, vr Z 26 0), (1, vi a1), (2, vi a2), (3, vi a3), (4, vi (x3 - 1))]) (fun κ14 bk15 ex16 gr19 s20 J18 => ?_) (fun gr30 r28 J29 => ?_) gr4 _ rfl
  · unfold f_M_opens_w20
    refine wq_iload dX13_opens_20 5 rfl ?_
    refine wq_iload_n dX13_opens_22 2 rfl rfl ?_
    refine wq_icmp_le 49 dX13_opens_23 (by decide) rfl rfl (fun c27 => ?_) (fun c27 => ?_)
    · refine wq_aload_n dX13_opens_26 0 rfl rfl ?_
      refine wq_iload_n dX13_opens_27 1 rfl rfl ?_
      refine wq_iload dX13_opens_28 5 rfl ?_
      refine wq_iload dX13_opens_30 4 rfl ?_
      refine wq_iadd dX13_opens_32 ?_
      refine wq_aload_n dX13_opens_33 0 rfl rfl ?_
      refine wq_iload_n dX13_opens_34 1 rfl rfl ?_
      refine wq_iload dX13_opens_35 5 rfl ?_
      refine wq_cVi M_M_at (R_M_at Z a1 s20 _) ob_26 rfl rfl (by decide) (by decide) (Nat.le_of_ble_eq_true rfl) ln_RX13_119 dX13_opens_37 (fun gr21 x23 J22 => ?_)
      refine wq_cVv M_M_puts (R_M_puts Z a1 (s20 + (x3 - 1)) x23 _) ob_26 rfl rfl (by decide) (by decide) (Nat.le_of_ble_eq_true rfl) ln_RX13_107 dX13_opens_40 (fun gr24 _ J25 => ?_)
      refine wq_iinc (lv' := [(5, vi (s20 + (-1))), (0, vr Z 26 0), (1, vi a1), (2, vi a2), (3, vi a3), (4, vi (x3 - 1))]) dX13_opens_43 5 rfl (by decide) rfl ?_
      refine wq_goto 20 dX13_opens_46 (by decide) ?_
      exact WQ.loc [1, 2, 3, 4, 5, 0] rfl (bk15 _ _ _)
    · exact WQ.loc [0, 1, 2, 3, 4] rfl (ex16 _ _ _)
  · refine wq_iconst dX13_opens_49 ?_
    refine wq_istore (lv' := [(5, vi 0), (0, vr Z 26 0), (1, vi a1), (2, vi a2), (3, vi a3), (4, vi (x3 - 1))]) dX13_opens_50 (by decide) rfl ?_
    refine WQ.loc [1, 2, 3, 4, 5, 0] (lv' := [(0, vr Z 26 0), (1, vi a1), (2, vi a2), (3, vi a3), (4, vi (x3 - 1)), (5, vi 0)]) rfl ?_
    refine wq_loopS (fun s44 => [(0, vr Z 26 0), (1, vi a1), (2, vi a2), (3, vi a3), (4, vi (x3 - 1)), (5, vi s44)]) 83 (fun _ => [(0, vr Z 26 0), (1, vi a1), (4, vi (x3 - 1))]) (fun κ38 bk39 ex40 gr43 s44 J42 => ?_) (fun gr54 r52 J53 => ?_) gr30 _ rfl
    · unfold f_M_opens_w52
      refine wq_iload dX13_opens_52 5 rfl ?_
      refine wq_iload dX13_opens_54 4 rfl ?_
      refine wq_icmp_gt 83 dX13_opens_56 (by decide) rfl rfl (fun c51 => ?_) (fun c51 => ?_)
      · exact WQ.loc [0, 1, 4] rfl (ex40 _ _ _)
      · refine wq_aload_n dX13_opens_59 0 rfl rfl ?_
        refine wq_iload_n dX13_opens_60 1 rfl rfl ?_
        refine wq_iload_n dX13_opens_61 2 rfl rfl ?_
        refine wq_iload dX13_opens_62 5 rfl ?_
        refine wq_iadd dX13_opens_64 ?_
        refine wq_aload_n dX13_opens_65 0 rfl rfl ?_
        refine wq_iload_n dX13_opens_66 3 rfl rfl ?_
        refine wq_iconst dX13_opens_67 ?_
        refine wq_iadd dX13_opens_68 ?_
        refine wq_iload dX13_opens_69 5 rfl ?_
        refine wq_cVi M_M_at (R_M_at Z (a3 + 1) s44 _) ob_26 rfl rfl (by decide) (by decide) (Nat.le_of_ble_eq_true rfl) ln_RX13_119 dX13_opens_71 (fun gr45 x47 J46 => ?_)
        refine wq_cVv M_M_puts (R_M_puts Z a1 (a2 + s44) x47 _) ob_26 rfl rfl (by decide) (by decide) (Nat.le_of_ble_eq_true rfl) ln_RX13_107 dX13_opens_74 (fun gr48 _ J49 => ?_)
        refine wq_iinc (lv' := [(5, vi (s44 + 1)), (0, vr Z 26 0), (1, vi a1), (2, vi a2), (3, vi a3), (4, vi (x3 - 1))]) dX13_opens_77 5 rfl (by decide) rfl ?_
        refine wq_goto 52 dX13_opens_80 (by decide) ?_
        exact WQ.loc [1, 2, 3, 4, 5, 0] rfl (bk39 _ _ _)
    · refine wq_aload_n dX13_opens_83 0 rfl rfl ?_
      refine g_26_0 ln_RX13_9 dX13_opens_84 ?_
      refine wq_bipush dX13_opens_87 (by decide) ?_
      refine wq_iload_n dX13_opens_89 1 rfl rfl ?_
      refine wq_iadd dX13_opens_90 ?_
      refine wq_dup2 dX13_opens_91 rfl rfl ?_
      refine wq_grd (fun g55 => ?_)
      refine wq_iald (k := 27) (i := 0) rfl (by decide) rfl rfl (m := 16860) g55 (Nat.le_of_ble_eq_true rfl) dX13_opens_92 ?_
      refine wq_iload dX13_opens_93 2 rfl ?_
      refine wq_iadd dX13_opens_95 ?_
      refine wq_iast (k := 27) (i := 0) (fun _ _ => rfl) (by decide) rfl rfl (m := 16860) g55 (Nat.le_of_ble_eq_true rfl) (by decide) (by decide) (by decide) dX13_opens_96 (fun J56 => ?_)
      exact wq_vret rfl rfl dX13_opens_97

noncomputable def f_M_usesIn_w5 (v1 : Int) (v2 : Int) (s : Int × Int) (I : Mem) : Option (((Int × Int) ⊕ (Int)) × Mem) :=
bnd (f_M_many v1 I) fun x3 J2 =>
if (w32 s.2) < (w32 x3) then
bnd (f_M_at v1 s.2 J2) fun x6 J5 =>
bnd (f_M_one (if (w32 x6) = (w32 v2) then 1 else 0) J5) fun x9 J8 =>
some (.inl ((s.1 + x9), (s.2 + 1)), J8)
else
some (.inr s.1, J2)

noncomputable def f_M_usesIn (a1 : Int) (a2 : Int) (I : Mem) : Option ((Int) × Mem) :=
bnd (whl (f_M_usesIn_w5 a1 a2) (0, 0) I) fun r32 J33 =>
some (r32, J33)
set_option maxRecDepth 20000 in
theorem R_M_usesIn (Z : ZT) (a1 : Int) (a2 : Int) (I : Mem) (r : Int) (J : Mem) (hf : f_M_usesIn a1 a2 I = some (r, J)) : Runs Z yX13_usesIn cX13_usesIn 5 (some .int) 2 [vr Z 26 0, vi a1, vi a2] I (some (vi r), J) := by
  refine Runs.of (rv := fun x => some (vi x)) (by decide +kernel) (Nat.le_of_ble_eq_true rfl) hf (fun gr => ?_)
  unfold f_M_usesIn
  refine WQ.loc [0, 1, 2] (lv' := [(0, vr Z 26 0), (1, vi a1), (2, vi a2)]) rfl ?_
  refine wq_iconst dX13_usesIn_0 ?_
  refine wq_istore_n (lv' := [(3, vi 0), (0, vr Z 26 0), (1, vi a1), (2, vi a2)]) dX13_usesIn_1 rfl (by decide) rfl ?_
  refine wq_iconst dX13_usesIn_2 ?_
  refine wq_istore (lv' := [(4, vi 0), (3, vi 0), (0, vr Z 26 0), (1, vi a1), (2, vi a2)]) dX13_usesIn_3 (by decide) rfl ?_
  refine WQ.loc [2, 3, 4, 1, 0] (lv' := [(0, vr Z 26 0), (1, vi a1), (2, vi a2), (3, vi 0), (4, vi 0)]) rfl ?_
  refine wq_loopS (fun s19 => [(0, vr Z 26 0), (1, vi a1), (2, vi a2), (3, vi s19.1), (4, vi s19.2)]) 43 (fun r32 => [(3, vi r32)]) (fun κ13 bk14 ex15 gr18 s19 J17 => ?_) (fun gr34 r32 J33 => ?_) gr _ rfl
  · unfold f_M_usesIn_w5
    refine wq_iload dX13_usesIn_5 4 rfl ?_
    refine wq_aload_n dX13_usesIn_7 0 rfl rfl ?_
    refine wq_iload_n dX13_usesIn_8 1 rfl rfl ?_
    refine wq_cVi M_M_many (R_M_many Z a1 _) ob_26 rfl rfl (by decide) (by decide) (Nat.le_of_ble_eq_true rfl) ln_RX13_103 dX13_usesIn_9 (fun gr20 x22 J21 => ?_)
    refine wq_icmp_ge 43 dX13_usesIn_12 (by decide) rfl rfl (fun c31 => ?_) (fun c31 => ?_)
    · refine wq_iload_n dX13_usesIn_15 3 rfl rfl ?_
      refine wq_aload_n dX13_usesIn_16 0 rfl rfl ?_
      refine wq_iload_n dX13_usesIn_17 1 rfl rfl ?_
      refine wq_iload dX13_usesIn_18 4 rfl ?_
      refine wq_cVi M_M_at (R_M_at Z a1 s19.2 _) ob_26 rfl rfl (by decide) (by decide) (Nat.le_of_ble_eq_true rfl) ln_RX13_119 dX13_usesIn_20 (fun gr23 x25 J24 => ?_)
      refine wq_iload_n dX13_usesIn_23 2 rfl rfl ?_
      refine WQ.via 32 [vi (if (w32 x25) = (w32 a2) then 1 else 0), vi s19.1] (by
          refine wq_cSi M_M_one (R_M_one Z (if (w32 x25) = (w32 a2) then 1 else 0) _) rfl rfl rfl (by decide) (by decide) (Nat.le_of_ble_eq_true rfl) ln_RX13_115 dX13_usesIn_32 (fun gr26 x28 J27 => ?_)
          refine wq_iadd dX13_usesIn_35 ?_
          refine wq_istore_n (lv' := [(3, vi (s19.1 + x28)), (0, vr Z 26 0), (1, vi a1), (2, vi a2), (4, vi s19.2)]) dX13_usesIn_36 rfl (by decide) rfl ?_
          refine wq_iinc (lv' := [(4, vi (s19.2 + 1)), (3, vi (s19.1 + x28)), (0, vr Z 26 0), (1, vi a1), (2, vi a2)]) dX13_usesIn_37 4 rfl (by decide) rfl ?_
          refine wq_goto 5 dX13_usesIn_40 (by decide) ?_
          exact WQ.loc [2, 3, 4, 1, 0] rfl (bk14 _ _ _)) (fun hj29 => ?_)
      refine WQ.both ((w32 x25) = (w32 a2)) ?_
      refine wq_icmp_ne 31 dX13_usesIn_24 (by decide) rfl rfl (fun c30 => ?_) (fun c30 => ?_)
      · refine wq_iconst dX13_usesIn_27 ?_
        refine wq_goto 32 dX13_usesIn_28 (by decide) ?_
        exact WQ.top (if_pos c30) hj29
      · refine wq_iconst dX13_usesIn_31 ?_
        exact WQ.top (if_neg c30) hj29
    · exact WQ.loc [3] rfl (ex15 _ _ _)
  · refine wq_iload_n dX13_usesIn_43 0 rfl rfl ?_
    exact wq_iret rfl rfl dX13_usesIn_44

theorem M_M_usesIn : MwV yX13_usesIn cX13_usesIn 5 (some .int) 2 := ⟨li_8 195 (by decide +kernel) (by decide +kernel), li_8 194 (by decide +kernel) (by decide +kernel), lw_in 103 (by decide +kernel) (by decide +kernel), li_1 16 (by decide +kernel) (by decide +kernel), by decide +kernel⟩
theorem ln_RX13_123 : Cond.methodLink RX13 123 yX13_usesIn ∈ lw_good := li_8 192 (by decide +kernel) (by decide +kernel)
noncomputable def f_M_usesOf_w4 (v1 : Int) (s : Int × Int) (I : Mem) : Option (((Int × Int) ⊕ (Int)) × Mem) :=
if (w32 s.2) < 41 then
bnd (f_M_usesIn s.2 (26 + v1) I) fun x3 J2 =>
some (.inl ((s.1 + x3), (s.2 + 1)), J2)
else
some (.inr s.1, I)

noncomputable def f_M_usesOf (a1 : Int) (I : Mem) : Option ((Int) × Mem) :=
bnd (whl (f_M_usesOf_w4 a1) (0, 0) I) fun r16 J17 =>
some (r16, J17)
set_option maxRecDepth 20000 in
theorem R_M_usesOf (Z : ZT) (a1 : Int) (I : Mem) (r : Int) (J : Mem) (hf : f_M_usesOf a1 I = some (r, J)) : Runs Z yX13_usesOf cX13_usesOf 4 (some .int) 3 [vr Z 26 0, vi a1] I (some (vi r), J) := by
  refine Runs.of (rv := fun x => some (vi x)) (by decide +kernel) (Nat.le_of_ble_eq_true rfl) hf (fun gr => ?_)
  unfold f_M_usesOf
  refine WQ.loc [0, 1] (lv' := [(0, vr Z 26 0), (1, vi a1)]) rfl ?_
  refine wq_iconst dX13_usesOf_0 ?_
  refine wq_istore_n (lv' := [(2, vi 0), (0, vr Z 26 0), (1, vi a1)]) dX13_usesOf_1 rfl (by decide) rfl ?_
  refine wq_iconst dX13_usesOf_2 ?_
  refine wq_istore_n (lv' := [(3, vi 0), (2, vi 0), (0, vr Z 26 0), (1, vi a1)]) dX13_usesOf_3 rfl (by decide) rfl ?_
  refine WQ.loc [2, 3, 1, 0] (lv' := [(0, vr Z 26 0), (1, vi a1), (2, vi 0), (3, vi 0)]) rfl ?_
  refine wq_loopS (fun s11 => [(0, vr Z 26 0), (1, vi a1), (2, vi s11.1), (3, vi s11.2)]) 28 (fun r16 => [(2, vi r16)]) (fun κ5 bk6 ex7 gr10 s11 J9 => ?_) (fun gr18 r16 J17 => ?_) gr _ rfl
  · unfold f_M_usesOf_w4
    refine wq_iload_n dX13_usesOf_4 3 rfl rfl ?_
    refine wq_bipush dX13_usesOf_5 (by decide) ?_
    refine wq_icmp_ge 28 dX13_usesOf_7 (by decide) rfl rfl (fun c15 => ?_) (fun c15 => ?_)
    · refine wq_iload_n dX13_usesOf_10 2 rfl rfl ?_
      refine wq_aload_n dX13_usesOf_11 0 rfl rfl ?_
      refine wq_iload_n dX13_usesOf_12 3 rfl rfl ?_
      refine wq_bipush dX13_usesOf_13 (by decide) ?_
      refine wq_iload_n dX13_usesOf_15 1 rfl rfl ?_
      refine wq_iadd dX13_usesOf_16 ?_
      refine wq_cVi M_M_usesIn (R_M_usesIn Z s11.2 (26 + a1) _) ob_26 rfl rfl (by decide) (by decide) (Nat.le_of_ble_eq_true rfl) ln_RX13_123 dX13_usesOf_17 (fun gr12 x14 J13 => ?_)
      refine wq_iadd dX13_usesOf_20 ?_
      refine wq_istore_n (lv' := [(2, vi (s11.1 + x14)), (0, vr Z 26 0), (1, vi a1), (3, vi s11.2)]) dX13_usesOf_21 rfl (by decide) rfl ?_
      refine wq_iinc (lv' := [(3, vi (s11.2 + 1)), (2, vi (s11.1 + x14)), (0, vr Z 26 0), (1, vi a1)]) dX13_usesOf_22 3 rfl (by decide) rfl ?_
      refine wq_goto 4 dX13_usesOf_25 (by decide) ?_
      exact WQ.loc [2, 3, 1, 0] rfl (bk6 _ _ _)
    · exact WQ.loc [2] rfl (ex7 _ _ _)
  · refine wq_iload_n dX13_usesOf_28 0 rfl rfl ?_
    exact wq_iret rfl rfl dX13_usesOf_29

theorem ln_RX13_126 : Cond.fieldLink RX13 126 RX13 "deepest" "I" ∈ lw_good := li_7 64 (by decide +kernel) (by decide +kernel)
theorem ln_RX13_31 : Cond.fieldLink RX13 31 RX13 "lengths" "[I" ∈ lw_good := li_7 62 (by decide +kernel) (by decide +kernel)
theorem ln_RX13_34 : Cond.fieldLink RX13 34 RX13 "depths" "[I" ∈ lw_good := li_7 63 (by decide +kernel) (by decide +kernel)
theorem ln_RX13_129 : Cond.methodLink RX13 129 Lib.Math.max.name ∈ lw_good := li_8 28 (by decide +kernel) (by decide +kernel)
noncomputable def f_M_lengthOf_w9 (v1 : Int) (s : Int × Int) (I : Mem) : Option (((Int × Int) ⊕ (Int)) × Mem) :=
bnd (f_M_many v1 I) fun x4 J3 =>
if (w32 s.2) < (w32 x4) then
bnd (f_M_at v1 s.2 J3) fun x7 J6 =>
if 0 ≤ (w32 x7) ∧ (w32 x7) < 66 then
if (w32 (J6 27 5 (w32 x7).toNat)) = 0 then
some (.inr (0), J6)
else
ltI (sI J6 26 0 10 (imx (J6 26 0 10) (J6 27 6 (w32 x7).toNat))) fun J9 =>
some (.inl ((s.1 + (J6 27 5 (w32 x7).toNat)), (s.2 + 1)), J9)
else none
else
some (.inr (s.1), J3)

noncomputable def f_M_lengthOf (a1 : Int) (I : Mem) : Option ((Int) × Mem) :=
ltI (sI I 26 0 10 0) fun J1 =>
whl (f_M_lengthOf_w9 a1) (0, 0) J1
set_option maxRecDepth 20000 in
theorem R_M_lengthOf (Z : ZT) (a1 : Int) (I : Mem) (r : Int) (J : Mem) (hf : f_M_lengthOf a1 I = some (r, J)) : Runs Z yX13_lengthOf cX13_lengthOf 5 (some .int) 2 [vr Z 26 0, vi a1] I (some (vi r), J) := by
  refine Runs.of (rv := fun x => some (vi x)) (by decide +kernel) (Nat.le_of_ble_eq_true rfl) hf (fun gr => ?_)
  unfold f_M_lengthOf
  refine WQ.loc [0, 1] (lv' := [(0, vr Z 26 0), (1, vi a1)]) rfl ?_
  refine wq_iconst dX13_lengthOf_0 ?_
  refine wq_istore_n (lv' := [(2, vi 0), (0, vr Z 26 0), (1, vi a1)]) dX13_lengthOf_1 rfl (by decide) rfl ?_
  refine wq_aload_n dX13_lengthOf_2 1 rfl rfl ?_
  refine wq_iconst dX13_lengthOf_3 ?_
  refine p_26_10 ln_RX13_126 dX13_lengthOf_4 (fun J1 => ?_)
  refine wq_iconst dX13_lengthOf_7 ?_
  refine wq_istore_n (lv' := [(3, vi 0), (2, vi 0), (0, vr Z 26 0), (1, vi a1)]) dX13_lengthOf_8 rfl (by decide) rfl ?_
  refine WQ.loc [2, 3, 1, 0] (lv' := [(0, vr Z 26 0), (1, vi a1), (2, vi 0), (3, vi 0)]) rfl ?_
  refine wq_loop (fun s18 => [(0, vr Z 26 0), (1, vi a1), (2, vi s18.1), (3, vi s18.2)]) (fun κ12 bk13 hr15 gr17 s18 J16 => ?_) gr _ rfl
  unfold f_M_lengthOf_w9
  refine wq_iload_n dX13_lengthOf_9 3 rfl rfl ?_
  refine wq_aload_n dX13_lengthOf_10 0 rfl rfl ?_
  refine wq_iload_n dX13_lengthOf_11 1 rfl rfl ?_
  refine wq_cVi M_M_many (R_M_many Z a1 _) ob_26 rfl rfl (by decide) (by decide) (Nat.le_of_ble_eq_true rfl) ln_RX13_103 dX13_lengthOf_12 (fun gr19 x21 J20 => ?_)
  refine wq_icmp_ge 72 dX13_lengthOf_15 (by decide) rfl rfl (fun c28 => ?_) (fun c28 => ?_)
  · refine wq_aload_n dX13_lengthOf_18 0 rfl rfl ?_
    refine wq_iload_n dX13_lengthOf_19 1 rfl rfl ?_
    refine wq_iload_n dX13_lengthOf_20 3 rfl rfl ?_
    refine wq_cVi M_M_at (R_M_at Z a1 s18.2 _) ob_26 rfl rfl (by decide) (by decide) (Nat.le_of_ble_eq_true rfl) ln_RX13_119 dX13_lengthOf_21 (fun gr22 x24 J23 => ?_)
    refine wq_istore (lv' := [(4, vi x24), (0, vr Z 26 0), (1, vi a1), (2, vi s18.1), (3, vi s18.2)]) dX13_lengthOf_24 (by decide) rfl ?_
    refine wq_aload_n dX13_lengthOf_26 1 rfl rfl ?_
    refine g_26_8 ln_RX13_31 dX13_lengthOf_27 ?_
    refine wq_iload dX13_lengthOf_30 0 rfl ?_
    refine wq_grd (fun g25 => ?_)
    refine wq_iald (k := 27) (i := 5) rfl (by decide) rfl rfl (m := 66) g25 (Nat.le_of_ble_eq_true rfl) dX13_lengthOf_32 ?_
    refine wq_if_ne 38 dX13_lengthOf_33 (by decide) rfl (fun c27 => ?_) (fun c27 => ?_)
    · refine wq_iconst dX13_lengthOf_36 ?_
      exact wq_iret rfl ((hr15 _ _).trans rfl) dX13_lengthOf_37
    · refine wq_iload_n dX13_lengthOf_38 3 rfl rfl ?_
      refine wq_aload_n dX13_lengthOf_39 1 rfl rfl ?_
      refine g_26_8 ln_RX13_31 dX13_lengthOf_40 ?_
      refine wq_iload dX13_lengthOf_43 0 rfl ?_
      refine wq_iald (k := 27) (i := 5) rfl (by decide) rfl rfl (m := 66) g25 (Nat.le_of_ble_eq_true rfl) dX13_lengthOf_45 ?_
      refine wq_iadd dX13_lengthOf_46 ?_
      refine wq_istore_n (lv' := [(2, vi (s18.1 + (J23 27 5 (w32 x24).toNat))), (4, vi x24), (0, vr Z 26 0), (1, vi a1), (3, vi s18.2)]) dX13_lengthOf_47 rfl (by decide) rfl ?_
      refine wq_aload_n dX13_lengthOf_48 2 rfl rfl ?_
      refine wq_aload_n dX13_lengthOf_49 2 rfl rfl ?_
      refine g_26_10 ln_RX13_126 dX13_lengthOf_50 ?_
      refine wq_aload_n dX13_lengthOf_53 2 rfl rfl ?_
      refine g_26_9 ln_RX13_34 dX13_lengthOf_54 ?_
      refine wq_iload dX13_lengthOf_57 1 rfl ?_
      refine wq_iald (k := 27) (i := 6) rfl (by decide) rfl rfl (m := 66) g25 (Nat.le_of_ble_eq_true rfl) dX13_lengthOf_59 ?_
      refine wq_max (by decide) (Nat.le_of_ble_eq_true rfl) ln_RX13_129 mt_max_s mt_i mt_max_c dX13_lengthOf_60 ?_
      refine p_26_10 ln_RX13_126 dX13_lengthOf_63 (fun J26 => ?_)
      refine wq_iinc (lv' := [(3, vi (s18.2 + 1)), (2, vi (s18.1 + (J23 27 5 (w32 x24).toNat))), (4, vi x24), (0, vr Z 26 0), (1, vi a1)]) dX13_lengthOf_66 4 rfl (by decide) rfl ?_
      refine wq_goto 9 dX13_lengthOf_69 (by decide) ?_
      exact WQ.loc [3, 4, 1, 0] rfl (bk13 _ _ _)
  · refine wq_iload_n dX13_lengthOf_72 2 rfl rfl ?_
    exact wq_iret rfl ((hr15 _ _).trans rfl) dX13_lengthOf_73

theorem M_M_lengthOf : MwV yX13_lengthOf cX13_lengthOf 5 (some .int) 1 := ⟨li_8 27 (by decide +kernel) (by decide +kernel), li_8 26 (by decide +kernel) (by decide +kernel), lw_in 69 (by decide +kernel) (by decide +kernel), li_1 16 (by decide +kernel) (by decide +kernel), by decide +kernel⟩
theorem ln_RX13_134 : Cond.methodLink RX13 134 yX13_lengthOf ∈ lw_good := li_8 24 (by decide +kernel) (by decide +kernel)
noncomputable def f_M_laysLengths_w2  (s : Int) (I : Mem) : Option (((Int) ⊕ (Unit)) × Mem) :=
if (w32 s) < 66 then
bnd (f_M_one (if (w32 s) < 26 then 1 else 0) I) fun x3 J2 =>
if 0 ≤ (w32 s) ∧ (w32 s) < 66 then
ltI (sI J2 27 5 (w32 s).toNat x3) fun J5 =>
ltI (sI J5 27 6 (w32 s).toNat 0) fun J6 =>
some (.inl (s + 1), J6)
else none
else
some (.inr (), I)

noncomputable def f_M_laysLengths_w51  (s : Int × Int) (I : Mem) : Option (((Int × Int) ⊕ (Int)) × Mem) :=
if (w32 s.2) < 40 then
bnd (f_M_isHere s.2 I) fun x31 J30 =>
if (w32 x31) = 0 then
some (.inl (s.1, (s.2 + 1)), J30)
else
if 0 ≤ (w32 (26 + s.2)) ∧ (w32 (26 + s.2)) < 66 then
if 0 < (w32 (J30 27 5 (w32 (26 + s.2)).toNat)) then
some (.inl (s.1, (s.2 + 1)), J30)
else
bnd (f_M_lengthOf (s.2 + 1) J30) fun x35 J34 =>
ltI (sI J34 27 5 (w32 (26 + s.2)).toNat x35) fun J36 =>
ltI (sI J36 27 6 (w32 (26 + s.2)).toNat ((J36 26 0 10) + 1)) fun J37 =>
if (w32 s.1) = 0 then
if 0 < (w32 (J37 27 5 (w32 (26 + s.2)).toNat)) then
some (.inl (1, (s.2 + 1)), J37)
else
some (.inl (0, (s.2 + 1)), J37)
else
some (.inl (1, (s.2 + 1)), J37)
else none
else
some (.inr s.1, I)

noncomputable def f_M_laysLengths_w43  (s : Int) (I : Mem) : Option (((Int) ⊕ (Unit)) × Mem) :=
if (w32 s) = 0 then
some (.inr (), I)
else
bnd (whl (f_M_laysLengths_w51) (0, 0) I) fun r64 J65 =>
some (.inl r64, J65)

noncomputable def f_M_laysLengths  (I : Mem) : Option ((Unit) × Mem) :=
bnd (whl (f_M_laysLengths_w2) 0 I) fun r26 J27 =>
bnd (whl (f_M_laysLengths_w43) 1 J27) fun r100 J101 =>
some ((), J101)
set_option maxRecDepth 20000 in
theorem R_M_laysLengths (Z : ZT)  (I : Mem) (r : Unit) (J : Mem) (hf : f_M_laysLengths I = some (r, J)) : Runs Z yX13_laysLengths cX13_laysLengths 3 (none) 3 [vr Z 26 0] I (none, J) := by
  refine Runs.of (rv := fun _ => none) (by decide +kernel) (Nat.le_of_ble_eq_true rfl) hf (fun gr => ?_)
  unfold f_M_laysLengths
  refine WQ.loc [0] (lv' := [(0, vr Z 26 0)]) rfl ?_
  refine wq_iconst dX13_laysLengths_0 ?_
  refine wq_istore_n (lv' := [(1, vi 0), (0, vr Z 26 0)]) dX13_laysLengths_1 rfl (by decide) rfl ?_
  refine WQ.loc [1, 0] (lv' := [(0, vr Z 26 0), (1, vi 0)]) rfl ?_
  refine wq_loopS (fun s16 => [(0, vr Z 26 0), (1, vi s16)]) 41 (fun _ => [(0, vr Z 26 0)]) (fun κ10 bk11 ex12 gr15 s16 J14 => ?_) (fun gr28 r26 J27 => ?_) gr _ rfl
  · unfold f_M_laysLengths_w2
    refine wq_iload_n dX13_laysLengths_2 1 rfl rfl ?_
    refine wq_bipush dX13_laysLengths_3 (by decide) ?_
    refine wq_icmp_ge 41 dX13_laysLengths_5 (by decide) rfl rfl (fun c25 => ?_) (fun c25 => ?_)
    · refine wq_aload_n dX13_laysLengths_8 0 rfl rfl ?_
      refine g_26_8 ln_RX13_31 dX13_laysLengths_9 ?_
      refine wq_iload_n dX13_laysLengths_12 1 rfl rfl ?_
      refine wq_iload_n dX13_laysLengths_13 1 rfl rfl ?_
      refine wq_bipush dX13_laysLengths_14 (by decide) ?_
      refine WQ.via 24 [vi (if (w32 s16) < 26 then 1 else 0), vi s16, vr Z 27 5] (by
          refine wq_cSi M_M_one (R_M_one Z (if (w32 s16) < 26 then 1 else 0) _) rfl rfl rfl (by decide) (by decide) (Nat.le_of_ble_eq_true rfl) ln_RX13_115 dX13_laysLengths_24 (fun gr17 x19 J18 => ?_)
          refine wq_grd (fun g20 => ?_)
          refine wq_iast (k := 27) (i := 5) (fun _ _ => rfl) (by decide) rfl rfl (m := 66) g20 (Nat.le_of_ble_eq_true rfl) (by decide) (by decide) (by decide) dX13_laysLengths_27 (fun J21 => ?_)
          refine wq_aload_n dX13_laysLengths_28 0 rfl rfl ?_
          refine g_26_9 ln_RX13_34 dX13_laysLengths_29 ?_
          refine wq_iload_n dX13_laysLengths_32 1 rfl rfl ?_
          refine wq_iconst dX13_laysLengths_33 ?_
          refine wq_iast (k := 27) (i := 6) (fun _ _ => rfl) (by decide) rfl rfl (m := 66) g20 (Nat.le_of_ble_eq_true rfl) (by decide) (by decide) (by decide) dX13_laysLengths_34 (fun J22 => ?_)
          refine wq_iinc (lv' := [(1, vi (s16 + 1)), (0, vr Z 26 0)]) dX13_laysLengths_35 1 rfl (by decide) rfl ?_
          refine wq_goto 2 dX13_laysLengths_38 (by decide) ?_
          exact WQ.loc [1, 0] rfl (bk11 _ _ _)) (fun hj23 => ?_)
      refine WQ.both ((w32 s16) < 26) ?_
      refine wq_icmp_ge 23 dX13_laysLengths_16 (by decide) rfl rfl (fun c24 => ?_) (fun c24 => ?_)
      · refine wq_iconst dX13_laysLengths_19 ?_
        refine wq_goto 24 dX13_laysLengths_20 (by decide) ?_
        exact WQ.top (if_pos c24) hj23
      · refine wq_iconst dX13_laysLengths_23 ?_
        exact WQ.top (if_neg c24) hj23
    · exact WQ.loc [0] rfl (ex12 _ _ _)
  · refine wq_iconst dX13_laysLengths_41 ?_
    refine wq_istore_n (lv' := [(1, vi 1), (0, vr Z 26 0)]) dX13_laysLengths_42 rfl (by decide) rfl ?_
    refine WQ.loc [1, 0] (lv' := [(0, vr Z 26 0), (1, vi 1)]) rfl ?_
    refine wq_loopS (fun s74 => [(0, vr Z 26 0), (1, vi s74)]) 142 (fun _ => []) (fun κ68 bk69 ex70 gr73 s74 J72 => ?_) (fun gr102 r100 J101 => ?_) gr28 _ rfl
    · unfold f_M_laysLengths_w43
      refine wq_iload_n dX13_laysLengths_43 1 rfl rfl ?_
      refine wq_if_eq 142 dX13_laysLengths_44 (by decide) rfl (fun c99 => ?_) (fun c99 => ?_)
      · exact WQ.loc [] rfl (ex70 _ _ _)
      · refine wq_iconst dX13_laysLengths_47 ?_
        refine wq_istore_n (lv' := [(1, vi 0), (0, vr Z 26 0)]) dX13_laysLengths_48 rfl (by decide) rfl ?_
        refine wq_iconst dX13_laysLengths_49 ?_
        refine wq_istore_n (lv' := [(2, vi 0), (1, vi 0), (0, vr Z 26 0)]) dX13_laysLengths_50 rfl (by decide) rfl ?_
        refine WQ.loc [2, 1, 0] (lv' := [(0, vr Z 26 0), (1, vi 0), (2, vi 0)]) rfl ?_
        refine wq_loopS (fun s81 => [(0, vr Z 26 0), (1, vi s81.1), (2, vi s81.2)]) 139 (fun r96 => [(0, vr Z 26 0), (1, vi r96)]) (fun κ75 bk76 ex77 gr80 s81 J79 => ?_) (fun gr98 r96 J97 => ?_) gr73 _ rfl
        · unfold f_M_laysLengths_w51
          refine wq_iload_n dX13_laysLengths_51 2 rfl rfl ?_
          refine wq_bipush dX13_laysLengths_52 (by decide) ?_
          refine wq_icmp_ge 139 dX13_laysLengths_54 (by decide) rfl rfl (fun c95 => ?_) (fun c95 => ?_)
          · refine wq_aload_n dX13_laysLengths_57 0 rfl rfl ?_
            refine wq_iload_n dX13_laysLengths_58 2 rfl rfl ?_
            refine wq_cVi M_M_isHere (R_M_isHere Z s81.2 _) ob_26 rfl rfl (by decide) (by decide) (Nat.le_of_ble_eq_true rfl) ln_RX13_111 dX13_laysLengths_59 (fun gr82 x84 J83 => ?_)
            refine wq_if_eq 133 dX13_laysLengths_62 (by decide) rfl (fun c94 => ?_) (fun c94 => ?_)
            · refine wq_iinc (lv' := [(2, vi (s81.2 + 1)), (0, vr Z 26 0), (1, vi s81.1)]) dX13_laysLengths_133 2 rfl (by decide) rfl ?_
              refine wq_goto 51 dX13_laysLengths_136 (by decide) ?_
              exact WQ.loc [1, 2, 0] rfl (bk76 _ _ _)
            · refine wq_aload_n dX13_laysLengths_65 0 rfl rfl ?_
              refine g_26_8 ln_RX13_31 dX13_laysLengths_66 ?_
              refine wq_bipush dX13_laysLengths_69 (by decide) ?_
              refine wq_iload_n dX13_laysLengths_71 2 rfl rfl ?_
              refine wq_iadd dX13_laysLengths_72 ?_
              refine wq_grd (fun g85 => ?_)
              refine wq_iald (k := 27) (i := 5) rfl (by decide) rfl rfl (m := 66) g85 (Nat.le_of_ble_eq_true rfl) dX13_laysLengths_73 ?_
              refine wq_if_le 80 dX13_laysLengths_74 (by decide) rfl (fun c93 => ?_) (fun c93 => ?_)
              · refine wq_goto 133 dX13_laysLengths_77 (by decide) ?_
                refine wq_iinc (lv' := [(2, vi (s81.2 + 1)), (0, vr Z 26 0), (1, vi s81.1)]) dX13_laysLengths_133 2 rfl (by decide) rfl ?_
                refine wq_goto 51 dX13_laysLengths_136 (by decide) ?_
                exact WQ.loc [1, 2, 0] rfl (bk76 _ _ _)
              · refine wq_aload_n dX13_laysLengths_80 0 rfl rfl ?_
                refine g_26_8 ln_RX13_31 dX13_laysLengths_81 ?_
                refine wq_bipush dX13_laysLengths_84 (by decide) ?_
                refine wq_iload_n dX13_laysLengths_86 2 rfl rfl ?_
                refine wq_iadd dX13_laysLengths_87 ?_
                refine wq_aload_n dX13_laysLengths_88 0 rfl rfl ?_
                refine wq_iload_n dX13_laysLengths_89 2 rfl rfl ?_
                refine wq_iconst dX13_laysLengths_90 ?_
                refine wq_iadd dX13_laysLengths_91 ?_
                refine wq_cVi M_M_lengthOf (R_M_lengthOf Z (s81.2 + 1) _) ob_26 rfl rfl (by decide) (by decide) (Nat.le_of_ble_eq_true rfl) ln_RX13_134 dX13_laysLengths_92 (fun gr86 x88 J87 => ?_)
                refine wq_iast (k := 27) (i := 5) (fun _ _ => rfl) (by decide) rfl rfl (m := 66) g85 (Nat.le_of_ble_eq_true rfl) (by decide) (by decide) (by decide) dX13_laysLengths_95 (fun J89 => ?_)
                refine wq_aload_n dX13_laysLengths_96 0 rfl rfl ?_
                refine g_26_9 ln_RX13_34 dX13_laysLengths_97 ?_
                refine wq_bipush dX13_laysLengths_100 (by decide) ?_
                refine wq_iload_n dX13_laysLengths_102 2 rfl rfl ?_
                refine wq_iadd dX13_laysLengths_103 ?_
                refine wq_aload_n dX13_laysLengths_104 0 rfl rfl ?_
                refine g_26_10 ln_RX13_126 dX13_laysLengths_105 ?_
                refine wq_iconst dX13_laysLengths_108 ?_
                refine wq_iadd dX13_laysLengths_109 ?_
                refine wq_iast (k := 27) (i := 6) (fun _ _ => rfl) (by decide) rfl rfl (m := 66) g85 (Nat.le_of_ble_eq_true rfl) (by decide) (by decide) (by decide) dX13_laysLengths_110 (fun J90 => ?_)
                refine wq_iload_n dX13_laysLengths_111 1 rfl rfl ?_
                refine wq_if_ne 127 dX13_laysLengths_112 (by decide) rfl (fun c92 => ?_) (fun c92 => ?_)
                · refine wq_aload_n dX13_laysLengths_115 0 rfl rfl ?_
                  refine g_26_8 ln_RX13_31 dX13_laysLengths_116 ?_
                  refine wq_bipush dX13_laysLengths_119 (by decide) ?_
                  refine wq_iload_n dX13_laysLengths_121 2 rfl rfl ?_
                  refine wq_iadd dX13_laysLengths_122 ?_
                  refine wq_iald (k := 27) (i := 5) rfl (by decide) rfl rfl (m := 66) g85 (Nat.le_of_ble_eq_true rfl) dX13_laysLengths_123 ?_
                  refine wq_if_le 131 dX13_laysLengths_124 (by decide) rfl (fun c91 => ?_) (fun c91 => ?_)
                  · refine wq_iconst dX13_laysLengths_127 ?_
                    refine wq_goto 132 dX13_laysLengths_128 (by decide) ?_
                    refine wq_istore_n (lv' := [(1, vi 1), (0, vr Z 26 0), (2, vi s81.2)]) dX13_laysLengths_132 rfl (by decide) rfl ?_
                    refine wq_iinc (lv' := [(2, vi (s81.2 + 1)), (1, vi 1), (0, vr Z 26 0)]) dX13_laysLengths_133 2 rfl (by decide) rfl ?_
                    refine wq_goto 51 dX13_laysLengths_136 (by decide) ?_
                    exact WQ.loc [2, 1, 0] rfl (bk76 _ _ _)
                  · refine wq_iconst dX13_laysLengths_131 ?_
                    refine wq_istore_n (lv' := [(1, vi 0), (0, vr Z 26 0), (2, vi s81.2)]) dX13_laysLengths_132 rfl (by decide) rfl ?_
                    refine wq_iinc (lv' := [(2, vi (s81.2 + 1)), (1, vi 0), (0, vr Z 26 0)]) dX13_laysLengths_133 2 rfl (by decide) rfl ?_
                    refine wq_goto 51 dX13_laysLengths_136 (by decide) ?_
                    exact WQ.loc [2, 1, 0] rfl (bk76 _ _ _)
                · refine wq_iconst dX13_laysLengths_127 ?_
                  refine wq_goto 132 dX13_laysLengths_128 (by decide) ?_
                  refine wq_istore_n (lv' := [(1, vi 1), (0, vr Z 26 0), (2, vi s81.2)]) dX13_laysLengths_132 rfl (by decide) rfl ?_
                  refine wq_iinc (lv' := [(2, vi (s81.2 + 1)), (1, vi 1), (0, vr Z 26 0)]) dX13_laysLengths_133 2 rfl (by decide) rfl ?_
                  refine wq_goto 51 dX13_laysLengths_136 (by decide) ?_
                  exact WQ.loc [2, 1, 0] rfl (bk76 _ _ _)
          · exact WQ.loc [0, 1] rfl (ex77 _ _ _)
        · refine wq_goto 43 dX13_laysLengths_139 (by decide) ?_
          exact WQ.loc [0, 1] rfl (bk69 _ _ _)
    · exact wq_vret rfl rfl dX13_laysLengths_142

theorem M_M_laysLengths : MwV yX13_laysLengths cX13_laysLengths 3 (none) 0 := ⟨li_8 23 (by decide +kernel) (by decide +kernel), li_8 22 (by decide +kernel) (by decide +kernel), lw_in 68 (by decide +kernel) (by decide +kernel), li_1 16 (by decide +kernel) (by decide +kernel), by decide +kernel⟩
theorem ln_RX13_137 : Cond.methodLink RX13 137 yX13_laysLengths ∈ lw_good := li_8 20 (by decide +kernel) (by decide +kernel)
noncomputable def f_M_textLong  (I : Mem) : Option ((Int) × Mem) :=
bnd (f_M_laysLengths I) fun _ J2 =>
bnd (f_M_lengthOf 0 J2) fun x6 J5 =>
some (x6, J5)
set_option maxRecDepth 20000 in
theorem R_M_textLong (Z : ZT)  (I : Mem) (r : Int) (J : Mem) (hf : f_M_textLong I = some (r, J)) : Runs Z yX13_textLong cX13_textLong 1 (some .int) 4 [vr Z 26 0] I (some (vi r), J) := by
  refine Runs.of (rv := fun x => some (vi x)) (by decide +kernel) (Nat.le_of_ble_eq_true rfl) hf (fun gr => ?_)
  unfold f_M_textLong
  refine WQ.loc [0] (lv' := [(0, vr Z 26 0)]) rfl ?_
  refine wq_aload_n dX13_textLong_0 0 rfl rfl ?_
  refine wq_cVv M_M_laysLengths (R_M_laysLengths Z _) ob_26 rfl rfl (by decide) (by decide) (Nat.le_of_ble_eq_true rfl) ln_RX13_137 dX13_textLong_1 (fun gr1 _ J2 => ?_)
  refine wq_aload_n dX13_textLong_4 0 rfl rfl ?_
  refine wq_iconst dX13_textLong_5 ?_
  refine wq_cVi M_M_lengthOf (R_M_lengthOf Z 0 _) ob_26 rfl rfl (by decide) (by decide) (Nat.le_of_ble_eq_true rfl) ln_RX13_134 dX13_textLong_6 (fun gr4 x6 J5 => ?_)
  exact wq_iret rfl rfl dX13_textLong_9

theorem ln_RX13_43 : Cond.fieldLink RX13 43 RX13 "inRow" "[I" ∈ lw_good := li_7 67 (by decide +kernel) (by decide +kernel)
theorem ln_RX13_46 : Cond.fieldLink RX13 46 RX13 "inPlace" "[I" ∈ lw_good := li_7 68 (by decide +kernel) (by decide +kernel)
theorem ln_RX13_37 : Cond.fieldLink RX13 37 RX13 "unfolded" "[I" ∈ lw_good := li_7 65 (by decide +kernel) (by decide +kernel)
theorem ln_RX13_40 : Cond.fieldLink RX13 40 RX13 "madeBy" "[I" ∈ lw_good := li_7 66 (by decide +kernel) (by decide +kernel)
noncomputable def f_M_unfolds_j88 (v1 : Int) (v2 : Int) (v3 : Int) (v4 : Int)  (e0 : Int) (I : Mem) : Option (((Int × Int) ⊕ (Int)) × Mem) :=
if (w32 v4) = 0 then
if (w32 e0) < 26 then
if 0 ≤ (w32 v1) ∧ (w32 v1) < 401 then
ltI (sI I 27 7 (w32 v1).toNat e0) fun J26 =>
ltI (sI J26 27 8 (w32 v1).toNat v2) fun J27 =>
if 0 < (w32 v3) then
if 0 ≤ (w32 v3) ∧ (w32 v3) < 42 then
ltI (sI J27 27 10 (w32 v3).toNat ((J27 27 10 (w32 v3).toNat) + 1)) fun J29 =>
some (.inl ((v1 + 1), v3), J29)
else none
else
some (.inl ((v1 + 1), (-1)), J27)
else none
else
if 0 ≤ (w32 (v3 + 1)) ∧ (w32 (v3 + 1)) < 42 then
ltI (sI I 27 9 (w32 (v3 + 1)).toNat ((e0 - 26) + 1)) fun J23 =>
ltI (sI J23 27 10 (w32 (v3 + 1)).toNat 0) fun J24 =>
some (.inl (v1, (v3 + 1)), J24)
else none
else
if 0 < (w32 (v3 + (-1))) then
if 0 ≤ (w32 (v3 + (-1))) ∧ (w32 (v3 + (-1))) < 42 then
ltI (sI I 27 10 (w32 (v3 + (-1))).toNat ((I 27 10 (w32 (v3 + (-1))).toNat) + 1)) fun J33 =>
some (.inl (v1, (v3 + (-1))), J33)
else none
else
some (.inl (v1, (-1)), I)

noncomputable def f_M_unfolds_j61 (v1 : Int) (v2 : Int) (v3 : Int)  (e0 : Int) (I : Mem) : Option (((Int × Int) ⊕ (Int)) × Mem) :=
if (w32 e0) = 0 then
if 0 ≤ (w32 v3) ∧ (w32 v3) < 42 then
bnd (f_M_at (I 27 9 (w32 v3).toNat) (I 27 10 (w32 v3).toNat) I) fun x20 J19 =>
f_M_unfolds_j88 v1 v2 v3 e0 x20 J19
else none
else
f_M_unfolds_j88 v1 v2 v3 e0 0 I

noncomputable def f_M_unfolds_j60 (v1 : Int) (v2 : Int) (v3 : Int)   (I : Mem) : Option (((Int × Int) ⊕ (Int)) × Mem) :=
f_M_unfolds_j61 v1 v2 v3 0 I

noncomputable def f_M_unfolds_w29 (v2 : Int) (s : Int × Int) (I : Mem) : Option (((Int × Int) ⊕ (Int)) × Mem) :=
if (w32 s.2) < 0 then
some (.inr s.1, I)
else
if 0 < (w32 s.2) then
if 0 ≤ (w32 s.2) ∧ (w32 s.2) < 42 then
bnd (f_M_many (I 27 9 (w32 s.2).toNat) I) fun x13 J12 =>
if (w32 (I 27 10 (w32 s.2).toNat)) = (w32 x13) then
f_M_unfolds_j61 s.1 v2 s.2 1 J12
else
f_M_unfolds_j60 s.1 v2 s.2 J12
else none
else
f_M_unfolds_j60 s.1 v2 s.2 I

noncomputable def f_M_unfolds_w4  (s : Int × Int) (I : Mem) : Option (((Int × Int) ⊕ (Int)) × Mem) :=
bnd (f_M_many 0 I) fun x3 J2 =>
if (w32 s.2) < (w32 x3) then
ltI (sI J2 27 9 0 0) fun J5 =>
ltI (sI J5 27 10 0 s.2) fun J7 =>
bnd (whl (f_M_unfolds_w29 s.2) (s.1, 0) J7) fun r121 J122 =>
some (.inl (r121, (s.2 + 1)), J122)
else
some (.inr s.1, J2)

noncomputable def f_M_unfolds  (I : Mem) : Option ((Int) × Mem) :=
bnd (whl (f_M_unfolds_w4) (0, 0) I) fun r185 J186 =>
some (r185, J186)
set_option maxRecDepth 20000 in
theorem R_M_unfolds (Z : ZT)  (I : Mem) (r : Int) (J : Mem) (hf : f_M_unfolds I = some (r, J)) : Runs Z yX13_unfolds cX13_unfolds 6 (some .int) 2 [vr Z 26 0] I (some (vi r), J) := by
  refine Runs.of (rv := fun x => some (vi x)) (by decide +kernel) (Nat.le_of_ble_eq_true rfl) hf (fun gr => ?_)
  unfold f_M_unfolds
  refine WQ.loc [0] (lv' := [(0, vr Z 26 0)]) rfl ?_
  refine wq_iconst dX13_unfolds_0 ?_
  refine wq_istore_n (lv' := [(1, vi 0), (0, vr Z 26 0)]) dX13_unfolds_1 rfl (by decide) rfl ?_
  refine wq_iconst dX13_unfolds_2 ?_
  refine wq_istore_n (lv' := [(2, vi 0), (1, vi 0), (0, vr Z 26 0)]) dX13_unfolds_3 rfl (by decide) rfl ?_
  refine WQ.loc [2, 1, 0] (lv' := [(0, vr Z 26 0), (1, vi 0), (2, vi 0)]) rfl ?_
  refine wq_loopS (fun s131 => [(0, vr Z 26 0), (1, vi s131.1), (2, vi s131.2)]) 199 (fun r185 => [(1, vi r185)]) (fun κ125 bk126 ex127 gr130 s131 J129 => ?_) (fun gr187 r185 J186 => ?_) gr _ rfl
  · unfold f_M_unfolds_w4
    refine wq_iload_n dX13_unfolds_4 2 rfl rfl ?_
    refine wq_aload_n dX13_unfolds_5 0 rfl rfl ?_
    refine wq_iconst dX13_unfolds_6 ?_
    refine wq_cVi M_M_many (R_M_many Z 0 _) ob_26 rfl rfl (by decide) (by decide) (Nat.le_of_ble_eq_true rfl) ln_RX13_103 dX13_unfolds_7 (fun gr132 x134 J133 => ?_)
    refine wq_icmp_ge 199 dX13_unfolds_10 (by decide) rfl rfl (fun c184 => ?_) (fun c184 => ?_)
    · refine wq_iconst dX13_unfolds_13 ?_
      refine wq_istore_n (lv' := [(3, vi 0), (0, vr Z 26 0), (1, vi s131.1), (2, vi s131.2)]) dX13_unfolds_14 rfl (by decide) rfl ?_
      refine wq_aload_n dX13_unfolds_15 1 rfl rfl ?_
      refine g_26_13 ln_RX13_43 dX13_unfolds_16 ?_
      refine wq_iconst dX13_unfolds_19 ?_
      refine wq_iconst dX13_unfolds_20 ?_
      refine wq_iast (k := 27) (i := 9) (fun _ _ => rfl) (by decide) rfl rfl (m := 42) (by decide) (Nat.le_of_ble_eq_true rfl) (by decide) (by decide) (by decide) dX13_unfolds_21 (fun J136 => ?_)
      refine wq_aload_n dX13_unfolds_22 1 rfl rfl ?_
      refine g_26_14 ln_RX13_46 dX13_unfolds_23 ?_
      refine wq_iconst dX13_unfolds_26 ?_
      refine wq_iload_n dX13_unfolds_27 3 rfl rfl ?_
      refine wq_iast (k := 27) (i := 10) (fun _ _ => rfl) (by decide) rfl rfl (m := 42) (by decide) (Nat.le_of_ble_eq_true rfl) (by decide) (by decide) (by decide) dX13_unfolds_28 (fun J138 => ?_)
      refine WQ.loc [1, 2, 3, 0] (lv' := [(0, vr Z 26 0), (1, vi s131.1), (2, vi s131.2), (3, vi 0)]) rfl ?_
      refine wq_loopS (fun s145 => [(0, vr Z 26 0), (1, vi s145.1), (2, vi s131.2), (3, vi s145.2)]) 193 (fun r181 => [(0, vr Z 26 0), (1, vi r181), (2, vi s131.2)]) (fun κ139 bk140 ex141 gr144 s145 J143 => ?_) (fun gr183 r181 J182 => ?_) gr132 _ rfl
      · unfold f_M_unfolds_w29
        refine wq_iload_n dX13_unfolds_29 3 rfl rfl ?_
        refine wq_if_lt 193 dX13_unfolds_30 (by decide) rfl (fun c180 => ?_) (fun c180 => ?_)
        · exact WQ.loc [0, 1, 2] rfl (ex141 _ _ _)
        · refine wq_iload_n dX13_unfolds_33 3 rfl rfl ?_
          have hj146 : ∀ (gr155 : Nat → Nat)  (hj146e0 : Int) (J154 : Mem), WQ Z (yX13_unfolds, cX13_unfolds, 6, some .int, 2) I gr155 61 [(0, vr Z 26 0), (1, vi s145.1), (2, vi s131.2), (3, vi s145.2)] [vi hj146e0] J154 (f_M_unfolds_j61 s145.1 s131.2 s145.2 hj146e0 J154) κ139 := by
            intro gr155 hj146e0 J154
            unfold f_M_unfolds_j61
            refine wq_istore (lv' := [(4, vi hj146e0), (0, vr Z 26 0), (1, vi s145.1), (2, vi s131.2), (3, vi s145.2)]) dX13_unfolds_61 (by decide) rfl ?_
            refine wq_iload dX13_unfolds_63 0 rfl ?_
            have hj156 : ∀ (gr163 : Nat → Nat)  (hj156e0 : Int) (J162 : Mem), WQ Z (yX13_unfolds, cX13_unfolds, 6, some .int, 2) I gr163 88 [(0, vr Z 26 0), (1, vi s145.1), (2, vi s131.2), (3, vi s145.2), (4, vi hj146e0)] [vi hj156e0] J162 (f_M_unfolds_j88 s145.1 s131.2 s145.2 hj146e0 hj156e0 J162) κ139 := by
              intro gr163 hj156e0 J162
              unfold f_M_unfolds_j88
              refine wq_istore (lv' := [(5, vi hj156e0), (0, vr Z 26 0), (1, vi s145.1), (2, vi s131.2), (3, vi s145.2), (4, vi hj146e0)]) dX13_unfolds_88 (by decide) rfl ?_
              refine wq_iload dX13_unfolds_90 5 rfl ?_
              refine wq_if_eq 120 dX13_unfolds_92 (by decide) rfl (fun c177 => ?_) (fun c177 => ?_)
              · refine wq_iload dX13_unfolds_120 0 rfl ?_
                refine wq_bipush dX13_unfolds_122 (by decide) ?_
                refine wq_icmp_ge 167 dX13_unfolds_124 (by decide) rfl rfl (fun c173 => ?_) (fun c173 => ?_)
                · refine wq_aload_n dX13_unfolds_127 1 rfl rfl ?_
                  refine g_26_11 ln_RX13_37 dX13_unfolds_128 ?_
                  refine wq_iload_n dX13_unfolds_131 2 rfl rfl ?_
                  refine wq_iload dX13_unfolds_132 0 rfl ?_
                  refine wq_grd (fun g167 => ?_)
                  refine wq_iast (k := 27) (i := 7) (fun _ _ => rfl) (by decide) rfl rfl (m := 401) g167 (Nat.le_of_ble_eq_true rfl) (by decide) (by decide) (by decide) dX13_unfolds_134 (fun J168 => ?_)
                  refine wq_aload_n dX13_unfolds_135 1 rfl rfl ?_
                  refine g_26_12 ln_RX13_40 dX13_unfolds_136 ?_
                  refine wq_iload_n dX13_unfolds_139 2 rfl rfl ?_
                  refine wq_iload_n dX13_unfolds_140 3 rfl rfl ?_
                  refine wq_iast (k := 27) (i := 8) (fun _ _ => rfl) (by decide) rfl rfl (m := 401) g167 (Nat.le_of_ble_eq_true rfl) (by decide) (by decide) (by decide) dX13_unfolds_141 (fun J169 => ?_)
                  refine wq_iinc (lv' := [(1, vi (s145.1 + 1)), (5, vi hj156e0), (0, vr Z 26 0), (2, vi s131.2), (3, vi s145.2), (4, vi hj146e0)]) dX13_unfolds_142 2 rfl (by decide) rfl ?_
                  refine wq_iload_n dX13_unfolds_145 4 rfl rfl ?_
                  refine wq_if_le 162 dX13_unfolds_146 (by decide) rfl (fun c172 => ?_) (fun c172 => ?_)
                  · refine wq_aload_n dX13_unfolds_149 2 rfl rfl ?_
                    refine g_26_14 ln_RX13_46 dX13_unfolds_150 ?_
                    refine wq_iload_n dX13_unfolds_153 4 rfl rfl ?_
                    refine wq_dup2 dX13_unfolds_154 rfl rfl ?_
                    refine wq_grd (fun g170 => ?_)
                    refine wq_iald (k := 27) (i := 10) rfl (by decide) rfl rfl (m := 42) g170 (Nat.le_of_ble_eq_true rfl) dX13_unfolds_155 ?_
                    refine wq_iconst dX13_unfolds_156 ?_
                    refine wq_iadd dX13_unfolds_157 ?_
                    refine wq_iast (k := 27) (i := 10) (fun _ _ => rfl) (by decide) rfl rfl (m := 42) g170 (Nat.le_of_ble_eq_true rfl) (by decide) (by decide) (by decide) dX13_unfolds_158 (fun J171 => ?_)
                    refine wq_goto 190 dX13_unfolds_159 (by decide) ?_
                    refine wq_goto 29 dX13_unfolds_190 (by decide) ?_
                    exact WQ.loc [2, 0, 3, 4] rfl (bk140 _ _ _)
                  · refine wq_iconst dX13_unfolds_162 ?_
                    refine wq_istore_n (lv' := [(3, vi (-1)), (1, vi (s145.1 + 1)), (5, vi hj156e0), (0, vr Z 26 0), (2, vi s131.2), (4, vi hj146e0)]) dX13_unfolds_163 rfl (by decide) rfl ?_
                    refine wq_goto 190 dX13_unfolds_164 (by decide) ?_
                    refine wq_goto 29 dX13_unfolds_190 (by decide) ?_
                    exact WQ.loc [3, 1, 4, 0] rfl (bk140 _ _ _)
                · refine wq_iinc (lv' := [(3, vi (s145.2 + 1)), (5, vi hj156e0), (0, vr Z 26 0), (1, vi s145.1), (2, vi s131.2), (4, vi hj146e0)]) dX13_unfolds_167 4 rfl (by decide) rfl ?_
                  refine wq_aload_n dX13_unfolds_170 2 rfl rfl ?_
                  refine g_26_13 ln_RX13_43 dX13_unfolds_171 ?_
                  refine wq_iload_n dX13_unfolds_174 0 rfl rfl ?_
                  refine wq_iload dX13_unfolds_175 1 rfl ?_
                  refine wq_bipush dX13_unfolds_177 (by decide) ?_
                  refine wq_isub dX13_unfolds_179 ?_
                  refine wq_iconst dX13_unfolds_180 ?_
                  refine wq_iadd dX13_unfolds_181 ?_
                  refine wq_grd (fun g164 => ?_)
                  refine wq_iast (k := 27) (i := 9) (fun _ _ => rfl) (by decide) rfl rfl (m := 42) g164 (Nat.le_of_ble_eq_true rfl) (by decide) (by decide) (by decide) dX13_unfolds_182 (fun J165 => ?_)
                  refine wq_aload_n dX13_unfolds_183 2 rfl rfl ?_
                  refine g_26_14 ln_RX13_46 dX13_unfolds_184 ?_
                  refine wq_iload_n dX13_unfolds_187 0 rfl rfl ?_
                  refine wq_iconst dX13_unfolds_188 ?_
                  refine wq_iast (k := 27) (i := 10) (fun _ _ => rfl) (by decide) rfl rfl (m := 42) g164 (Nat.le_of_ble_eq_true rfl) (by decide) (by decide) (by decide) dX13_unfolds_189 (fun J166 => ?_)
                  refine wq_goto 29 dX13_unfolds_190 (by decide) ?_
                  exact WQ.loc [2, 3, 4, 0] rfl (bk140 _ _ _)
              · refine wq_iinc (lv' := [(3, vi (s145.2 + (-1))), (5, vi hj156e0), (0, vr Z 26 0), (1, vi s145.1), (2, vi s131.2), (4, vi hj146e0)]) dX13_unfolds_95 4 rfl (by decide) rfl ?_
                refine wq_iload_n dX13_unfolds_98 0 rfl rfl ?_
                refine wq_if_le 115 dX13_unfolds_99 (by decide) rfl (fun c176 => ?_) (fun c176 => ?_)
                · refine wq_aload_n dX13_unfolds_102 2 rfl rfl ?_
                  refine g_26_14 ln_RX13_46 dX13_unfolds_103 ?_
                  refine wq_iload_n dX13_unfolds_106 0 rfl rfl ?_
                  refine wq_dup2 dX13_unfolds_107 rfl rfl ?_
                  refine wq_grd (fun g174 => ?_)
                  refine wq_iald (k := 27) (i := 10) rfl (by decide) rfl rfl (m := 42) g174 (Nat.le_of_ble_eq_true rfl) dX13_unfolds_108 ?_
                  refine wq_iconst dX13_unfolds_109 ?_
                  refine wq_iadd dX13_unfolds_110 ?_
                  refine wq_iast (k := 27) (i := 10) (fun _ _ => rfl) (by decide) rfl rfl (m := 42) g174 (Nat.le_of_ble_eq_true rfl) (by decide) (by decide) (by decide) dX13_unfolds_111 (fun J175 => ?_)
                  refine wq_goto 190 dX13_unfolds_112 (by decide) ?_
                  refine wq_goto 29 dX13_unfolds_190 (by decide) ?_
                  exact WQ.loc [2, 3, 4, 0] rfl (bk140 _ _ _)
                · refine wq_iconst dX13_unfolds_115 ?_
                  refine wq_istore_n (lv' := [(3, vi (-1)), (5, vi hj156e0), (0, vr Z 26 0), (1, vi s145.1), (2, vi s131.2), (4, vi hj146e0)]) dX13_unfolds_116 rfl (by decide) rfl ?_
                  refine wq_goto 190 dX13_unfolds_117 (by decide) ?_
                  refine wq_goto 29 dX13_unfolds_190 (by decide) ?_
                  exact WQ.loc [2, 3, 4, 0] rfl (bk140 _ _ _)
            refine wq_if_eq 72 dX13_unfolds_65 (by decide) rfl (fun c161 => ?_) (fun c161 => ?_)
            · refine wq_aload_n dX13_unfolds_72 1 rfl rfl ?_
              refine wq_aload_n dX13_unfolds_73 1 rfl rfl ?_
              refine g_26_13 ln_RX13_43 dX13_unfolds_74 ?_
              refine wq_iload_n dX13_unfolds_77 4 rfl rfl ?_
              refine wq_grd (fun g157 => ?_)
              refine wq_iald (k := 27) (i := 9) rfl (by decide) rfl rfl (m := 42) g157 (Nat.le_of_ble_eq_true rfl) dX13_unfolds_78 ?_
              refine wq_aload_n dX13_unfolds_79 1 rfl rfl ?_
              refine g_26_14 ln_RX13_46 dX13_unfolds_80 ?_
              refine wq_iload_n dX13_unfolds_83 4 rfl rfl ?_
              refine wq_iald (k := 27) (i := 10) rfl (by decide) rfl rfl (m := 42) g157 (Nat.le_of_ble_eq_true rfl) dX13_unfolds_84 ?_
              refine wq_cVi M_M_at (R_M_at Z (J154 27 9 (w32 s145.2).toNat) (J154 27 10 (w32 s145.2).toNat) _) ob_26 rfl rfl (by decide) (by decide) (Nat.le_of_ble_eq_true rfl) ln_RX13_119 dX13_unfolds_85 (fun gr158 x160 J159 => ?_)
              exact WQ.loc [1, 2, 3, 4, 0] rfl (hj156 _  _ _)
            · refine wq_iconst dX13_unfolds_68 ?_
              refine wq_goto 88 dX13_unfolds_69 (by decide) ?_
              exact WQ.loc [1, 2, 3, 4, 0] rfl (hj156 _  _ _)
          have hj147 : ∀ (gr179 : Nat → Nat)   (J178 : Mem), WQ Z (yX13_unfolds, cX13_unfolds, 6, some .int, 2) I gr179 60 [(0, vr Z 26 0), (1, vi s145.1), (2, vi s131.2), (3, vi s145.2)] [] J178 (f_M_unfolds_j60 s145.1 s131.2 s145.2 J178) κ139 := by
            intro gr179 J178
            unfold f_M_unfolds_j60
            refine wq_iconst dX13_unfolds_60 ?_
            exact WQ.loc [0, 1, 2, 3] rfl (hj146 _  _ _)
          refine wq_if_le 60 dX13_unfolds_34 (by decide) rfl (fun c153 => ?_) (fun c153 => ?_)
          · refine wq_aload_n dX13_unfolds_37 0 rfl rfl ?_
            refine g_26_14 ln_RX13_46 dX13_unfolds_38 ?_
            refine wq_iload_n dX13_unfolds_41 3 rfl rfl ?_
            refine wq_grd (fun g148 => ?_)
            refine wq_iald (k := 27) (i := 10) rfl (by decide) rfl rfl (m := 42) g148 (Nat.le_of_ble_eq_true rfl) dX13_unfolds_42 ?_
            refine wq_aload_n dX13_unfolds_43 0 rfl rfl ?_
            refine wq_aload_n dX13_unfolds_44 0 rfl rfl ?_
            refine g_26_13 ln_RX13_43 dX13_unfolds_45 ?_
            refine wq_iload_n dX13_unfolds_48 3 rfl rfl ?_
            refine wq_iald (k := 27) (i := 9) rfl (by decide) rfl rfl (m := 42) g148 (Nat.le_of_ble_eq_true rfl) dX13_unfolds_49 ?_
            refine wq_cVi M_M_many (R_M_many Z (J143 27 9 (w32 s145.2).toNat) _) ob_26 rfl rfl (by decide) (by decide) (Nat.le_of_ble_eq_true rfl) ln_RX13_103 dX13_unfolds_50 (fun gr149 x151 J150 => ?_)
            refine wq_icmp_ne 60 dX13_unfolds_53 (by decide) rfl rfl (fun c152 => ?_) (fun c152 => ?_)
            · refine wq_iconst dX13_unfolds_56 ?_
              refine wq_goto 61 dX13_unfolds_57 (by decide) ?_
              exact WQ.loc [0, 1, 2, 3] rfl (hj146 _  _ _)
            · exact WQ.loc [0, 1, 2, 3] rfl (hj147 _   _)
          · exact WQ.loc [0, 1, 2, 3] rfl (hj147 _   _)
      · refine wq_iinc (lv' := [(2, vi (s131.2 + 1)), (0, vr Z 26 0), (1, vi r181)]) dX13_unfolds_193 2 rfl (by decide) rfl ?_
        refine wq_goto 4 dX13_unfolds_196 (by decide) ?_
        exact WQ.loc [1, 2, 0] rfl (bk126 _ _ _)
    · exact WQ.loc [1] rfl (ex127 _ _ _)
  · refine wq_iload_n dX13_unfolds_199 0 rfl rfl ?_
    exact wq_iret rfl rfl dX13_unfolds_200

theorem M_M_unfolds : MwV yX13_unfolds cX13_unfolds 6 (some .int) 0 := ⟨li_7 38 (by decide +kernel) (by decide +kernel), li_7 37 (by decide +kernel) (by decide +kernel), lw_in 52 (by decide +kernel) (by decide +kernel), li_1 16 (by decide +kernel) (by decide +kernel), by decide +kernel⟩
theorem M_M_rules : MwV yX13_rules cX13_rules 3 (some .int) 0 := ⟨li_7 46 (by decide +kernel) (by decide +kernel), li_7 45 (by decide +kernel) (by decide +kernel), lw_in 54 (by decide +kernel) (by decide +kernel), li_1 16 (by decide +kernel) (by decide +kernel), by decide +kernel⟩
theorem ln_RX13_144 : Cond.methodLink RX13 144 yX13_rules ∈ lw_good := li_7 43 (by decide +kernel) (by decide +kernel)
theorem ln_RX13_140 : Cond.methodLink RX13 140 yX13_unfolds ∈ lw_good := li_7 35 (by decide +kernel) (by decide +kernel)
noncomputable def f_M_tellsText_w12  (s : Int) (I : Mem) : Option (((Int) ⊕ (Unit)) × Mem) :=
if (w32 s) < (w32 (I 27 0 3)) then
if 0 ≤ (w32 s) ∧ (w32 s) < 401 then
if 0 ≤ (w32 (16460 + s)) ∧ (w32 (16460 + s)) < 16860 then
ltI (sI I 27 0 (w32 (16460 + s)).toNat (I 27 7 (w32 s).toNat)) fun J9 =>
some (.inl (s + 1), J9)
else none
else none
else
some (.inr (), I)

noncomputable def f_M_tellsText  (I : Mem) : Option ((Unit) × Mem) :=
bnd (f_M_unfolds I) fun x3 J2 =>
ltI (sI J2 27 0 3 x3) fun J5 =>
bnd (whl (f_M_tellsText_w12) 0 J5) fun r23 J24 =>
bnd (f_M_rules J24) fun x28 J27 =>
ltI (sI J27 27 0 4 x28) fun J30 =>
some ((), J30)
set_option maxRecDepth 20000 in
theorem R_M_tellsText (Z : ZT)  (I : Mem) (r : Unit) (J : Mem) (hf : f_M_tellsText I = some (r, J)) : Runs Z yX13_tellsText cX13_tellsText 2 (none) 4 [vr Z 26 0] I (none, J) := by
  refine Runs.of (rv := fun _ => none) (by decide +kernel) (Nat.le_of_ble_eq_true rfl) hf (fun gr => ?_)
  unfold f_M_tellsText
  refine WQ.loc [0] (lv' := [(0, vr Z 26 0)]) rfl ?_
  refine wq_aload_n dX13_tellsText_0 0 rfl rfl ?_
  refine g_26_0 ln_RX13_9 dX13_tellsText_1 ?_
  refine wq_iconst dX13_tellsText_4 ?_
  refine wq_aload_n dX13_tellsText_5 0 rfl rfl ?_
  refine wq_cVi M_M_unfolds (R_M_unfolds Z _) ob_26 rfl rfl (by decide) (by decide) (Nat.le_of_ble_eq_true rfl) ln_RX13_140 dX13_tellsText_6 (fun gr1 x3 J2 => ?_)
  refine wq_iast (k := 27) (i := 0) (fun _ _ => rfl) (by decide) rfl rfl (m := 16860) (by decide) (Nat.le_of_ble_eq_true rfl) (by decide) (by decide) (by decide) dX13_tellsText_9 (fun J5 => ?_)
  refine wq_iconst dX13_tellsText_10 ?_
  refine wq_istore_n (lv' := [(1, vi 0), (0, vr Z 26 0)]) dX13_tellsText_11 rfl (by decide) rfl ?_
  refine WQ.loc [1, 0] (lv' := [(0, vr Z 26 0), (1, vi 0)]) rfl ?_
  refine wq_loopS (fun s17 => [(0, vr Z 26 0), (1, vi s17)]) 44 (fun _ => [(0, vr Z 26 0)]) (fun κ11 bk12 ex13 gr16 s17 J15 => ?_) (fun gr25 r23 J24 => ?_) gr1 _ rfl
  · unfold f_M_tellsText_w12
    refine wq_iload_n dX13_tellsText_12 1 rfl rfl ?_
    refine wq_aload_n dX13_tellsText_13 0 rfl rfl ?_
    refine g_26_0 ln_RX13_9 dX13_tellsText_14 ?_
    refine wq_iconst dX13_tellsText_17 ?_
    refine wq_iald (k := 27) (i := 0) rfl (by decide) rfl rfl (m := 16860) (by decide) (Nat.le_of_ble_eq_true rfl) dX13_tellsText_18 ?_
    refine wq_icmp_ge 44 dX13_tellsText_19 (by decide) rfl rfl (fun c22 => ?_) (fun c22 => ?_)
    · refine wq_aload_n dX13_tellsText_22 0 rfl rfl ?_
      refine g_26_0 ln_RX13_9 dX13_tellsText_23 ?_
      refine wq_sipush dX13_tellsText_26 (by decide) ?_
      refine wq_iload_n dX13_tellsText_29 1 rfl rfl ?_
      refine wq_iadd dX13_tellsText_30 ?_
      refine wq_aload_n dX13_tellsText_31 0 rfl rfl ?_
      refine g_26_11 ln_RX13_37 dX13_tellsText_32 ?_
      refine wq_iload_n dX13_tellsText_35 1 rfl rfl ?_
      refine wq_grd (fun g19 => ?_)
      refine wq_iald (k := 27) (i := 7) rfl (by decide) rfl rfl (m := 401) g19 (Nat.le_of_ble_eq_true rfl) dX13_tellsText_36 ?_
      refine wq_grd (fun g20 => ?_)
      refine wq_iast (k := 27) (i := 0) (fun _ _ => rfl) (by decide) rfl rfl (m := 16860) g20 (Nat.le_of_ble_eq_true rfl) (by decide) (by decide) (by decide) dX13_tellsText_37 (fun J21 => ?_)
      refine wq_iinc (lv' := [(1, vi (s17 + 1)), (0, vr Z 26 0)]) dX13_tellsText_38 1 rfl (by decide) rfl ?_
      refine wq_goto 12 dX13_tellsText_41 (by decide) ?_
      exact WQ.loc [1, 0] rfl (bk12 _ _ _)
    · exact WQ.loc [0] rfl (ex13 _ _ _)
  · refine wq_aload_n dX13_tellsText_44 0 rfl rfl ?_
    refine g_26_0 ln_RX13_9 dX13_tellsText_45 ?_
    refine wq_iconst dX13_tellsText_48 ?_
    refine wq_aload_n dX13_tellsText_49 0 rfl rfl ?_
    refine wq_cVi M_M_rules (R_M_rules Z _) ob_26 rfl rfl (by decide) (by decide) (Nat.le_of_ble_eq_true rfl) ln_RX13_144 dX13_tellsText_50 (fun gr26 x28 J27 => ?_)
    refine wq_iast (k := 27) (i := 0) (fun _ _ => rfl) (by decide) rfl rfl (m := 16860) (by decide) (Nat.le_of_ble_eq_true rfl) (by decide) (by decide) (by decide) dX13_tellsText_53 (fun J30 => ?_)
    exact wq_vret rfl rfl dX13_tellsText_54

noncomputable def f_M_pair (a0 : Int) (a1 : Int) (I : Mem) : Option ((Int) × Mem) :=
some (((66 * a0) + a1), I)
set_option maxRecDepth 20000 in
theorem R_M_pair (Z : ZT) (a0 : Int) (a1 : Int) (I : Mem) (r : Int) (J : Mem) (hf : f_M_pair a0 a1 I = some (r, J)) : Runs Z yX13_pair cX13_pair 2 (some .int) 1 [vi a0, vi a1] I (some (vi r), J) := by
  refine Runs.of (rv := fun x => some (vi x)) (by decide +kernel) (Nat.le_of_ble_eq_true rfl) hf (fun gr => ?_)
  unfold f_M_pair
  refine WQ.loc [0, 1] (lv' := [(0, vi a0), (1, vi a1)]) rfl ?_
  refine wq_bipush dX13_pair_0 (by decide) ?_
  refine wq_iload_n dX13_pair_2 0 rfl rfl ?_
  refine wq_imul dX13_pair_3 ?_
  refine wq_iload_n dX13_pair_4 1 rfl rfl ?_
  refine wq_iadd dX13_pair_5 ?_
  exact wq_iret rfl rfl dX13_pair_6

noncomputable def f_M_isAlone (a1 : Int) (I : Mem) : Option ((Int) × Mem) :=
if 0 < (w32 a1) then
bnd (f_M_many a1 I) fun x3 J2 =>
if (w32 x3) = 2 then
some (1, J2)
else
some (0, J2)
else
some (0, I)
set_option maxRecDepth 20000 in
theorem R_M_isAlone (Z : ZT) (a1 : Int) (I : Mem) (r : Int) (J : Mem) (hf : f_M_isAlone a1 I = some (r, J)) : Runs Z yX13_isAlone cX13_isAlone 2 (some .boolean) 2 [vr Z 26 0, vi a1] I (some (vi r), J) := by
  refine Runs.of (rv := fun x => some (vi x)) (by decide +kernel) (Nat.le_of_ble_eq_true rfl) hf (fun gr => ?_)
  unfold f_M_isAlone
  refine WQ.loc [0, 1] (lv' := [(0, vr Z 26 0), (1, vi a1)]) rfl ?_
  refine wq_iload_n dX13_isAlone_0 1 rfl rfl ?_
  refine wq_if_le 17 dX13_isAlone_1 (by decide) rfl (fun c5 => ?_) (fun c5 => ?_)
  · refine wq_aload_n dX13_isAlone_4 0 rfl rfl ?_
    refine wq_iload_n dX13_isAlone_5 1 rfl rfl ?_
    refine wq_cVi M_M_many (R_M_many Z a1 _) ob_26 rfl rfl (by decide) (by decide) (Nat.le_of_ble_eq_true rfl) ln_RX13_103 dX13_isAlone_6 (fun gr1 x3 J2 => ?_)
    refine wq_iconst dX13_isAlone_9 ?_
    refine wq_icmp_ne 17 dX13_isAlone_10 (by decide) rfl rfl (fun c4 => ?_) (fun c4 => ?_)
    · refine wq_iconst dX13_isAlone_13 ?_
      refine wq_goto 18 dX13_isAlone_14 (by decide) ?_
      exact wq_zret rfl (by decide) rfl dX13_isAlone_18
    · refine wq_iconst dX13_isAlone_17 ?_
      exact wq_zret rfl (by decide) rfl dX13_isAlone_18
  · refine wq_iconst dX13_isAlone_17 ?_
    exact wq_zret rfl (by decide) rfl dX13_isAlone_18
end
