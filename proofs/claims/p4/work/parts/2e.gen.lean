theorem ln_RX1_128 : Cond.constant RX1 128 (Int32.ofInt 1000000) ∈ lw_good := li_4 231 (by decide +kernel) (by decide +kernel)
theorem M_Row_drop : MwV yX5_drop cX5_drop 2 (none) 1 := ⟨li_4 235 (by decide +kernel) (by decide +kernel), li_4 233 (by decide +kernel) (by decide +kernel), li_4 234 (by decide +kernel) (by decide +kernel), li_1 3 (by decide +kernel) (by decide +kernel), by decide +kernel⟩
theorem ln_RX1_132 : Cond.methodLink RX1 132 yX5_putAll ∈ lw_good := li_4 236 (by decide +kernel) (by decide +kernel)
theorem ln_RX1_129 : Cond.methodLink RX1 129 yX5_drop ∈ lw_good := li_4 232 (by decide +kernel) (by decide +kernel)
noncomputable def f_G_dropLetters_w4 (v0 : Nat) (v1 : Int) (s : Int × Int) (I : Mem) : Option (((Int × Int) ⊕ (Unit)) × Mem) :=
if (w32 s.2) < 1000000 then
if 0 < (w32 s.1) then
if 0 < (w32 (I 2 (43 * v0) 1)) then
bnd (f_Row_at (43 * v0) ((I 2 (43 * v0) 1) - 1) I) fun x5 J4 =>
bnd (f_Row_drop (43 * v0) 1 J4) fun _ J7 =>
bnd (f_G_lengthOf v0 x5 J7) fun x11 J10 =>
if (w32 s.1) < (w32 x11) then
bnd (f_G_body v0 (x5 - 26) J10) fun x14 J13 =>
if x14 < 516 then
bnd (f_Row_putAll (43 * v0) x14 J13) fun _ J17 =>
bnd (f_G_addTo v0 8 1 J17) fun _ J20 =>
some (.inl (s.1, (s.2 + 1)), J20)
else none
else
bnd (f_G_lengthOf v0 x5 J10) fun x24 J23 =>
some (.inl ((s.1 - x24), (s.2 + 1)), J23)
else
some (.inr (), I)
else
some (.inr (), I)
else
some (.inr (), I)

noncomputable def f_G_dropLetters (t : Nat) (a1 : Int) (I : Mem) : Option ((Unit) × Mem) :=
if t < 12 then
bnd (whl (f_G_dropLetters_w4 t a1) (a1, 0) I) fun r64 J65 =>
bnd (f_Row_drop (43 * t + 1) a1 J65) fun _ J68 =>
bnd (f_G_addTo t 7 a1 J68) fun _ J71 =>
some ((), J71)
else none
set_option maxRecDepth 20000 in
theorem R_G_dropLetters (Z : ZT) (t : Nat) (a1 : Int) (I : Mem) (r : Unit) (J : Mem) (hf : f_G_dropLetters t a1 I = some (r, J)) : Runs Z yX1_dropLetters cX1_dropLetters 5 (none) 3 [vr Z 1 t, vi a1] I (none, J) := by
  refine Runs.of (rv := fun _ => none) (by decide +kernel) (Nat.le_of_ble_eq_true rfl) hf (fun gr => ?_)
  unfold f_G_dropLetters
  refine WQ.loc [0, 1] (lv' := [(0, vr Z 1 t), (1, vi a1)]) rfl ?_
  refine wq_grd (fun ht => ?_)
  refine wq_iload_n dX1_dropLetters_0 1 rfl rfl ?_
  refine wq_istore_n (lv' := [(2, vi a1), (0, vr Z 1 t), (1, vi a1)]) dX1_dropLetters_1 rfl (by decide) rfl ?_
  refine wq_iconst dX1_dropLetters_2 ?_
  refine wq_istore_n (lv' := [(3, vi 0), (2, vi a1), (0, vr Z 1 t), (1, vi a1)]) dX1_dropLetters_3 rfl (by decide) rfl ?_
  refine WQ.loc [2, 3, 1, 0] (lv' := [(0, vr Z 1 t), (1, vi a1), (2, vi a1), (3, vi 0)]) rfl ?_
  refine wq_loopS (fun s35 => [(0, vr Z 1 t), (1, vi a1), (2, vi s35.1), (3, vi s35.2)]) 101 (fun _ => [(0, vr Z 1 t), (1, vi a1)]) (fun κ29 bk30 ex31 gr34 s35 J33 => ?_) (fun gr66 r64 J65 => ?_) gr _ rfl
  · unfold f_G_dropLetters_w4
    refine wq_iload_n dX1_dropLetters_4 3 rfl rfl ?_
    refine wq_ldc ln_RX1_128 dX1_dropLetters_5 ?_
    refine wq_icmp_ge 101 dX1_dropLetters_7 (by decide) rfl rfl (fun c63 => ?_) (fun c63 => ?_)
    · refine wq_iload_n dX1_dropLetters_10 2 rfl rfl ?_
      refine wq_if_le 101 dX1_dropLetters_11 (by decide) rfl (fun c62 => ?_) (fun c62 => ?_)
      · refine wq_aload_n dX1_dropLetters_14 0 rfl rfl ?_
        refine g_1_0 ht ln_RX1_12 dX1_dropLetters_15 ?_
        refine wq_pV (v := vi (J33 2 (43 * t) 1)) M_Row_many (R_Row_many Z (43 * t) _ _ _ (if_pos (by omega))) (ob_2 (by omega)) rfl rfl (by decide) (by decide) (Nat.le_of_ble_eq_true rfl) ln_RX1_73 dX1_dropLetters_18 (fun gr36 => ?_)
        refine wq_if_le 101 dX1_dropLetters_21 (by decide) rfl (fun c61 => ?_) (fun c61 => ?_)
        · refine wq_aload_n dX1_dropLetters_24 0 rfl rfl ?_
          refine g_1_0 ht ln_RX1_12 dX1_dropLetters_25 ?_
          refine wq_aload_n dX1_dropLetters_28 0 rfl rfl ?_
          refine g_1_0 ht ln_RX1_12 dX1_dropLetters_29 ?_
          refine wq_pV (v := vi (J33 2 (43 * t) 1)) M_Row_many (R_Row_many Z (43 * t) _ _ _ (if_pos (by omega))) (ob_2 (by omega)) rfl rfl (by decide) (by decide) (Nat.le_of_ble_eq_true rfl) ln_RX1_73 dX1_dropLetters_32 (fun gr37 => ?_)
          refine wq_iconst dX1_dropLetters_35 ?_
          refine wq_isub dX1_dropLetters_36 ?_
          refine wq_cVi M_Row_at (R_Row_at Z (43 * t) ((J33 2 (43 * t) 1) - 1) _) (ob_2 (by omega)) rfl rfl (by decide) (by decide) (Nat.le_of_ble_eq_true rfl) ln_RX1_89 dX1_dropLetters_37 (fun gr38 x40 J39 => ?_)
          refine wq_istore (lv' := [(4, vi x40), (0, vr Z 1 t), (1, vi a1), (2, vi s35.1), (3, vi s35.2)]) dX1_dropLetters_40 (by decide) rfl ?_
          refine wq_aload_n dX1_dropLetters_42 1 rfl rfl ?_
          refine g_1_0 ht ln_RX1_12 dX1_dropLetters_43 ?_
          refine wq_iconst dX1_dropLetters_46 ?_
          refine wq_cVv M_Row_drop (R_Row_drop Z (43 * t) 1 _) (ob_2 (by omega)) rfl rfl (by decide) (by decide) (Nat.le_of_ble_eq_true rfl) ln_RX1_129 dX1_dropLetters_47 (fun gr41 _ J42 => ?_)
          refine wq_aload_n dX1_dropLetters_50 1 rfl rfl ?_
          refine wq_iload dX1_dropLetters_51 0 rfl ?_
          refine wq_cVi M_G_lengthOf (R_G_lengthOf Z t x40 _) (ob_1 ht) rfl rfl (by decide) (by decide) (Nat.le_of_ble_eq_true rfl) ln_RX1_93 dX1_dropLetters_53 (fun gr44 x46 J45 => ?_)
          refine wq_iload_n dX1_dropLetters_56 3 rfl rfl ?_
          refine wq_icmp_gt 72 dX1_dropLetters_57 (by decide) rfl rfl (fun c60 => ?_) (fun c60 => ?_)
          · refine wq_aload_n dX1_dropLetters_72 1 rfl rfl ?_
            refine g_1_0 ht ln_RX1_12 dX1_dropLetters_73 ?_
            refine wq_aload_n dX1_dropLetters_76 1 rfl rfl ?_
            refine wq_iload dX1_dropLetters_77 0 rfl ?_
            refine wq_bipush dX1_dropLetters_79 (by decide) ?_
            refine wq_isub dX1_dropLetters_81 ?_
            refine wq_cVr 2 M_G_body (R_G_body Z t (x40 - 26) _) (ob_1 ht) rfl rfl (by decide) (by decide) (Nat.le_of_ble_eq_true rfl) ln_RX1_69 dX1_dropLetters_82 (fun gr47 x49 J48 => ?_)
            refine wq_grd (fun g50 => ?_)
            refine wq_cVv M_Row_putAll (R_Row_putAll Z (43 * t) x49 _) (ob_2 (by omega)) rfl rfl (by decide) (by decide) (Nat.le_of_ble_eq_true rfl) ln_RX1_132 dX1_dropLetters_85 (fun gr51 _ J52 => ?_)
            refine wq_aload_n dX1_dropLetters_88 1 rfl rfl ?_
            refine wq_bipush dX1_dropLetters_89 (by decide) ?_
            refine wq_iconst dX1_dropLetters_91 ?_
            refine wq_cVv M_G_addTo (R_G_addTo Z t 8 1 _) (ob_1 ht) rfl rfl (by decide) (by decide) (Nat.le_of_ble_eq_true rfl) ln_RX1_117 dX1_dropLetters_92 (fun gr54 _ J55 => ?_)
            refine wq_iinc (lv' := [(3, vi (s35.2 + 1)), (4, vi x40), (0, vr Z 1 t), (1, vi a1), (2, vi s35.1)]) dX1_dropLetters_95 4 rfl (by decide) rfl ?_
            refine wq_goto 4 dX1_dropLetters_98 (by decide) ?_
            exact WQ.loc [2, 3, 4, 0] rfl (bk30 _ _ _)
          · refine wq_iload_n dX1_dropLetters_60 3 rfl rfl ?_
            refine wq_aload_n dX1_dropLetters_61 1 rfl rfl ?_
            refine wq_iload dX1_dropLetters_62 0 rfl ?_
            refine wq_cVi M_G_lengthOf (R_G_lengthOf Z t x40 _) (ob_1 ht) rfl rfl (by decide) (by decide) (Nat.le_of_ble_eq_true rfl) ln_RX1_93 dX1_dropLetters_64 (fun gr57 x59 J58 => ?_)
            refine wq_isub dX1_dropLetters_67 ?_
            refine wq_istore_n (lv' := [(2, vi (s35.1 - x59)), (4, vi x40), (0, vr Z 1 t), (1, vi a1), (3, vi s35.2)]) dX1_dropLetters_68 rfl (by decide) rfl ?_
            refine wq_goto 95 dX1_dropLetters_69 (by decide) ?_
            refine wq_iinc (lv' := [(3, vi (s35.2 + 1)), (2, vi (s35.1 - x59)), (4, vi x40), (0, vr Z 1 t), (1, vi a1)]) dX1_dropLetters_95 4 rfl (by decide) rfl ?_
            refine wq_goto 4 dX1_dropLetters_98 (by decide) ?_
            exact WQ.loc [3, 4, 1, 0] rfl (bk30 _ _ _)
        · exact WQ.loc [0, 1] rfl (ex31 _ _ _)
      · exact WQ.loc [0, 1] rfl (ex31 _ _ _)
    · exact WQ.loc [0, 1] rfl (ex31 _ _ _)
  · refine wq_aload_n dX1_dropLetters_101 0 rfl rfl ?_
    refine g_1_1 ht ln_RX1_18 dX1_dropLetters_102 ?_
    refine wq_iload_n dX1_dropLetters_105 1 rfl rfl ?_
    refine wq_cVv M_Row_drop (R_Row_drop Z (43 * t + 1) a1 _) (ob_2 (by omega)) rfl rfl (by decide) (by decide) (Nat.le_of_ble_eq_true rfl) ln_RX1_129 dX1_dropLetters_106 (fun gr67 _ J68 => ?_)
    refine wq_aload_n dX1_dropLetters_109 0 rfl rfl ?_
    refine wq_bipush dX1_dropLetters_110 (by decide) ?_
    refine wq_iload_n dX1_dropLetters_112 1 rfl rfl ?_
    refine wq_cVv M_G_addTo (R_G_addTo Z t 7 a1 _) (ob_1 ht) rfl rfl (by decide) (by decide) (Nat.le_of_ble_eq_true rfl) ln_RX1_117 dX1_dropLetters_113 (fun gr70 _ J71 => ?_)
    exact wq_vret rfl rfl dX1_dropLetters_116

theorem M_Stp_countUses : MwV yX9_countUses cX9_countUses 3 (none) 1 := ⟨li_4 142 (by decide +kernel) (by decide +kernel), li_4 141 (by decide +kernel) (by decide +kernel), lw_in 32 (by decide +kernel) (by decide +kernel), li_1 4 (by decide +kernel) (by decide +kernel), by decide +kernel⟩
theorem M_Stp_lowestHardlyUsed : MwV yX9_lowestHardlyUsed cX9_lowestHardlyUsed 3 (some .int) 1 := ⟨li_4 154 (by decide +kernel) (by decide +kernel), li_4 153 (by decide +kernel) (by decide +kernel), lw_in 34 (by decide +kernel) (by decide +kernel), li_1 4 (by decide +kernel) (by decide +kernel), by decide +kernel⟩
theorem M_G_dissolve : MwV yX1_dissolve cX1_dissolve 7 (some .int) 2 := ⟨li_4 163 (by decide +kernel) (by decide +kernel), li_4 161 (by decide +kernel) (by decide +kernel), li_4 162 (by decide +kernel) (by decide +kernel), li_1 2 (by decide +kernel) (by decide +kernel), by decide +kernel⟩
theorem ln_RX9_60 : Cond.methodLink RX9 60 yX1_dissolve ∈ lw_good := li_4 160 (by decide +kernel) (by decide +kernel)
theorem ln_RX9_57 : Cond.methodLink RX9 57 yX9_lowestHardlyUsed ∈ lw_good := li_4 151 (by decide +kernel) (by decide +kernel)
theorem ln_RX9_54 : Cond.methodLink RX9 54 yX9_countUses ∈ lw_good := li_4 139 (by decide +kernel) (by decide +kernel)
noncomputable def f_Stp_inlineAll_w7 (v1 : Nat) (s : Int) (I : Mem) : Option (((Int) ⊕ (Int)) × Mem) :=
if (w32 s) < 40 then
bnd (f_Stp_lowestHardlyUsed v1 I) fun x6 J5 =>
if (w32 x6) = (-1) then
some (.inr (s), J5)
else
if 0 ≤ (w32 x6) ∧ (w32 x6) < 40 then
if (w32 (J5 17 0 (w32 x6).toNat)) = 1 then
bnd (f_G_dissolve v1 x6 2 J5) fun x20 J19 =>
some (.inl (s + 1), J19)
else
bnd (f_G_body v1 x6 J5) fun x10 J9 =>
if x10 < 516 then
bnd (f_Stp_noteUses x10 (-1) J9) fun _ J13 =>
bnd (f_G_dissolve v1 x6 3 J13) fun x17 J16 =>
some (.inl (s + 1), J16)
else none
else none
else
some (.inr (40), I)

noncomputable def f_Stp_inlineAll (a1 : Nat) (I : Mem) : Option ((Int) × Mem) :=
if a1 < 12 then
bnd (f_Stp_countUses a1 I) fun _ J2 =>
whl (f_Stp_inlineAll_w7 a1) 0 J2
else none
set_option maxRecDepth 20000 in
theorem R_Stp_inlineAll (Z : ZT) (a1 : Nat) (I : Mem) (r : Int) (J : Mem) (hf : f_Stp_inlineAll a1 I = some (r, J)) : Runs Z yX9_inlineAll cX9_inlineAll 4 (some .int) 4 [vr Z 3 0, vr Z 1 a1] I (some (vi r), J) := by
  refine Runs.of (rv := fun x => some (vi x)) (by decide +kernel) (Nat.le_of_ble_eq_true rfl) hf (fun gr => ?_)
  unfold f_Stp_inlineAll
  refine WQ.loc [0, 1] (lv' := [(0, vr Z 3 0), (1, vr Z 1 a1)]) rfl ?_
  refine wq_grd (fun h1 => ?_)
  refine wq_aload_n dX9_inlineAll_0 0 rfl rfl ?_
  refine wq_aload_n dX9_inlineAll_1 1 rfl rfl ?_
  refine wq_cVv M_Stp_countUses (R_Stp_countUses Z a1 _) ob_3 rfl rfl (by decide) (by decide) (Nat.le_of_ble_eq_true rfl) ln_RX9_54 dX9_inlineAll_2 (fun gr1 _ J2 => ?_)
  refine wq_iconst dX9_inlineAll_5 ?_
  refine wq_istore_n (lv' := [(2, vi 0), (0, vr Z 3 0), (1, vr Z 1 a1)]) dX9_inlineAll_6 rfl (by decide) rfl ?_
  refine WQ.loc [1, 2, 0] (lv' := [(0, vr Z 3 0), (1, vr Z 1 a1), (2, vi 0)]) rfl ?_
  refine wq_loop (fun s30 => [(0, vr Z 3 0), (1, vr Z 1 a1), (2, vi s30)]) (fun κ24 bk25 hr27 gr29 s30 J28 => ?_) gr1 _ rfl
  unfold f_Stp_inlineAll_w7
  refine wq_iload_n dX9_inlineAll_7 2 rfl rfl ?_
  refine wq_bipush dX9_inlineAll_8 (by decide) ?_
  refine wq_icmp_ge 69 dX9_inlineAll_10 (by decide) rfl rfl (fun c50 => ?_) (fun c50 => ?_)
  · refine wq_aload_n dX9_inlineAll_13 0 rfl rfl ?_
    refine wq_aload_n dX9_inlineAll_14 1 rfl rfl ?_
    refine wq_cVi M_Stp_lowestHardlyUsed (R_Stp_lowestHardlyUsed Z a1 _) ob_3 rfl rfl (by decide) (by decide) (Nat.le_of_ble_eq_true rfl) ln_RX9_57 dX9_inlineAll_15 (fun gr31 x33 J32 => ?_)
    refine wq_istore_n (lv' := [(3, vi x33), (0, vr Z 3 0), (1, vr Z 1 a1), (2, vi s30)]) dX9_inlineAll_18 rfl (by decide) rfl ?_
    refine wq_iload_n dX9_inlineAll_19 0 rfl rfl ?_
    refine wq_iconst dX9_inlineAll_20 ?_
    refine wq_icmp_ne 26 dX9_inlineAll_21 (by decide) rfl rfl (fun c49 => ?_) (fun c49 => ?_)
    · refine wq_iload_n dX9_inlineAll_24 3 rfl rfl ?_
      exact wq_iret rfl ((hr27 _ _).trans rfl) dX9_inlineAll_25
    · refine wq_aload_n dX9_inlineAll_26 1 rfl rfl ?_
      refine g_3_1 ln_RX9_18 dX9_inlineAll_27 ?_
      refine wq_iload_n dX9_inlineAll_30 0 rfl rfl ?_
      refine wq_grd (fun g34 => ?_)
      refine wq_iald (k := 17) (i := 0) rfl (by decide) rfl rfl (m := 40) g34 (Nat.le_refl _) dX9_inlineAll_31 ?_
      refine wq_iconst dX9_inlineAll_32 ?_
      refine wq_icmp_ne 46 dX9_inlineAll_33 (by decide) rfl rfl (fun c48 => ?_) (fun c48 => ?_)
      · refine wq_aload_n dX9_inlineAll_36 2 rfl rfl ?_
        refine wq_iload_n dX9_inlineAll_37 0 rfl rfl ?_
        refine wq_iconst dX9_inlineAll_38 ?_
        refine wq_cVi M_G_dissolve (R_G_dissolve Z a1 x33 2 _) (ob_1 h1) rfl rfl (by decide) (by decide) (Nat.le_of_ble_eq_true rfl) ln_RX9_60 dX9_inlineAll_39 (fun gr45 x47 J46 => ?_)
        refine wq_pop dX9_inlineAll_42 rfl ?_
        refine wq_goto 63 dX9_inlineAll_43 (by decide) ?_
        refine wq_iinc (lv' := [(2, vi (s30 + 1)), (3, vi x33), (0, vr Z 3 0), (1, vr Z 1 a1)]) dX9_inlineAll_63 3 rfl (by decide) rfl ?_
        refine wq_goto 7 dX9_inlineAll_66 (by decide) ?_
        exact WQ.loc [2, 3, 0] rfl (bk25 _ _ _)
      · refine wq_aload_n dX9_inlineAll_46 1 rfl rfl ?_
        refine wq_aload_n dX9_inlineAll_47 2 rfl rfl ?_
        refine wq_iload_n dX9_inlineAll_48 0 rfl rfl ?_
        refine wq_cVr 2 M_G_body (R_G_body Z a1 x33 _) (ob_1 h1) rfl rfl (by decide) (by decide) (Nat.le_of_ble_eq_true rfl) ln_RX9_63 dX9_inlineAll_49 (fun gr35 x37 J36 => ?_)
        refine wq_grd (fun g38 => ?_)
        refine wq_iconst dX9_inlineAll_52 ?_
        refine wq_cVv M_Stp_noteUses (R_Stp_noteUses Z x37 (-1) _) ob_3 rfl rfl (by decide) (by decide) (Nat.le_of_ble_eq_true rfl) ln_RX9_67 dX9_inlineAll_53 (fun gr39 _ J40 => ?_)
        refine wq_aload_n dX9_inlineAll_56 2 rfl rfl ?_
        refine wq_iload_n dX9_inlineAll_57 0 rfl rfl ?_
        refine wq_iconst dX9_inlineAll_58 ?_
        refine wq_cVi M_G_dissolve (R_G_dissolve Z a1 x33 3 _) (ob_1 h1) rfl rfl (by decide) (by decide) (Nat.le_of_ble_eq_true rfl) ln_RX9_60 dX9_inlineAll_59 (fun gr42 x44 J43 => ?_)
        refine wq_pop dX9_inlineAll_62 rfl ?_
        refine wq_iinc (lv' := [(2, vi (s30 + 1)), (3, vi x33), (0, vr Z 3 0), (1, vr Z 1 a1)]) dX9_inlineAll_63 3 rfl (by decide) rfl ?_
        refine wq_goto 7 dX9_inlineAll_66 (by decide) ?_
        exact WQ.loc [2, 3, 0] rfl (bk25 _ _ _)
  · refine wq_bipush dX9_inlineAll_69 (by decide) ?_
    exact wq_iret rfl ((hr27 _ _).trans rfl) dX9_inlineAll_71

theorem M_PT_clear : MwV yX3_clear cX3_clear 2 (none) 0 := ⟨li_4 41 (by decide +kernel) (by decide +kernel), li_4 40 (by decide +kernel) (by decide +kernel), lw_in 24 (by decide +kernel) (by decide +kernel), li_1 5 (by decide +kernel) (by decide +kernel), by decide +kernel⟩
theorem M_PT_noteKept : MwV yX3_noteKept cX3_noteKept 4 (none) 2 := ⟨li_4 51 (by decide +kernel) (by decide +kernel), li_4 50 (by decide +kernel) (by decide +kernel), lw_in 25 (by decide +kernel) (by decide +kernel), li_1 5 (by decide +kernel) (by decide +kernel), by decide +kernel⟩
theorem ln_RX3_54 : Cond.methodLink RX3 54 yX3_noteKept ∈ lw_good := li_4 48 (by decide +kernel) (by decide +kernel)
theorem ln_RX3_45 : Cond.methodLink RX3 45 yX1_body ∈ lw_good := li_4 46 (by decide +kernel) (by decide +kernel)
theorem ln_RX3_58 : Cond.methodLink RX3 58 yX1_startRow ∈ lw_good := li_4 64 (by decide +kernel) (by decide +kernel)
theorem M_PT_noteRow : MwV yX3_noteRow cX3_noteRow 7 (none) 2 := ⟨li_4 68 (by decide +kernel) (by decide +kernel), li_4 67 (by decide +kernel) (by decide +kernel), lw_in 27 (by decide +kernel) (by decide +kernel), li_1 5 (by decide +kernel) (by decide +kernel), by decide +kernel⟩
theorem ln_RX3_62 : Cond.methodLink RX3 62 yX3_noteRow ∈ lw_good := li_4 65 (by decide +kernel) (by decide +kernel)
theorem M_PT_choose : MwV yX3_choose cX3_choose 3 (none) 0 := ⟨li_4 76 (by decide +kernel) (by decide +kernel), li_4 75 (by decide +kernel) (by decide +kernel), lw_in 29 (by decide +kernel) (by decide +kernel), li_1 5 (by decide +kernel) (by decide +kernel), by decide +kernel⟩
theorem ln_RX3_66 : Cond.methodLink RX3 66 yX3_choose ∈ lw_good := li_4 73 (by decide +kernel) (by decide +kernel)
theorem ln_RX3_35 : Cond.methodLink RX3 35 yX1_lowestFree ∈ lw_good := li_4 42 (by decide +kernel) (by decide +kernel)
theorem ln_RX3_28 : Cond.methodLink RX3 28 yX3_clear ∈ lw_good := li_4 38 (by decide +kernel) (by decide +kernel)
noncomputable def f_PT_readFrom_w28 (v1 : Nat) (s : Int) (I : Mem) : Option (((Int) ⊕ (Unit)) × Mem) :=
if (w32 s) < 40 then
bnd (f_G_body v1 s I) fun x11 J10 =>
if x11 < 516 then
if (w32 (J10 2 x11 1)) = 2 then
bnd (f_G_body v1 s J10) fun x16 J15 =>
if x16 < 516 then
bnd (f_PT_noteKept s x16 J15) fun _ J19 =>
some (.inl (s + 1), J19)
else none
else
some (.inl (s + 1), J10)
else none
else
some (.inr (), I)

noncomputable def f_PT_readFrom_w73 (v1 : Nat) (s : Int) (I : Mem) : Option (((Int) ⊕ (Unit)) × Mem) :=
if (w32 s) < 40 then
bnd (f_G_body v1 s I) fun x53 J52 =>
if x53 < 516 then
if 2 < (w32 (J52 2 x53 1)) then
bnd (f_G_body v1 s J52) fun x58 J57 =>
if x58 < 516 then
bnd (f_PT_noteRow x58 ((s + 1) * 400) J57) fun _ J61 =>
some (.inl (s + 1), J61)
else none
else
some (.inl (s + 1), J52)
else none
else
some (.inr (), I)

noncomputable def f_PT_readFrom (a1 : Nat) (I : Mem) : Option ((Unit) × Mem) :=
if a1 < 12 then
bnd (f_PT_clear I) fun _ J2 =>
ltI (sI J2 4 0 5 ((a1 : Nat) : Int)) fun J4 =>
bnd (f_G_lowestFree a1 J4) fun x7 J6 =>
ltI (sI J6 4 0 6 (if (w32 x7) = (-1) then 0 else 1)) fun J8 =>
bnd (whl (f_PT_readFrom_w28 a1) 0 J8) fun r44 J45 =>
bnd (f_PT_noteRow (43 * a1) 0 J45) fun _ J49 =>
bnd (whl (f_PT_readFrom_w73 a1) 0 J49) fun r86 J87 =>
bnd (f_PT_choose J87) fun _ J90 =>
some ((), J90)
else none
set_option maxRecDepth 20000 in
theorem R_PT_readFrom (Z : ZT) (a1 : Nat) (I : Mem) (r : Unit) (J : Mem) (hf : f_PT_readFrom a1 I = some (r, J)) : Runs Z yX3_readFrom cX3_readFrom 3 (none) 4 [vr Z 4 0, vr Z 1 a1] I (none, J) := by
  refine Runs.of (rv := fun _ => none) (by decide +kernel) (Nat.le_of_ble_eq_true rfl) hf (fun gr => ?_)
  unfold f_PT_readFrom
  refine WQ.loc [0, 1] (lv' := [(0, vr Z 4 0), (1, vr Z 1 a1)]) rfl ?_
  refine wq_grd (fun h1 => ?_)
  refine wq_aload_n dX3_readFrom_0 0 rfl rfl ?_
  refine wq_cVv M_PT_clear (R_PT_clear Z _) ob_4 rfl rfl (by decide) (by decide) (Nat.le_of_ble_eq_true rfl) ln_RX3_28 dX3_readFrom_1 (fun gr1 _ J2 => ?_)
  refine wq_aload_n dX3_readFrom_4 0 rfl rfl ?_
  refine wq_aload_n dX3_readFrom_5 1 rfl rfl ?_
  refine p_4_5 ln_RX3_31 dX3_readFrom_6 (fun J4 => ?_)
  refine wq_aload_n dX3_readFrom_9 0 rfl rfl ?_
  refine wq_aload_n dX3_readFrom_10 1 rfl rfl ?_
  refine wq_cVi M_G_lowestFree (R_G_lowestFree Z a1 _) (ob_1 h1) rfl rfl (by decide) (by decide) (Nat.le_of_ble_eq_true rfl) ln_RX3_35 dX3_readFrom_11 (fun gr5 x7 J6 => ?_)
  refine wq_iconst dX3_readFrom_14 ?_
  refine WQ.via 23 [vi (if (w32 x7) = (-1) then 0 else 1), vr Z 4 0] (by
      refine p_4_6 (by split <;> simp) ln_RX3_41 dX3_readFrom_23 (fun J8 => ?_)
      refine wq_iconst dX3_readFrom_26 ?_
      refine wq_istore_n (lv' := [(2, vi 0), (0, vr Z 4 0), (1, vr Z 1 a1)]) dX3_readFrom_27 rfl (by decide) rfl ?_
      refine WQ.loc [1, 2, 0] (lv' := [(0, vr Z 4 0), (1, vr Z 1 a1), (2, vi 0)]) rfl ?_
      refine wq_loopS (fun s29 => [(0, vr Z 4 0), (1, vr Z 1 a1), (2, vi s29)]) 62 (fun _ => [(0, vr Z 4 0), (1, vr Z 1 a1)]) (fun κ23 bk24 ex25 gr28 s29 J27 => ?_) (fun gr46 r44 J45 => ?_) gr5 _ rfl
      · unfold f_PT_readFrom_w28
        refine wq_iload_n dX3_readFrom_28 2 rfl rfl ?_
        refine wq_bipush dX3_readFrom_29 (by decide) ?_
        refine wq_icmp_ge 62 dX3_readFrom_31 (by decide) rfl rfl (fun c43 => ?_) (fun c43 => ?_)
        · refine wq_aload_n dX3_readFrom_34 1 rfl rfl ?_
          refine wq_iload_n dX3_readFrom_35 2 rfl rfl ?_
          refine wq_cVr 2 M_G_body (R_G_body Z a1 s29 _) (ob_1 h1) rfl rfl (by decide) (by decide) (Nat.le_of_ble_eq_true rfl) ln_RX3_45 dX3_readFrom_36 (fun gr30 x32 J31 => ?_)
          refine wq_grd (fun g33 => ?_)
          refine wq_pV (v := vi (J31 2 x32 1)) M_Row_many (R_Row_many Z x32 _ _ _ (if_pos g33)) (ob_2 g33) rfl rfl (by decide) (by decide) (Nat.le_of_ble_eq_true rfl) ln_RX3_49 dX3_readFrom_39 (fun gr34 => ?_)
          refine wq_iconst dX3_readFrom_42 ?_
          refine wq_icmp_ne 56 dX3_readFrom_43 (by decide) rfl rfl (fun c42 => ?_) (fun c42 => ?_)
          · refine wq_aload_n dX3_readFrom_46 0 rfl rfl ?_
            refine wq_iload_n dX3_readFrom_47 2 rfl rfl ?_
            refine wq_aload_n dX3_readFrom_48 1 rfl rfl ?_
            refine wq_iload_n dX3_readFrom_49 2 rfl rfl ?_
            refine wq_cVr 2 M_G_body (R_G_body Z a1 s29 _) (ob_1 h1) rfl rfl (by decide) (by decide) (Nat.le_of_ble_eq_true rfl) ln_RX3_45 dX3_readFrom_50 (fun gr35 x37 J36 => ?_)
            refine wq_grd (fun g38 => ?_)
            refine wq_cVv M_PT_noteKept (R_PT_noteKept Z s29 x37 _) ob_4 rfl rfl (by decide) (by decide) (Nat.le_of_ble_eq_true rfl) ln_RX3_54 dX3_readFrom_53 (fun gr39 _ J40 => ?_)
            refine wq_iinc (lv' := [(2, vi (s29 + 1)), (0, vr Z 4 0), (1, vr Z 1 a1)]) dX3_readFrom_56 2 rfl (by decide) rfl ?_
            refine wq_goto 28 dX3_readFrom_59 (by decide) ?_
            exact WQ.loc [1, 2, 0] rfl (bk24 _ _ _)
          · refine wq_iinc (lv' := [(2, vi (s29 + 1)), (0, vr Z 4 0), (1, vr Z 1 a1)]) dX3_readFrom_56 2 rfl (by decide) rfl ?_
            refine wq_goto 28 dX3_readFrom_59 (by decide) ?_
            exact WQ.loc [1, 2, 0] rfl (bk24 _ _ _)
        · exact WQ.loc [0, 1] rfl (ex25 _ _ _)
      · refine wq_aload_n dX3_readFrom_62 0 rfl rfl ?_
        refine wq_aload_n dX3_readFrom_63 1 rfl rfl ?_
        refine wq_pV (v := vr Z 2 (43 * a1)) M_G_startRow (R_G_startRow Z a1 _ _ _ (if_pos h1)) (ob_1 h1) rfl rfl (by decide) (by decide) (Nat.le_of_ble_eq_true rfl) ln_RX3_58 dX3_readFrom_64 (fun gr47 => ?_)
        refine wq_iconst dX3_readFrom_67 ?_
        refine wq_cVv M_PT_noteRow (R_PT_noteRow Z (43 * a1) 0 _) ob_4 rfl rfl (by decide) (by decide) (Nat.le_of_ble_eq_true rfl) ln_RX3_62 dX3_readFrom_68 (fun gr48 _ J49 => ?_)
        refine wq_iconst dX3_readFrom_71 ?_
        refine wq_istore_n (lv' := [(2, vi 0), (0, vr Z 4 0), (1, vr Z 1 a1)]) dX3_readFrom_72 rfl (by decide) rfl ?_
        refine WQ.loc [1, 2, 0] (lv' := [(0, vr Z 4 0), (1, vr Z 1 a1), (2, vi 0)]) rfl ?_
        refine wq_loopS (fun s71 => [(0, vr Z 4 0), (1, vr Z 1 a1), (2, vi s71)]) 113 (fun _ => [(0, vr Z 4 0)]) (fun κ65 bk66 ex67 gr70 s71 J69 => ?_) (fun gr88 r86 J87 => ?_) gr48 _ rfl
        · unfold f_PT_readFrom_w73
          refine wq_iload_n dX3_readFrom_73 2 rfl rfl ?_
          refine wq_bipush dX3_readFrom_74 (by decide) ?_
          refine wq_icmp_ge 113 dX3_readFrom_76 (by decide) rfl rfl (fun c85 => ?_) (fun c85 => ?_)
          · refine wq_aload_n dX3_readFrom_79 1 rfl rfl ?_
            refine wq_iload_n dX3_readFrom_80 2 rfl rfl ?_
            refine wq_cVr 2 M_G_body (R_G_body Z a1 s71 _) (ob_1 h1) rfl rfl (by decide) (by decide) (Nat.le_of_ble_eq_true rfl) ln_RX3_45 dX3_readFrom_81 (fun gr72 x74 J73 => ?_)
            refine wq_grd (fun g75 => ?_)
            refine wq_pV (v := vi (J73 2 x74 1)) M_Row_many (R_Row_many Z x74 _ _ _ (if_pos g75)) (ob_2 g75) rfl rfl (by decide) (by decide) (Nat.le_of_ble_eq_true rfl) ln_RX3_49 dX3_readFrom_84 (fun gr76 => ?_)
            refine wq_iconst dX3_readFrom_87 ?_
            refine wq_icmp_le 107 dX3_readFrom_88 (by decide) rfl rfl (fun c84 => ?_) (fun c84 => ?_)
            · refine wq_aload_n dX3_readFrom_91 0 rfl rfl ?_
              refine wq_aload_n dX3_readFrom_92 1 rfl rfl ?_
              refine wq_iload_n dX3_readFrom_93 2 rfl rfl ?_
              refine wq_cVr 2 M_G_body (R_G_body Z a1 s71 _) (ob_1 h1) rfl rfl (by decide) (by decide) (Nat.le_of_ble_eq_true rfl) ln_RX3_45 dX3_readFrom_94 (fun gr77 x79 J78 => ?_)
              refine wq_grd (fun g80 => ?_)
              refine wq_iload_n dX3_readFrom_97 2 rfl rfl ?_
              refine wq_iconst dX3_readFrom_98 ?_
              refine wq_iadd dX3_readFrom_99 ?_
              refine wq_sipush dX3_readFrom_100 (by decide) ?_
              refine wq_imul dX3_readFrom_103 ?_
              refine wq_cVv M_PT_noteRow (R_PT_noteRow Z x79 ((s71 + 1) * 400) _) ob_4 rfl rfl (by decide) (by decide) (Nat.le_of_ble_eq_true rfl) ln_RX3_62 dX3_readFrom_104 (fun gr81 _ J82 => ?_)
              refine wq_iinc (lv' := [(2, vi (s71 + 1)), (0, vr Z 4 0), (1, vr Z 1 a1)]) dX3_readFrom_107 2 rfl (by decide) rfl ?_
              refine wq_goto 73 dX3_readFrom_110 (by decide) ?_
              exact WQ.loc [1, 2, 0] rfl (bk66 _ _ _)
            · refine wq_iinc (lv' := [(2, vi (s71 + 1)), (0, vr Z 4 0), (1, vr Z 1 a1)]) dX3_readFrom_107 2 rfl (by decide) rfl ?_
              refine wq_goto 73 dX3_readFrom_110 (by decide) ?_
              exact WQ.loc [1, 2, 0] rfl (bk66 _ _ _)
          · exact WQ.loc [0] rfl (ex67 _ _ _)
        · refine wq_aload_n dX3_readFrom_113 0 rfl rfl ?_
          refine wq_cVv M_PT_choose (R_PT_choose Z _) ob_4 rfl rfl (by decide) (by decide) (Nat.le_of_ble_eq_true rfl) ln_RX3_66 dX3_readFrom_114 (fun gr89 _ J90 => ?_)
          exact wq_vret rfl rfl dX3_readFrom_117) (fun hj92 => ?_)
  refine WQ.both ((w32 x7) = (-1)) ?_
  refine wq_icmp_eq 22 dX3_readFrom_15 (by decide) rfl rfl (fun c93 => ?_) (fun c93 => ?_)
  · refine wq_iconst dX3_readFrom_22 ?_
    exact WQ.top (if_pos c93) hj92
  · refine wq_iconst dX3_readFrom_18 ?_
    refine wq_goto 23 dX3_readFrom_19 (by decide) ?_
    exact WQ.top (if_neg c93) hj92

theorem M_Sv_orderByLength : MwV yX10_orderByLength cX10_orderByLength 5 (none) 1 := ⟨li_5 155 (by decide +kernel) (by decide +kernel), li_5 154 (by decide +kernel) (by decide +kernel), lw_in 44 (by decide +kernel) (by decide +kernel), li_1 6 (by decide +kernel) (by decide +kernel), by decide +kernel⟩
theorem M_Sv_deepestIn : MwV yX10_deepestIn cX10_deepestIn 4 (some .int) 1 := ⟨li_5 161 (by decide +kernel) (by decide +kernel), li_5 159 (by decide +kernel) (by decide +kernel), li_5 160 (by decide +kernel) (by decide +kernel), li_1 6 (by decide +kernel) (by decide +kernel), by decide +kernel⟩
theorem ln_RX10_44 : Cond.methodLink RX10 44 yX10_deepestIn ∈ lw_good := li_5 158 (by decide +kernel) (by decide +kernel)
theorem M_Sv_addComings : MwV yX10_addComings cX10_addComings 5 (none) 2 := ⟨li_5 169 (by decide +kernel) (by decide +kernel), li_5 168 (by decide +kernel) (by decide +kernel), lw_in 45 (by decide +kernel) (by decide +kernel), li_1 6 (by decide +kernel) (by decide +kernel), by decide +kernel⟩
theorem ln_RX10_52 : Cond.methodLink RX10 52 yX10_addComings ∈ lw_good := li_5 166 (by decide +kernel) (by decide +kernel)
theorem ln_RX10_30 : Cond.methodLink RX10 30 yX10_orderByLength ∈ lw_good := li_5 152 (by decide +kernel) (by decide +kernel)
noncomputable def f_Sv_measure_w7 (v1 : Nat) (s : Int) (I : Mem) : Option (((Int) ⊕ (Unit)) × Mem) :=
if (w32 s) < 40 then
if 0 ≤ (w32 s) ∧ (w32 s) < 40 then
ltI (sI I 18 1 (w32 s).toNat 0) fun J5 =>
ltI (sI J5 18 2 (w32 s).toNat 0) fun J6 =>
some (.inl (s + 1), J6)
else none
else
some (.inr (), I)

noncomputable def f_Sv_measure_w35 (v1 : Nat) (s : Int) (I : Mem) : Option (((Int) ⊕ (Unit)) × Mem) :=
if (w32 s) < (w32 (I 5 0 6)) then
if 0 ≤ (w32 s) ∧ (w32 s) < 40 then
bnd (f_G_body v1 (I 18 0 (w32 s).toNat) I) fun x25 J24 =>
if x25 < 516 then
bnd (f_Sv_deepestIn x25 J24) fun x29 J28 =>
if 0 ≤ (w32 (I 18 0 (w32 s).toNat)) ∧ (w32 (I 18 0 (w32 s).toNat)) < 40 then
ltI (sI J28 18 1 (w32 (I 18 0 (w32 s).toNat)).toNat (1 + x29)) fun J31 =>
some (.inl (s + 1), J31)
else none
else none
else none
else
some (.inr (), I)

noncomputable def f_Sv_measure_w92 (v1 : Nat) (s : Int) (I : Mem) : Option (((Int) ⊕ (Unit)) × Mem) :=
if (w32 s) < 0 then
some (.inr (), I)
else
if 0 ≤ (w32 s) ∧ (w32 s) < 40 then
bnd (f_G_body v1 (I 18 0 (w32 s).toNat) I) fun x61 J60 =>
if x61 < 516 then
if 0 ≤ (w32 (J60 18 0 (w32 s).toNat)) ∧ (w32 (J60 18 0 (w32 s).toNat)) < 40 then
bnd (f_Sv_addComings x61 (J60 18 2 (w32 (J60 18 0 (w32 s).toNat)).toNat) J60) fun _ J65 =>
some (.inl (s + (-1)), J65)
else none
else none
else none

noncomputable def f_Sv_measure (a1 : Nat) (I : Mem) : Option ((Unit) × Mem) :=
if a1 < 12 then
bnd (f_Sv_orderByLength a1 I) fun _ J2 =>
bnd (whl (f_Sv_measure_w7 a1) 0 J2) fun r19 J20 =>
bnd (whl (f_Sv_measure_w35 a1) 0 J20) fun r51 J52 =>
bnd (f_Sv_addComings (43 * a1) 1 J52) fun _ J56 =>
bnd (whl (f_Sv_measure_w92 a1) ((J56 5 0 6) - 1) J56) fun r85 J86 =>
some ((), J86)
else none
set_option maxRecDepth 20000 in
theorem R_Sv_measure (Z : ZT) (a1 : Nat) (I : Mem) (r : Unit) (J : Mem) (hf : f_Sv_measure a1 I = some (r, J)) : Runs Z yX10_measure cX10_measure 3 (none) 4 [vr Z 5 0, vr Z 1 a1] I (none, J) := by
  refine Runs.of (rv := fun _ => none) (by decide +kernel) (Nat.le_of_ble_eq_true rfl) hf (fun gr => ?_)
  unfold f_Sv_measure
  refine WQ.loc [0, 1] (lv' := [(0, vr Z 5 0), (1, vr Z 1 a1)]) rfl ?_
  refine wq_grd (fun h1 => ?_)
  refine wq_aload_n dX10_measure_0 0 rfl rfl ?_
  refine wq_aload_n dX10_measure_1 1 rfl rfl ?_
  refine wq_cVv M_Sv_orderByLength (R_Sv_orderByLength Z a1 _) ob_5 rfl rfl (by decide) (by decide) (Nat.le_of_ble_eq_true rfl) ln_RX10_30 dX10_measure_2 (fun gr1 _ J2 => ?_)
  refine wq_iconst dX10_measure_5 ?_
  refine wq_istore_n (lv' := [(2, vi 0), (0, vr Z 5 0), (1, vr Z 1 a1)]) dX10_measure_6 rfl (by decide) rfl ?_
  refine WQ.loc [1, 2, 0] (lv' := [(0, vr Z 5 0), (1, vr Z 1 a1), (2, vi 0)]) rfl ?_
  refine wq_loopS (fun s14 => [(0, vr Z 5 0), (1, vr Z 1 a1), (2, vi s14)]) 33 (fun _ => [(0, vr Z 5 0), (1, vr Z 1 a1)]) (fun κ8 bk9 ex10 gr13 s14 J12 => ?_) (fun gr21 r19 J20 => ?_) gr1 _ rfl
  · unfold f_Sv_measure_w7
    refine wq_iload_n dX10_measure_7 2 rfl rfl ?_
    refine wq_bipush dX10_measure_8 (by decide) ?_
    refine wq_icmp_ge 33 dX10_measure_10 (by decide) rfl rfl (fun c18 => ?_) (fun c18 => ?_)
    · refine wq_aload_n dX10_measure_13 0 rfl rfl ?_
      refine g_5_1 ln_RX10_15 dX10_measure_14 ?_
      refine wq_iload_n dX10_measure_17 2 rfl rfl ?_
      refine wq_iconst dX10_measure_18 ?_
      refine wq_grd (fun g15 => ?_)
      refine wq_iast (k := 18) (i := 1) (fun _ _ => rfl) (by decide) rfl rfl (m := 40) g15 (by decide) (by decide) (by decide) (by decide) dX10_measure_19 (fun J16 => ?_)
      refine wq_aload_n dX10_measure_20 0 rfl rfl ?_
      refine g_5_2 ln_RX10_18 dX10_measure_21 ?_
      refine wq_iload_n dX10_measure_24 2 rfl rfl ?_
      refine wq_iconst dX10_measure_25 ?_
      refine wq_iast (k := 18) (i := 2) (fun _ _ => rfl) (by decide) rfl rfl (m := 40) g15 (by decide) (by decide) (by decide) (by decide) dX10_measure_26 (fun J17 => ?_)
      refine wq_iinc (lv' := [(2, vi (s14 + 1)), (0, vr Z 5 0), (1, vr Z 1 a1)]) dX10_measure_27 2 rfl (by decide) rfl ?_
      refine wq_goto 7 dX10_measure_30 (by decide) ?_
      exact WQ.loc [1, 2, 0] rfl (bk9 _ _ _)
    · exact WQ.loc [0, 1] rfl (ex10 _ _ _)
  · refine wq_iconst dX10_measure_33 ?_
    refine wq_istore_n (lv' := [(2, vi 0), (0, vr Z 5 0), (1, vr Z 1 a1)]) dX10_measure_34 rfl (by decide) rfl ?_
    refine WQ.loc [1, 2, 0] (lv' := [(0, vr Z 5 0), (1, vr Z 1 a1), (2, vi 0)]) rfl ?_
    refine wq_loopS (fun s39 => [(0, vr Z 5 0), (1, vr Z 1 a1), (2, vi s39)]) 76 (fun _ => [(0, vr Z 5 0), (1, vr Z 1 a1)]) (fun κ33 bk34 ex35 gr38 s39 J37 => ?_) (fun gr53 r51 J52 => ?_) gr21 _ rfl
    · unfold f_Sv_measure_w35
      refine wq_iload_n dX10_measure_35 2 rfl rfl ?_
      refine wq_aload_n dX10_measure_36 0 rfl rfl ?_
      refine g_5_6 ln_RX10_34 dX10_measure_37 ?_
      refine wq_icmp_ge 76 dX10_measure_40 (by decide) rfl rfl (fun c50 => ?_) (fun c50 => ?_)
      · refine wq_aload_n dX10_measure_43 0 rfl rfl ?_
        refine g_5_1 ln_RX10_15 dX10_measure_44 ?_
        refine wq_aload_n dX10_measure_47 0 rfl rfl ?_
        refine g_5_0 ln_RX10_9 dX10_measure_48 ?_
        refine wq_iload_n dX10_measure_51 2 rfl rfl ?_
        refine wq_grd (fun g40 => ?_)
        refine wq_iald (k := 18) (i := 0) rfl (by decide) rfl rfl (m := 40) g40 (by decide) dX10_measure_52 ?_
        refine wq_iconst dX10_measure_53 ?_
        refine wq_aload_n dX10_measure_54 0 rfl rfl ?_
        refine wq_aload_n dX10_measure_55 1 rfl rfl ?_
        refine wq_aload_n dX10_measure_56 0 rfl rfl ?_
        refine g_5_0 ln_RX10_9 dX10_measure_57 ?_
        refine wq_iload_n dX10_measure_60 2 rfl rfl ?_
        refine wq_iald (k := 18) (i := 0) rfl (by decide) rfl rfl (m := 40) g40 (by decide) dX10_measure_61 ?_
        refine wq_cVr 2 M_G_body (R_G_body Z a1 (J37 18 0 (w32 s39).toNat) _) (ob_1 h1) rfl rfl (by decide) (by decide) (Nat.le_of_ble_eq_true rfl) ln_RX10_38 dX10_measure_62 (fun gr41 x43 J42 => ?_)
        refine wq_grd (fun g44 => ?_)
        refine wq_cVi M_Sv_deepestIn (R_Sv_deepestIn Z x43 _) ob_5 rfl rfl (by decide) (by decide) (Nat.le_of_ble_eq_true rfl) ln_RX10_44 dX10_measure_65 (fun gr45 x47 J46 => ?_)
        refine wq_iadd dX10_measure_68 ?_
        refine wq_grd (fun g48 => ?_)
        refine wq_iast (k := 18) (i := 1) (fun _ _ => rfl) (by decide) rfl rfl (m := 40) g48 (by decide) (by decide) (by decide) (by decide) dX10_measure_69 (fun J49 => ?_)
        refine wq_iinc (lv' := [(2, vi (s39 + 1)), (0, vr Z 5 0), (1, vr Z 1 a1)]) dX10_measure_70 2 rfl (by decide) rfl ?_
        refine wq_goto 35 dX10_measure_73 (by decide) ?_
        exact WQ.loc [1, 2, 0] rfl (bk34 _ _ _)
      · exact WQ.loc [0, 1] rfl (ex35 _ _ _)
    · refine wq_aload_n dX10_measure_76 0 rfl rfl ?_
      refine wq_aload_n dX10_measure_77 1 rfl rfl ?_
      refine wq_pV (v := vr Z 2 (43 * a1)) M_G_startRow (R_G_startRow Z a1 _ _ _ (if_pos h1)) (ob_1 h1) rfl rfl (by decide) (by decide) (Nat.le_of_ble_eq_true rfl) ln_RX10_48 dX10_measure_78 (fun gr54 => ?_)
      refine wq_iconst dX10_measure_81 ?_
      refine wq_cVv M_Sv_addComings (R_Sv_addComings Z (43 * a1) 1 _) ob_5 rfl rfl (by decide) (by decide) (Nat.le_of_ble_eq_true rfl) ln_RX10_52 dX10_measure_82 (fun gr55 _ J56 => ?_)
      refine wq_aload_n dX10_measure_85 0 rfl rfl ?_
      refine g_5_6 ln_RX10_34 dX10_measure_86 ?_
      refine wq_iconst dX10_measure_89 ?_
      refine wq_isub dX10_measure_90 ?_
      refine wq_istore_n (lv' := [(2, vi ((J56 5 0 6) - 1)), (0, vr Z 5 0), (1, vr Z 1 a1)]) dX10_measure_91 rfl (by decide) rfl ?_
      refine WQ.loc [1, 2, 0] (lv' := [(0, vr Z 5 0), (1, vr Z 1 a1), (2, vi ((J56 5 0 6) - 1))]) rfl ?_
      refine wq_loopS (fun s74 => [(0, vr Z 5 0), (1, vr Z 1 a1), (2, vi s74)]) 127 (fun _ => []) (fun κ68 bk69 ex70 gr73 s74 J72 => ?_) (fun gr87 r85 J86 => ?_) gr55 _ rfl
      · unfold f_Sv_measure_w92
        refine wq_iload_n dX10_measure_92 2 rfl rfl ?_
        refine wq_if_lt 127 dX10_measure_93 (by decide) rfl (fun c84 => ?_) (fun c84 => ?_)
        · exact WQ.loc [] rfl (ex70 _ _ _)
        · refine wq_aload_n dX10_measure_96 0 rfl rfl ?_
          refine wq_aload_n dX10_measure_97 1 rfl rfl ?_
          refine wq_aload_n dX10_measure_98 0 rfl rfl ?_
          refine g_5_0 ln_RX10_9 dX10_measure_99 ?_
          refine wq_iload_n dX10_measure_102 2 rfl rfl ?_
          refine wq_grd (fun g75 => ?_)
          refine wq_iald (k := 18) (i := 0) rfl (by decide) rfl rfl (m := 40) g75 (by decide) dX10_measure_103 ?_
          refine wq_cVr 2 M_G_body (R_G_body Z a1 (J72 18 0 (w32 s74).toNat) _) (ob_1 h1) rfl rfl (by decide) (by decide) (Nat.le_of_ble_eq_true rfl) ln_RX10_38 dX10_measure_104 (fun gr76 x78 J77 => ?_)
          refine wq_grd (fun g79 => ?_)
          refine wq_aload_n dX10_measure_107 0 rfl rfl ?_
          refine g_5_2 ln_RX10_18 dX10_measure_108 ?_
          refine wq_aload_n dX10_measure_111 0 rfl rfl ?_
          refine g_5_0 ln_RX10_9 dX10_measure_112 ?_
          refine wq_iload_n dX10_measure_115 2 rfl rfl ?_
          refine wq_iald (k := 18) (i := 0) rfl (by decide) rfl rfl (m := 40) g75 (by decide) dX10_measure_116 ?_
          refine wq_grd (fun g80 => ?_)
          refine wq_iald (k := 18) (i := 2) rfl (by decide) rfl rfl (m := 40) g80 (by decide) dX10_measure_117 ?_
          refine wq_cVv M_Sv_addComings (R_Sv_addComings Z x78 (J77 18 2 (w32 (J77 18 0 (w32 s74).toNat)).toNat) _) ob_5 rfl rfl (by decide) (by decide) (Nat.le_of_ble_eq_true rfl) ln_RX10_52 dX10_measure_118 (fun gr81 _ J82 => ?_)
          refine wq_iinc (lv' := [(2, vi (s74 + (-1))), (0, vr Z 5 0), (1, vr Z 1 a1)]) dX10_measure_121 2 rfl (by decide) rfl ?_
          refine wq_goto 92 dX10_measure_124 (by decide) ?_
          exact WQ.loc [1, 2, 0] rfl (bk69 _ _ _)
      · exact wq_vret rfl rfl dX10_measure_127

theorem ln_RX8_28 : Cond.methodLink RX8 28 yX8_advance ∈ lw_good := li_2 164 (by decide +kernel) (by decide +kernel)
noncomputable def f_Src_rewind  (I : Mem) : Option ((Unit) × Mem) :=
ltI (sI I 6 0 4 0) fun J1 =>
ltI (sI J1 6 0 6 0) fun J2 =>
ltI (sI J2 6 0 7 (-1)) fun J3 =>
bnd (f_Src_advance J3) fun _ J5 =>
some ((), J5)
set_option maxRecDepth 20000 in
theorem R_Src_rewind (Z : ZT)  (I : Mem) (r : Unit) (J : Mem) (hf : f_Src_rewind I = some (r, J)) : Runs Z yX8_rewind cX8_rewind 1 (none) 3 [vr Z 6 0] I (none, J) := by
  refine Runs.of (rv := fun _ => none) (by decide +kernel) (Nat.le_of_ble_eq_true rfl) hf (fun gr => ?_)
  unfold f_Src_rewind
  refine WQ.loc [0] (lv' := [(0, vr Z 6 0)]) rfl ?_
  refine wq_aload_n dX8_rewind_0 0 rfl rfl ?_
  refine wq_iconst dX8_rewind_1 ?_
  refine p_6_4 ln_RX8_19 dX8_rewind_2 (fun J1 => ?_)
  refine wq_aload_n dX8_rewind_5 0 rfl rfl ?_
  refine wq_iconst dX8_rewind_6 ?_
  refine p_6_6 ln_RX8_22 dX8_rewind_7 (fun J2 => ?_)
  refine wq_aload_n dX8_rewind_10 0 rfl rfl ?_
  refine wq_iconst dX8_rewind_11 ?_
  refine p_6_7 ln_RX8_25 dX8_rewind_12 (fun J3 => ?_)
  refine wq_aload_n dX8_rewind_15 0 rfl rfl ?_
  refine wq_cVv M_Src_advance (R_Src_advance Z _) ob_6 rfl rfl (by decide) (by decide) (Nat.le_of_ble_eq_true rfl) ln_RX8_28 dX8_rewind_16 (fun gr4 _ J5 => ?_)
  exact wq_vret rfl rfl dX8_rewind_19

theorem ln_RX8_72 : Cond.methodLink RX8 72 yX8_fail ∈ lw_good := li_3 44 (by decide +kernel) (by decide +kernel)
noncomputable def f_Src_readNumber_w44 (v1 : Int) (v2 : Int) (s : Int) (I : Mem) : Option (((Int) ⊕ (Unit)) × Mem) :=
if (w32 s) < (w32 (I 6 0 4)) then
bnd (f_Src_byteAt s I) fun x4 J3 =>
ltI (sI J3 6 0 5 ((((I 6 0 5) * 10) + x4) - 48)) fun J5 =>
some (.inl (s + 1), J5)
else
some (.inr (), I)

noncomputable def f_Src_readNumber_j94    (I : Mem) : Option ((Int) × Mem) :=
bnd (f_Src_fail 2 I) fun x27 J26 =>
if (w32 x27) = 0 then
some (0, J26)
else
some (1, J26)

noncomputable def f_Src_readNumber (a1 : Int) (a2 : Int) (I : Mem) : Option ((Int) × Mem) :=
if (w32 (I 6 0 2)) = 2 then
if 6 < (w32 ((I 6 0 4) - (I 6 0 3))) then
bnd (f_Src_fail 2 I) fun x37 J36 =>
if x37 = 0 ∨ x37 = 1 then
some (x37, J36)
else none
else
ltI (sI I 6 0 5 0) fun J1 =>
bnd (whl (f_Src_readNumber_w44 a1 a2) (J1 6 0 3) J1) fun r19 J20 =>
if (w32 (J20 6 0 5)) < (w32 a1) then
f_Src_readNumber_j94 J20
else
if (w32 a2) < (w32 (J20 6 0 5)) then
f_Src_readNumber_j94 J20
else
some (1, J20)
else
bnd (f_Src_fail 1 I) fun x42 J41 =>
if x42 = 0 ∨ x42 = 1 then
some (x42, J41)
else none
set_option maxRecDepth 20000 in
theorem R_Src_readNumber (Z : ZT) (a1 : Int) (a2 : Int) (I : Mem) (r : Int) (J : Mem) (hf : f_Src_readNumber a1 a2 I = some (r, J)) : Runs Z yX8_readNumber cX8_readNumber 4 (some .boolean) 3 [vr Z 6 0, vi a1, vi a2] I (some (vi r), J) := by
  refine Runs.of (rv := fun x => some (vi x)) (by decide +kernel) (Nat.le_of_ble_eq_true rfl) hf (fun gr => ?_)
  unfold f_Src_readNumber
  refine WQ.loc [0, 1, 2] (lv' := [(0, vr Z 6 0), (1, vi a1), (2, vi a2)]) rfl ?_
  refine wq_aload_n dX8_readNumber_0 0 rfl rfl ?_
  refine g_6_2 ln_RX8_38 dX8_readNumber_1 ?_
  refine wq_iconst dX8_readNumber_4 ?_
  refine wq_icmp_eq 14 dX8_readNumber_5 (by decide) rfl rfl (fun c44 => ?_) (fun c44 => ?_)
  · refine wq_aload_n dX8_readNumber_14 0 rfl rfl ?_
    refine g_6_4 ln_RX8_19 dX8_readNumber_15 ?_
    refine wq_aload_n dX8_readNumber_18 0 rfl rfl ?_
    refine g_6_3 ln_RX8_31 dX8_readNumber_19 ?_
    refine wq_isub dX8_readNumber_22 ?_
    refine wq_bipush dX8_readNumber_23 (by decide) ?_
    refine wq_icmp_le 34 dX8_readNumber_25 (by decide) rfl rfl (fun c39 => ?_) (fun c39 => ?_)
    · refine wq_aload_n dX8_readNumber_28 0 rfl rfl ?_
      refine wq_iconst dX8_readNumber_29 ?_
      refine wq_cVi M_Src_fail (R_Src_fail Z 2 _) ob_6 rfl rfl (by decide) (by decide) (Nat.le_of_ble_eq_true rfl) ln_RX8_72 dX8_readNumber_30 (fun gr35 x37 J36 => ?_)
      refine wq_grd (fun g38 => ?_)
      exact wq_zret rfl g38 rfl dX8_readNumber_33
    · refine wq_aload_n dX8_readNumber_34 0 rfl rfl ?_
      refine wq_iconst dX8_readNumber_35 ?_
      refine p_6_5 ln_RX8_76 dX8_readNumber_36 (fun J1 => ?_)
      refine wq_aload_n dX8_readNumber_39 0 rfl rfl ?_
      refine g_6_3 ln_RX8_31 dX8_readNumber_40 ?_
      refine wq_istore_n (lv' := [(3, vi (J1 6 0 3)), (0, vr Z 6 0), (1, vi a1), (2, vi a2)]) dX8_readNumber_43 rfl (by decide) rfl ?_
      refine WQ.loc [1, 2, 3, 0] (lv' := [(0, vr Z 6 0), (1, vi a1), (2, vi a2), (3, vi (J1 6 0 3))]) rfl ?_
      refine wq_loopS (fun s13 => [(0, vr Z 6 0), (1, vi a1), (2, vi a2), (3, vi s13)]) 78 (fun _ => [(0, vr Z 6 0), (1, vi a1), (2, vi a2)]) (fun κ7 bk8 ex9 gr12 s13 J11 => ?_) (fun gr21 r19 J20 => ?_) gr _ rfl
      · unfold f_Src_readNumber_w44
        refine wq_iload_n dX8_readNumber_44 3 rfl rfl ?_
        refine wq_aload_n dX8_readNumber_45 0 rfl rfl ?_
        refine g_6_4 ln_RX8_19 dX8_readNumber_46 ?_
        refine wq_icmp_ge 78 dX8_readNumber_49 (by decide) rfl rfl (fun c18 => ?_) (fun c18 => ?_)
        · refine wq_aload_n dX8_readNumber_52 0 rfl rfl ?_
          refine wq_aload_n dX8_readNumber_53 0 rfl rfl ?_
          refine g_6_5 ln_RX8_76 dX8_readNumber_54 ?_
          refine wq_bipush dX8_readNumber_57 (by decide) ?_
          refine wq_imul dX8_readNumber_59 ?_
          refine wq_aload_n dX8_readNumber_60 0 rfl rfl ?_
          refine wq_iload_n dX8_readNumber_61 3 rfl rfl ?_
          refine wq_cVi M_Src_byteAt (R_Src_byteAt Z s13 _) ob_6 rfl rfl (by decide) (by decide) (Nat.le_of_ble_eq_true rfl) ln_RX8_65 dX8_readNumber_62 (fun gr14 x16 J15 => ?_)
          refine wq_iadd dX8_readNumber_65 ?_
          refine wq_bipush dX8_readNumber_66 (by decide) ?_
          refine wq_isub dX8_readNumber_68 ?_
          refine p_6_5 ln_RX8_76 dX8_readNumber_69 (fun J17 => ?_)
          refine wq_iinc (lv' := [(3, vi (s13 + 1)), (0, vr Z 6 0), (1, vi a1), (2, vi a2)]) dX8_readNumber_72 3 rfl (by decide) rfl ?_
          refine wq_goto 44 dX8_readNumber_75 (by decide) ?_
          exact WQ.loc [1, 2, 3, 0] rfl (bk8 _ _ _)
        · exact WQ.loc [0, 1, 2] rfl (ex9 _ _ _)
      · refine wq_aload_n dX8_readNumber_78 0 rfl rfl ?_
        refine g_6_5 ln_RX8_76 dX8_readNumber_79 ?_
        refine wq_iload_n dX8_readNumber_82 1 rfl rfl ?_
        have hj22 : ∀ (gr30 : Nat → Nat)   (J29 : Mem), WQ Z (yX8_readNumber, cX8_readNumber, 4, some .boolean, 3) I gr30 94 [(0, vr Z 6 0)] [] J29 (f_Src_readNumber_j94 J29) (fun b K => some (.inl ((fun x => some (vi x)) b), K)) := by
          intro gr30 J29
          unfold f_Src_readNumber_j94
          refine wq_aload_n dX8_readNumber_94 0 rfl rfl ?_
          refine wq_iconst dX8_readNumber_95 ?_
          refine wq_cVi M_Src_fail (R_Src_fail Z 2 _) ob_6 rfl rfl (by decide) (by decide) (Nat.le_of_ble_eq_true rfl) ln_RX8_72 dX8_readNumber_96 (fun gr31 x33 J32 => ?_)
          refine wq_if_eq 106 dX8_readNumber_99 (by decide) rfl (fun c34 => ?_) (fun c34 => ?_)
          · refine wq_iconst dX8_readNumber_106 ?_
            exact wq_zret rfl (by decide) rfl dX8_readNumber_107
          · refine wq_iconst dX8_readNumber_102 ?_
            refine wq_goto 107 dX8_readNumber_103 (by decide) ?_
            exact wq_zret rfl (by decide) rfl dX8_readNumber_107
        refine wq_icmp_lt 94 dX8_readNumber_83 (by decide) rfl rfl (fun c24 => ?_) (fun c24 => ?_)
        · exact WQ.loc [0] rfl (hj22 _   _)
        · refine wq_aload_n dX8_readNumber_86 0 rfl rfl ?_
          refine g_6_5 ln_RX8_76 dX8_readNumber_87 ?_
          refine wq_iload_n dX8_readNumber_90 2 rfl rfl ?_
          refine wq_icmp_le 102 dX8_readNumber_91 (by decide) rfl rfl (fun c23 => ?_) (fun c23 => ?_)
          · exact WQ.loc [0] rfl (hj22 _   _)
          · refine wq_iconst dX8_readNumber_102 ?_
            refine wq_goto 107 dX8_readNumber_103 (by decide) ?_
            exact wq_zret rfl (by decide) rfl dX8_readNumber_107
  · refine wq_aload_n dX8_readNumber_8 0 rfl rfl ?_
    refine wq_iconst dX8_readNumber_9 ?_
    refine wq_cVi M_Src_fail (R_Src_fail Z 1 _) ob_6 rfl rfl (by decide) (by decide) (Nat.le_of_ble_eq_true rfl) ln_RX8_72 dX8_readNumber_10 (fun gr40 x42 J41 => ?_)
    refine wq_grd (fun g43 => ?_)
    exact wq_zret rfl g43 rfl dX8_readNumber_13

noncomputable def f_Src_pass (a1 : Int) (I : Mem) : Option ((Int) × Mem) :=
if (w32 (I 6 0 2)) = (w32 a1) then
bnd (f_Src_advance I) fun _ J2 =>
some (1, J2)
else
bnd (f_Src_fail 1 I) fun x6 J5 =>
if x6 = 0 ∨ x6 = 1 then
some (x6, J5)
else none
set_option maxRecDepth 20000 in
theorem R_Src_pass (Z : ZT) (a1 : Int) (I : Mem) (r : Int) (J : Mem) (hf : f_Src_pass a1 I = some (r, J)) : Runs Z yX8_pass cX8_pass 2 (some .boolean) 3 [vr Z 6 0, vi a1] I (some (vi r), J) := by
  refine Runs.of (rv := fun x => some (vi x)) (by decide +kernel) (Nat.le_of_ble_eq_true rfl) hf (fun gr => ?_)
  unfold f_Src_pass
  refine WQ.loc [0, 1] (lv' := [(0, vr Z 6 0), (1, vi a1)]) rfl ?_
  refine wq_aload_n dX8_pass_0 0 rfl rfl ?_
  refine g_6_2 ln_RX8_38 dX8_pass_1 ?_
  refine wq_iload_n dX8_pass_4 1 rfl rfl ?_
  refine wq_icmp_eq 14 dX8_pass_5 (by decide) rfl rfl (fun c8 => ?_) (fun c8 => ?_)
  · refine wq_aload_n dX8_pass_14 0 rfl rfl ?_
    refine wq_cVv M_Src_advance (R_Src_advance Z _) ob_6 rfl rfl (by decide) (by decide) (Nat.le_of_ble_eq_true rfl) ln_RX8_28 dX8_pass_15 (fun gr1 _ J2 => ?_)
    refine wq_iconst dX8_pass_18 ?_
    exact wq_zret rfl (by decide) rfl dX8_pass_19
  · refine wq_aload_n dX8_pass_8 0 rfl rfl ?_
    refine wq_iconst dX8_pass_9 ?_
    refine wq_cVi M_Src_fail (R_Src_fail Z 1 _) ob_6 rfl rfl (by decide) (by decide) (Nat.le_of_ble_eq_true rfl) ln_RX8_72 dX8_pass_10 (fun gr4 x6 J5 => ?_)
    refine wq_grd (fun g7 => ?_)
    exact wq_zret rfl g7 rfl dX8_pass_13

theorem ln_RX7_57 : Cond.fieldLink RX7 57 RX11 "RULE" "LPairRules$Word;" ∈ lw_good := li_2 239 (by decide +kernel) (by decide +kernel)
theorem ln_RX7_124 : Cond.fieldLinkNest RX7 124 RX11 "lowest" "I" RX12 ∈ lw_nw := nw_in 2318 (by decide +kernel) (by decide +kernel)
theorem ln_RX7_127 : Cond.fieldLinkNest RX7 127 RX11 "highest" "I" RX12 ∈ lw_nw := nw_in 2319 (by decide +kernel) (by decide +kernel)
theorem M_Src_readNumber : MwV yX8_readNumber cX8_readNumber 4 (some .boolean) 2 := ⟨li_3 43 (by decide +kernel) (by decide +kernel), li_3 41 (by decide +kernel) (by decide +kernel), li_3 42 (by decide +kernel) (by decide +kernel), li_1 7 (by decide +kernel) (by decide +kernel), by decide +kernel⟩
theorem ln_RX7_81 : Cond.methodLink RX7 81 yX5_many ∈ lw_good := li_3 45 (by decide +kernel) (by decide +kernel)
theorem M_Src_value : MwV yX8_value cX8_value 1 (some .int) 0 := ⟨li_3 53 (by decide +kernel) (by decide +kernel), li_3 51 (by decide +kernel) (by decide +kernel), li_3 52 (by decide +kernel) (by decide +kernel), li_1 7 (by decide +kernel) (by decide +kernel), by decide +kernel⟩
theorem ln_RX7_137 : Cond.methodLink RX7 137 yX8_value ∈ lw_good := li_3 50 (by decide +kernel) (by decide +kernel)
theorem ln_RX7_24 : Cond.fieldLink RX7 24 RX7 "rulesTold" "I" ∈ lw_good := li_1 210 (by decide +kernel) (by decide +kernel)
theorem M_Src_pass : MwV yX8_pass cX8_pass 2 (some .boolean) 1 := ⟨li_3 61 (by decide +kernel) (by decide +kernel), li_3 59 (by decide +kernel) (by decide +kernel), li_3 60 (by decide +kernel) (by decide +kernel), li_1 7 (by decide +kernel) (by decide +kernel), by decide +kernel⟩
theorem ln_RX7_87 : Cond.methodLink RX7 87 yX8_pass ∈ lw_good := li_3 58 (by decide +kernel) (by decide +kernel)
theorem ln_RX7_134 : Cond.methodLink RX7 134 yX8_failAt ∈ lw_good := li_3 49 (by decide +kernel) (by decide +kernel)
theorem ln_RX7_140 : Cond.methodLink RX7 140 yX1_lengthOf ∈ lw_good := li_3 54 (by decide +kernel) (by decide +kernel)
theorem ln_RX7_130 : Cond.methodLink RX7 130 yX8_readNumber ∈ lw_good := li_3 40 (by decide +kernel) (by decide +kernel)
noncomputable def f_Set_readRule (a1 : Nat) (I : Mem) : Option ((Int) × Mem) :=
if a1 < 516 then
bnd (f_Src_advance I) fun _ J3 =>
bnd (f_Src_readNumber (wLow 0) (wHig 0) J3) fun x7 J6 =>
if (w32 x7) = 0 then
some (0, J6)
else
if (w32 (J6 2 a1 1)) < 400 then
if (w32 (J6 6 0 5)) < (w32 (J6 7 0 2)) then
bnd (f_G_lengthOf 1 (26 + (J6 6 0 5)) J6) fun x12 J11 =>
ltI (sI J11 7 0 3 ((J6 7 0 3) + x12)) fun J13 =>
if 400 < (w32 (J13 7 0 3)) then
bnd (f_Src_failAt 5 (I 6 0 3) J13) fun x26 J25 =>
if x26 = 0 ∨ x26 = 1 then
some (x26, J25)
else none
else
bnd (f_Row_put a1 (26 + (J6 6 0 5)) J13) fun _ J15 =>
bnd (f_Src_advance J15) fun _ J18 =>
bnd (f_Src_pass 5 J18) fun x22 J21 =>
if x22 = 0 ∨ x22 = 1 then
some (x22, J21)
else none
else
bnd (f_Src_fail 4 J6) fun x31 J30 =>
if x31 = 0 ∨ x31 = 1 then
some (x31, J30)
else none
else
bnd (f_Src_failAt 5 (I 6 0 3) J6) fun x36 J35 =>
if x36 = 0 ∨ x36 = 1 then
some (x36, J35)
else none
else none
set_option maxRecDepth 20000 in
theorem R_Set_readRule (Z : ZT) (a1 : Nat) (I : Mem) (r : Int) (J : Mem) (hf : f_Set_readRule a1 I = some (r, J)) : Runs Z yX7_readRule cX7_readRule 4 (some .boolean) 4 [vr Z 7 0, vr Z 2 a1] I (some (vi r), J) := by
  refine Runs.of (rv := fun x => some (vi x)) (by decide +kernel) (Nat.le_of_ble_eq_true rfl) hf (fun gr => ?_)
  unfold f_Set_readRule
  refine WQ.loc [0, 1] (lv' := [(0, vr Z 7 0), (1, vr Z 2 a1)]) rfl ?_
  refine wq_grd (fun h1 => ?_)
  refine wq_aload_n dX7_readRule_0 0 rfl rfl ?_
  refine g_7_0 ln_RX7_9 dX7_readRule_1 ?_
  refine wq_pV (v := vi (I 6 0 3)) M_Src_from (R_Src_from Z  _ _ _ rfl) ob_6 rfl rfl (by decide) (by decide) (Nat.le_of_ble_eq_true rfl) ln_RX7_113 dX7_readRule_4 (fun gr1 => ?_)
  refine wq_istore_n (lv' := [(2, vi (I 6 0 3)), (0, vr Z 7 0), (1, vr Z 2 a1)]) dX7_readRule_7 rfl (by decide) rfl ?_
  refine wq_aload_n dX7_readRule_8 1 rfl rfl ?_
  refine g_7_0 ln_RX7_9 dX7_readRule_9 ?_
  refine wq_cVv M_Src_advance (R_Src_advance Z _) ob_6 rfl rfl (by decide) (by decide) (Nat.le_of_ble_eq_true rfl) ln_RX7_67 dX7_readRule_12 (fun gr2 _ J3 => ?_)
  refine wq_aload_n dX7_readRule_15 1 rfl rfl ?_
  refine g_7_0 ln_RX7_9 dX7_readRule_16 ?_
  refine wq_gets (sta_word 0 (by decide)) ln_RX7_57 dX7_readRule_19 ?_
  refine wq_wordLowest (by decide) ln_RX7_124 dX7_readRule_22 ?_
  refine wq_gets (sta_word 0 (by decide)) ln_RX7_57 dX7_readRule_25 ?_
  refine wq_wordHighest (by decide) ln_RX7_127 dX7_readRule_28 ?_
  refine wq_cVi M_Src_readNumber (R_Src_readNumber Z (wLow 0) (wHig 0) _) ob_6 rfl rfl (by decide) (by decide) (Nat.le_of_ble_eq_true rfl) ln_RX7_130 dX7_readRule_31 (fun gr5 x7 J6 => ?_)
  refine wq_if_ne 39 dX7_readRule_34 (by decide) rfl (fun c39 => ?_) (fun c39 => ?_)
  · refine wq_iconst dX7_readRule_37 ?_
    exact wq_zret rfl (by decide) rfl dX7_readRule_38
  · refine wq_aload_n dX7_readRule_39 2 rfl rfl ?_
    refine wq_pV (v := vi (J6 2 a1 1)) M_Row_many (R_Row_many Z a1 _ _ _ (if_pos h1)) (ob_2 h1) rfl rfl (by decide) (by decide) (Nat.le_of_ble_eq_true rfl) ln_RX7_81 dX7_readRule_40 (fun gr8 => ?_)
    refine wq_sipush dX7_readRule_43 (by decide) ?_
    refine wq_icmp_lt 59 dX7_readRule_46 (by decide) rfl rfl (fun c38 => ?_) (fun c38 => ?_)
    · refine wq_aload_n dX7_readRule_59 1 rfl rfl ?_
      refine g_7_0 ln_RX7_9 dX7_readRule_60 ?_
      refine wq_pV (v := vi (J6 6 0 5)) M_Src_value (R_Src_value Z  _ _ _ rfl) ob_6 rfl rfl (by decide) (by decide) (Nat.le_of_ble_eq_true rfl) ln_RX7_137 dX7_readRule_63 (fun gr9 => ?_)
      refine wq_istore_n (lv' := [(3, vi (J6 6 0 5)), (2, vi (I 6 0 3)), (0, vr Z 7 0), (1, vr Z 2 a1)]) dX7_readRule_66 rfl (by decide) rfl ?_
      refine wq_iload_n dX7_readRule_67 0 rfl rfl ?_
      refine wq_aload_n dX7_readRule_68 2 rfl rfl ?_
      refine g_7_2 ln_RX7_24 dX7_readRule_69 ?_
      refine wq_icmp_lt 84 dX7_readRule_72 (by decide) rfl rfl (fun c33 => ?_) (fun c33 => ?_)
      · refine wq_aload_n dX7_readRule_84 2 rfl rfl ?_
        refine wq_dup dX7_readRule_85 rfl ?_
        refine g_7_3 ln_RX7_90 dX7_readRule_86 ?_
        refine wq_aload_n dX7_readRule_89 2 rfl rfl ?_
        refine g_7_1 ln_RX7_15 dX7_readRule_90 ?_
        refine wq_bipush dX7_readRule_93 (by decide) ?_
        refine wq_iload_n dX7_readRule_95 0 rfl rfl ?_
        refine wq_iadd dX7_readRule_96 ?_
        refine wq_cVi M_G_lengthOf (R_G_lengthOf Z 1 (26 + (J6 6 0 5)) _) (ob_1 (by decide)) rfl rfl (by decide) (by decide) (Nat.le_of_ble_eq_true rfl) ln_RX7_140 dX7_readRule_97 (fun gr10 x12 J11 => ?_)
        refine wq_iadd dX7_readRule_100 ?_
        refine p_7_3 ln_RX7_90 dX7_readRule_101 (fun J13 => ?_)
        refine wq_aload_n dX7_readRule_104 2 rfl rfl ?_
        refine g_7_3 ln_RX7_90 dX7_readRule_105 ?_
        refine wq_sipush dX7_readRule_108 (by decide) ?_
        refine wq_icmp_le 124 dX7_readRule_111 (by decide) rfl rfl (fun c28 => ?_) (fun c28 => ?_)
        · refine wq_aload_n dX7_readRule_114 2 rfl rfl ?_
          refine g_7_0 ln_RX7_9 dX7_readRule_115 ?_
          refine wq_iconst dX7_readRule_118 ?_
          refine wq_iload_n dX7_readRule_119 1 rfl rfl ?_
          refine wq_cVi M_Src_failAt (R_Src_failAt Z 5 (I 6 0 3) _) ob_6 rfl rfl (by decide) (by decide) (Nat.le_of_ble_eq_true rfl) ln_RX7_134 dX7_readRule_120 (fun gr24 x26 J25 => ?_)
          refine wq_grd (fun g27 => ?_)
          exact wq_zret rfl g27 rfl dX7_readRule_123
        · refine wq_aload_n dX7_readRule_124 3 rfl rfl ?_
          refine wq_bipush dX7_readRule_125 (by decide) ?_
          refine wq_iload_n dX7_readRule_127 0 rfl rfl ?_
          refine wq_iadd dX7_readRule_128 ?_
          refine wq_cVv M_Row_put (R_Row_put Z a1 (26 + (J6 6 0 5)) _) (ob_2 h1) rfl rfl (by decide) (by decide) (Nat.le_of_ble_eq_true rfl) ln_RX7_120 dX7_readRule_129 (fun gr14 _ J15 => ?_)
          refine wq_aload_n dX7_readRule_132 2 rfl rfl ?_
          refine g_7_0 ln_RX7_9 dX7_readRule_133 ?_
          refine wq_cVv M_Src_advance (R_Src_advance Z _) ob_6 rfl rfl (by decide) (by decide) (Nat.le_of_ble_eq_true rfl) ln_RX7_67 dX7_readRule_136 (fun gr17 _ J18 => ?_)
          refine wq_aload_n dX7_readRule_139 2 rfl rfl ?_
          refine g_7_0 ln_RX7_9 dX7_readRule_140 ?_
          refine wq_iconst dX7_readRule_143 ?_
          refine wq_cVi M_Src_pass (R_Src_pass Z 5 _) ob_6 rfl rfl (by decide) (by decide) (Nat.le_of_ble_eq_true rfl) ln_RX7_87 dX7_readRule_144 (fun gr20 x22 J21 => ?_)
          refine wq_grd (fun g23 => ?_)
          exact wq_zret rfl g23 rfl dX7_readRule_147
      · refine wq_aload_n dX7_readRule_75 2 rfl rfl ?_
        refine g_7_0 ln_RX7_9 dX7_readRule_76 ?_
        refine wq_iconst dX7_readRule_79 ?_
        refine wq_cVi M_Src_fail (R_Src_fail Z 4 _) ob_6 rfl rfl (by decide) (by decide) (Nat.le_of_ble_eq_true rfl) ln_RX7_63 dX7_readRule_80 (fun gr29 x31 J30 => ?_)
        refine wq_grd (fun g32 => ?_)
        exact wq_zret rfl g32 rfl dX7_readRule_83
    · refine wq_aload_n dX7_readRule_49 1 rfl rfl ?_
      refine g_7_0 ln_RX7_9 dX7_readRule_50 ?_
      refine wq_iconst dX7_readRule_53 ?_
      refine wq_iload_n dX7_readRule_54 0 rfl rfl ?_
      refine wq_cVi M_Src_failAt (R_Src_failAt Z 5 (I 6 0 3) _) ob_6 rfl rfl (by decide) (by decide) (Nat.le_of_ble_eq_true rfl) ln_RX7_134 dX7_readRule_55 (fun gr34 x36 J35 => ?_)
      refine wq_grd (fun g37 => ?_)
      exact wq_zret rfl g37 rfl dX7_readRule_58

theorem M_Src_word : MwV yX8_word cX8_word 2 (some (.object RX11)) 0 := ⟨li_2 179 (by decide +kernel) (by decide +kernel), li_2 177 (by decide +kernel) (by decide +kernel), li_2 178 (by decide +kernel) (by decide +kernel), li_1 7 (by decide +kernel) (by decide +kernel), by decide +kernel⟩
theorem ln_RX7_146 : Cond.fieldLink RX7 146 RX11 "LEAST" "LPairRules$Word;" ∈ lw_good := li_3 84 (by decide +kernel) (by decide +kernel)
theorem ln_RX7_149 : Cond.fieldLink RX7 149 RX11 "TIE" "LPairRules$Word;" ∈ lw_good := li_3 86 (by decide +kernel) (by decide +kernel)
theorem ln_RX7_152 : Cond.fieldLink RX7 152 RX11 "INLINE" "LPairRules$Word;" ∈ lw_good := li_3 88 (by decide +kernel) (by decide +kernel)
theorem M_Set_isTold : MwV yX7_isTold cX7_isTold 2 (some .boolean) 1 := ⟨li_3 93 (by decide +kernel) (by decide +kernel), li_3 92 (by decide +kernel) (by decide +kernel), lw_in 10 (by decide +kernel) (by decide +kernel), li_1 8 (by decide +kernel) (by decide +kernel), by decide +kernel⟩
theorem M_Set_noteTold : MwV yX7_noteTold cX7_noteTold 3 (none) 2 := ⟨li_3 105 (by decide +kernel) (by decide +kernel), li_3 104 (by decide +kernel) (by decide +kernel), lw_in 11 (by decide +kernel) (by decide +kernel), li_1 8 (by decide +kernel) (by decide +kernel), by decide +kernel⟩
theorem ln_RX7_159 : Cond.methodLink RX7 159 yX7_noteTold ∈ lw_good := li_3 102 (by decide +kernel) (by decide +kernel)
theorem ln_RX7_155 : Cond.methodLink RX7 155 yX7_isTold ∈ lw_good := li_3 90 (by decide +kernel) (by decide +kernel)
theorem ln_RX7_53 : Cond.methodLink RX7 53 yX8_word ∈ lw_good := li_2 176 (by decide +kernel) (by decide +kernel)
noncomputable def f_Set_readStatement_j38 (v1 : Nat)   (I : Mem) : Option ((Int) × Mem) :=
bnd (f_Set_isTold v1 I) fun x15 J14 =>
if (w32 x15) = 0 then
bnd (f_Src_advance J14) fun _ J17 =>
bnd (f_Src_readNumber (wLow v1) (wHig v1) J17) fun x21 J20 =>
if (w32 x21) = 0 then
some (0, J20)
else
bnd (f_Set_noteTold v1 (J20 6 0 5) J20) fun _ J24 =>
bnd (f_Src_advance J24) fun _ J27 =>
some (1, J27)
else
bnd (f_Src_fail 3 J14) fun x32 J31 =>
if x32 = 0 ∨ x32 = 1 then
some (x32, J31)
else none

noncomputable def f_Set_readStatement  (I : Mem) : Option ((Int) × Mem) :=
bnd (f_Src_word I) fun x3 J2 =>
if x3 < 15 then
if x3 = 3 then
f_Set_readStatement_j38 x3 J2
else
if x3 = 4 then
f_Set_readStatement_j38 x3 J2
else
if x3 = 2 then
f_Set_readStatement_j38 x3 J2
else
bnd (f_Src_fail 1 J2) fun x8 J7 =>
if x8 = 0 ∨ x8 = 1 then
some (x8, J7)
else none
else none
set_option maxRecDepth 20000 in
theorem R_Set_readStatement (Z : ZT)  (I : Mem) (r : Int) (J : Mem) (hf : f_Set_readStatement I = some (r, J)) : Runs Z yX7_readStatement cX7_readStatement 2 (some .boolean) 7 [vr Z 7 0] I (some (vi r), J) := by
  refine Runs.of (rv := fun x => some (vi x)) (by decide +kernel) (Nat.le_of_ble_eq_true rfl) hf (fun gr => ?_)
  unfold f_Set_readStatement
  refine WQ.loc [0] (lv' := [(0, vr Z 7 0)]) rfl ?_
  refine wq_aload_n dX7_readStatement_0 0 rfl rfl ?_
  refine g_7_0 ln_RX7_9 dX7_readStatement_1 ?_
  refine wq_cVr 11 M_Src_word (R_Src_word Z _) ob_6 rfl rfl (by decide) (by decide) (Nat.le_of_ble_eq_true rfl) ln_RX7_53 dX7_readStatement_4 (fun gr1 x3 J2 => ?_)
  refine wq_grd (fun g4 => ?_)
  refine wq_astore_n (lv' := [(1, vr Z 11 x3), (0, vr Z 7 0)]) dX7_readStatement_7 rfl (by decide) rfl ?_
  refine wq_aload_n dX7_readStatement_8 0 rfl rfl ?_
  refine wq_gets (sta_word 3 (by decide)) ln_RX7_146 dX7_readStatement_9 ?_
  have hj5 : ∀ (gr36 : Nat → Nat)   (J35 : Mem), WQ Z (yX7_readStatement, cX7_readStatement, 2, some .boolean, 7) I gr36 38 [(0, vr Z 7 0), (1, vr Z 11 x3)] [] J35 (f_Set_readStatement_j38 x3 J35) (fun b K => some (.inl ((fun x => some (vi x)) b), K)) := by
    intro gr36 J35
    unfold f_Set_readStatement_j38
    refine wq_aload_n dX7_readStatement_38 0 rfl rfl ?_
    refine wq_aload_n dX7_readStatement_39 1 rfl rfl ?_
    refine wq_cVi M_Set_isTold (R_Set_isTold Z x3 _) ob_7 rfl rfl (by decide) (by decide) (Nat.le_of_ble_eq_true rfl) ln_RX7_155 dX7_readStatement_40 (fun gr37 x39 J38 => ?_)
    refine wq_if_eq 55 dX7_readStatement_43 (by decide) rfl (fun c58 => ?_) (fun c58 => ?_)
    · refine wq_aload_n dX7_readStatement_55 0 rfl rfl ?_
      refine g_7_0 ln_RX7_9 dX7_readStatement_56 ?_
      refine wq_cVv M_Src_advance (R_Src_advance Z _) ob_6 rfl rfl (by decide) (by decide) (Nat.le_of_ble_eq_true rfl) ln_RX7_67 dX7_readStatement_59 (fun gr40 _ J41 => ?_)
      refine wq_aload_n dX7_readStatement_62 0 rfl rfl ?_
      refine g_7_0 ln_RX7_9 dX7_readStatement_63 ?_
      refine wq_aload_n dX7_readStatement_66 1 rfl rfl ?_
      refine wq_wordLowest g4 ln_RX7_124 dX7_readStatement_67 ?_
      refine wq_aload_n dX7_readStatement_70 1 rfl rfl ?_
      refine wq_wordHighest g4 ln_RX7_127 dX7_readStatement_71 ?_
      refine wq_cVi M_Src_readNumber (R_Src_readNumber Z (wLow x3) (wHig x3) _) ob_6 rfl rfl (by decide) (by decide) (Nat.le_of_ble_eq_true rfl) ln_RX7_130 dX7_readStatement_74 (fun gr43 x45 J44 => ?_)
      refine wq_if_ne 82 dX7_readStatement_77 (by decide) rfl (fun c53 => ?_) (fun c53 => ?_)
      · refine wq_iconst dX7_readStatement_80 ?_
        exact wq_zret rfl (by decide) rfl dX7_readStatement_81
      · refine wq_aload_n dX7_readStatement_82 0 rfl rfl ?_
        refine wq_aload_n dX7_readStatement_83 1 rfl rfl ?_
        refine wq_aload_n dX7_readStatement_84 0 rfl rfl ?_
        refine g_7_0 ln_RX7_9 dX7_readStatement_85 ?_
        refine wq_pV (v := vi (J44 6 0 5)) M_Src_value (R_Src_value Z  _ _ _ rfl) ob_6 rfl rfl (by decide) (by decide) (Nat.le_of_ble_eq_true rfl) ln_RX7_137 dX7_readStatement_88 (fun gr46 => ?_)
        refine wq_cVv M_Set_noteTold (R_Set_noteTold Z x3 (J44 6 0 5) _) ob_7 rfl rfl (by decide) (by decide) (Nat.le_of_ble_eq_true rfl) ln_RX7_159 dX7_readStatement_91 (fun gr47 _ J48 => ?_)
        refine wq_aload_n dX7_readStatement_94 0 rfl rfl ?_
        refine g_7_0 ln_RX7_9 dX7_readStatement_95 ?_
        refine wq_cVv M_Src_advance (R_Src_advance Z _) ob_6 rfl rfl (by decide) (by decide) (Nat.le_of_ble_eq_true rfl) ln_RX7_67 dX7_readStatement_98 (fun gr50 _ J51 => ?_)
        refine wq_iconst dX7_readStatement_101 ?_
        exact wq_zret rfl (by decide) rfl dX7_readStatement_102
    · refine wq_aload_n dX7_readStatement_46 0 rfl rfl ?_
      refine g_7_0 ln_RX7_9 dX7_readStatement_47 ?_
      refine wq_iconst dX7_readStatement_50 ?_
      refine wq_cVi M_Src_fail (R_Src_fail Z 3 _) ob_6 rfl rfl (by decide) (by decide) (Nat.le_of_ble_eq_true rfl) ln_RX7_63 dX7_readStatement_51 (fun gr54 x56 J55 => ?_)
      refine wq_grd (fun g57 => ?_)
      exact wq_zret rfl g57 rfl dX7_readStatement_54
  refine wq_acmp_eq 38 dX7_readStatement_12 (by decide) g4 (by decide) (fun c12 => ?_) (fun c12 => ?_)
  · exact WQ.loc [1, 0] rfl (hj5 _   _)
  · refine wq_aload_n dX7_readStatement_15 0 rfl rfl ?_
    refine wq_gets (sta_word 4 (by decide)) ln_RX7_149 dX7_readStatement_16 ?_
    refine wq_acmp_eq 38 dX7_readStatement_19 (by decide) g4 (by decide) (fun c11 => ?_) (fun c11 => ?_)
    · exact WQ.loc [1, 0] rfl (hj5 _   _)
    · refine wq_aload_n dX7_readStatement_22 0 rfl rfl ?_
      refine wq_gets (sta_word 2 (by decide)) ln_RX7_152 dX7_readStatement_23 ?_
      refine wq_acmp_eq 38 dX7_readStatement_26 (by decide) g4 (by decide) (fun c10 => ?_) (fun c10 => ?_)
      · exact WQ.loc [1, 0] rfl (hj5 _   _)
      · refine wq_aload_n dX7_readStatement_29 1 rfl rfl ?_
        refine g_7_0 ln_RX7_9 dX7_readStatement_30 ?_
        refine wq_iconst dX7_readStatement_33 ?_
        refine wq_cVi M_Src_fail (R_Src_fail Z 1 _) ob_6 rfl rfl (by decide) (by decide) (Nat.le_of_ble_eq_true rfl) ln_RX7_63 dX7_readStatement_34 (fun gr6 x8 J7 => ?_)
        refine wq_grd (fun g9 => ?_)
        exact wq_zret rfl g9 rfl dX7_readStatement_37

theorem M_Scr_addEntry : MwV yX6_addEntry cX6_addEntry 3 (some .int) 1 := ⟨li_3 201 (by decide +kernel) (by decide +kernel), li_3 200 (by decide +kernel) (by decide +kernel), lw_in 15 (by decide +kernel) (by decide +kernel), li_1 9 (by decide +kernel) (by decide +kernel), by decide +kernel⟩
theorem ln_RX6_51 : Cond.fieldLink RX6 51 RX6 "open" "I" ∈ lw_good := li_2 10 (by decide +kernel) (by decide +kernel)
theorem ln_RX6_33 : Cond.fieldLink RX6 33 RX6 "openAgains" "[I" ∈ lw_good := li_2 7 (by decide +kernel) (by decide +kernel)
theorem ln_RX6_83 : Cond.methodLink RX6 83 yX8_pass ∈ lw_good := li_3 204 (by decide +kernel) (by decide +kernel)
theorem ln_RX6_76 : Cond.methodLink RX6 76 yX6_addEntry ∈ lw_good := li_3 198 (by decide +kernel) (by decide +kernel)
noncomputable def f_Scr_readClose_j46 (v1 : Int)  (e0 : Int) (I : Mem) : Option ((Int) × Mem) :=
if 0 ≤ (w32 e0) ∧ (w32 e0) < 60 then
ltI (sI I 21 3 (w32 e0).toNat v1) fun J11 =>
if 0 ≤ (w32 v1) ∧ (w32 v1) < 60 then
ltI (sI J11 21 3 (w32 v1).toNat e0) fun J13 =>
bnd (f_Src_advance J13) fun _ J15 =>
bnd (f_Src_pass 3 J15) fun x19 J18 =>
if x19 = 0 ∨ x19 = 1 then
some (x19, J18)
else none
else none
else none

noncomputable def f_Scr_readClose_j45 (v1 : Int)   (I : Mem) : Option ((Int) × Mem) :=
f_Scr_readClose_j46 v1 0 I

noncomputable def f_Scr_readClose  (I : Mem) : Option ((Int) × Mem) :=
bnd (f_Scr_addEntry 13 I) fun x3 J2 =>
ltI (sI J2 8 0 10 ((J2 8 0 10) - 1)) fun J4 =>
if (w32 (J4 8 0 10)) < 0 then
f_Scr_readClose_j45 x3 J4
else
if (w32 (J4 8 0 10)) < 2 then
if 0 ≤ (w32 (J4 8 0 10)) ∧ (w32 (J4 8 0 10)) < 2 then
f_Scr_readClose_j46 x3 (J4 21 5 (w32 (J4 8 0 10)).toNat) J4
else none
else
f_Scr_readClose_j45 x3 J4
set_option maxRecDepth 20000 in
theorem R_Scr_readClose (Z : ZT)  (I : Mem) (r : Int) (J : Mem) (hf : f_Scr_readClose I = some (r, J)) : Runs Z yX6_readClose cX6_readClose 3 (some .boolean) 4 [vr Z 8 0] I (some (vi r), J) := by
  refine Runs.of (rv := fun x => some (vi x)) (by decide +kernel) (Nat.le_of_ble_eq_true rfl) hf (fun gr => ?_)
  unfold f_Scr_readClose
  refine WQ.loc [0] (lv' := [(0, vr Z 8 0)]) rfl ?_
  refine wq_aload_n dX6_readClose_0 0 rfl rfl ?_
  refine wq_gets (sta_word 13 (by decide)) ln_RX6_73 dX6_readClose_1 ?_
  refine wq_cVi M_Scr_addEntry (R_Scr_addEntry Z 13 _) ob_8 rfl rfl (by decide) (by decide) (Nat.le_of_ble_eq_true rfl) ln_RX6_76 dX6_readClose_4 (fun gr1 x3 J2 => ?_)
  refine wq_istore_n (lv' := [(1, vi x3), (0, vr Z 8 0)]) dX6_readClose_7 rfl (by decide) rfl ?_
  refine wq_aload_n dX6_readClose_8 1 rfl rfl ?_
  refine wq_dup dX6_readClose_9 rfl ?_
  refine g_8_10 ln_RX6_51 dX6_readClose_10 ?_
  refine wq_iconst dX6_readClose_13 ?_
  refine wq_isub dX6_readClose_14 ?_
  refine p_8_10 ln_RX6_51 dX6_readClose_15 (fun J4 => ?_)
  refine wq_aload_n dX6_readClose_18 1 rfl rfl ?_
  refine g_8_10 ln_RX6_51 dX6_readClose_19 ?_
  have hj5 : ∀ (gr22 : Nat → Nat)  (hj5e0 : Int) (J21 : Mem), WQ Z (yX6_readClose, cX6_readClose, 3, some .boolean, 4) I gr22 46 [(0, vr Z 8 0), (1, vi x3)] [vi hj5e0] J21 (f_Scr_readClose_j46 x3 hj5e0 J21) (fun b K => some (.inl ((fun x => some (vi x)) b), K)) := by
    intro gr22 hj5e0 J21
    unfold f_Scr_readClose_j46
    refine wq_istore_n (lv' := [(2, vi hj5e0), (0, vr Z 8 0), (1, vi x3)]) dX6_readClose_46 rfl (by decide) rfl ?_
    refine wq_aload_n dX6_readClose_47 1 rfl rfl ?_
    refine g_8_5 ln_RX6_27 dX6_readClose_48 ?_
    refine wq_iload_n dX6_readClose_51 0 rfl rfl ?_
    refine wq_iload_n dX6_readClose_52 2 rfl rfl ?_
    refine wq_grd (fun g23 => ?_)
    refine wq_iast (k := 21) (i := 3) (fun _ _ => rfl) (by decide) rfl rfl (m := 60) g23 (by decide) (by decide) (by decide) (by decide) dX6_readClose_53 (fun J24 => ?_)
    refine wq_aload_n dX6_readClose_54 1 rfl rfl ?_
    refine g_8_5 ln_RX6_27 dX6_readClose_55 ?_
    refine wq_iload_n dX6_readClose_58 2 rfl rfl ?_
    refine wq_iload_n dX6_readClose_59 0 rfl rfl ?_
    refine wq_grd (fun g25 => ?_)
    refine wq_iast (k := 21) (i := 3) (fun _ _ => rfl) (by decide) rfl rfl (m := 60) g25 (by decide) (by decide) (by decide) (by decide) dX6_readClose_60 (fun J26 => ?_)
    refine wq_aload_n dX6_readClose_61 1 rfl rfl ?_
    refine g_8_0 ln_RX6_36 dX6_readClose_62 ?_
    refine wq_cVv M_Src_advance (R_Src_advance Z _) ob_6 rfl rfl (by decide) (by decide) (Nat.le_of_ble_eq_true rfl) ln_RX6_80 dX6_readClose_65 (fun gr27 _ J28 => ?_)
    refine wq_aload_n dX6_readClose_68 1 rfl rfl ?_
    refine g_8_0 ln_RX6_36 dX6_readClose_69 ?_
    refine wq_iconst dX6_readClose_72 ?_
    refine wq_cVi M_Src_pass (R_Src_pass Z 3 _) ob_6 rfl rfl (by decide) (by decide) (Nat.le_of_ble_eq_true rfl) ln_RX6_83 dX6_readClose_73 (fun gr30 x32 J31 => ?_)
    refine wq_grd (fun g33 => ?_)
    exact wq_zret rfl g33 rfl dX6_readClose_76
  have hj6 : ∀ (gr35 : Nat → Nat)   (J34 : Mem), WQ Z (yX6_readClose, cX6_readClose, 3, some .boolean, 4) I gr35 45 [(0, vr Z 8 0), (1, vi x3)] [] J34 (f_Scr_readClose_j45 x3 J34) (fun b K => some (.inl ((fun x => some (vi x)) b), K)) := by
    intro gr35 J34
    unfold f_Scr_readClose_j45
    refine wq_iconst dX6_readClose_45 ?_
    exact WQ.loc [0, 1] rfl (hj5 _  _ _)
  refine wq_if_lt 45 dX6_readClose_22 (by decide) rfl (fun c9 => ?_) (fun c9 => ?_)
  · exact WQ.loc [1, 0] rfl (hj6 _   _)
  · refine wq_aload_n dX6_readClose_25 1 rfl rfl ?_
    refine g_8_10 ln_RX6_51 dX6_readClose_26 ?_
    refine wq_iconst dX6_readClose_29 ?_
    refine wq_icmp_ge 45 dX6_readClose_30 (by decide) rfl rfl (fun c8 => ?_) (fun c8 => ?_)
    · refine wq_aload_n dX6_readClose_33 1 rfl rfl ?_
      refine g_8_7 ln_RX6_33 dX6_readClose_34 ?_
      refine wq_aload_n dX6_readClose_37 1 rfl rfl ?_
      refine g_8_10 ln_RX6_51 dX6_readClose_38 ?_
      refine wq_grd (fun g7 => ?_)
      refine wq_iald (k := 21) (i := 5) rfl (by decide) rfl rfl (m := 2) g7 (by decide) dX6_readClose_41 ?_
      refine wq_goto 46 dX6_readClose_42 (by decide) ?_
      exact WQ.loc [1, 0] rfl (hj5 _  _ _)
    · exact WQ.loc [1, 0] rfl (hj6 _   _)

theorem ln_RX6_117 : Cond.fieldLinkNest RX6 117 RX11 "lowest" "I" RX12 ∈ lw_nw := nw_in 2322 (by decide +kernel) (by decide +kernel)
theorem ln_RX6_120 : Cond.fieldLinkNest RX6 120 RX11 "highest" "I" RX12 ∈ lw_nw := nw_in 2323 (by decide +kernel) (by decide +kernel)
theorem ln_RX6_126 : Cond.methodLink RX6 126 yX8_value ∈ lw_good := li_3 226 (by decide +kernel) (by decide +kernel)
theorem ln_RX6_123 : Cond.methodLink RX6 123 yX8_readNumber ∈ lw_good := li_3 225 (by decide +kernel) (by decide +kernel)
noncomputable def f_Scr_readNumber (a1 : Int) (I : Mem) : Option ((Int) × Mem) :=
if 0 ≤ (w32 a1) ∧ (w32 a1) < 60 then
if (I 20 0 (w32 a1).toNat).toNat < 15 then
if (I 20 0 (w32 a1).toNat).toNat < 15 then
bnd (f_Src_readNumber (wLow ((I 20 0 (w32 a1).toNat).toNat)) (wHig ((I 20 0 (w32 a1).toNat).toNat)) I) fun x8 J7 =>
if (w32 x8) = 0 then
some (0, J7)
else
ltI (sI J7 21 0 (w32 a1).toNat (J7 6 0 5)) fun J10 =>
bnd (f_Src_advance J10) fun _ J12 =>
some (1, J12)
else none
else none
else none
set_option maxRecDepth 20000 in
theorem R_Scr_readNumber (Z : ZT) (a1 : Int) (I : Mem) (r : Int) (J : Mem) (hf : f_Scr_readNumber a1 I = some (r, J)) : Runs Z yX6_readNumber cX6_readNumber 2 (some .boolean) 4 [vr Z 8 0, vi a1] I (some (vi r), J) := by
  refine Runs.of (rv := fun x => some (vi x)) (by decide +kernel) (Nat.le_of_ble_eq_true rfl) hf (fun gr => ?_)
  unfold f_Scr_readNumber
  refine WQ.loc [0, 1] (lv' := [(0, vr Z 8 0), (1, vi a1)]) rfl ?_
  refine wq_aload_n dX6_readNumber_0 0 rfl rfl ?_
  refine g_8_0 ln_RX6_36 dX6_readNumber_1 ?_
  refine wq_aload_n dX6_readNumber_4 0 rfl rfl ?_
  refine g_8_1 ln_RX6_13 dX6_readNumber_5 ?_
  refine wq_iload_n dX6_readNumber_8 1 rfl rfl ?_
  refine wq_grd (fun g1 => ?_)
  refine wq_aald (k := 20) (i := 0) (t0 := 6) rfl rfl (by decide) rfl rfl (m := 60) g1 (Nat.le_refl _) dX6_readNumber_9 ?_
  refine wq_grd (fun g2 => ?_)
  refine wq_wordLowest g2 ln_RX6_117 dX6_readNumber_10 ?_
  refine wq_aload_n dX6_readNumber_13 0 rfl rfl ?_
  refine g_8_1 ln_RX6_13 dX6_readNumber_14 ?_
  refine wq_iload_n dX6_readNumber_17 1 rfl rfl ?_
  refine wq_aald (k := 20) (i := 0) (t0 := 6) rfl rfl (by decide) rfl rfl (m := 60) g1 (Nat.le_refl _) dX6_readNumber_18 ?_
  refine wq_grd (fun g4 => ?_)
  refine wq_wordHighest g4 ln_RX6_120 dX6_readNumber_19 ?_
  refine wq_cVi M_Src_readNumber (R_Src_readNumber Z (wLow ((I 20 0 (w32 a1).toNat).toNat)) (wHig ((I 20 0 (w32 a1).toNat).toNat)) _) ob_6 rfl rfl (by decide) (by decide) (Nat.le_of_ble_eq_true rfl) ln_RX6_123 dX6_readNumber_22 (fun gr6 x8 J7 => ?_)
  refine wq_if_ne 30 dX6_readNumber_25 (by decide) rfl (fun c14 => ?_) (fun c14 => ?_)
  · refine wq_iconst dX6_readNumber_28 ?_
    exact wq_zret rfl (by decide) rfl dX6_readNumber_29
  · refine wq_aload_n dX6_readNumber_30 0 rfl rfl ?_
    refine g_8_2 ln_RX6_17 dX6_readNumber_31 ?_
    refine wq_iload_n dX6_readNumber_34 1 rfl rfl ?_
    refine wq_aload_n dX6_readNumber_35 0 rfl rfl ?_
    refine g_8_0 ln_RX6_36 dX6_readNumber_36 ?_
    refine wq_pV (v := vi (J7 6 0 5)) M_Src_value (R_Src_value Z  _ _ _ rfl) ob_6 rfl rfl (by decide) (by decide) (Nat.le_of_ble_eq_true rfl) ln_RX6_126 dX6_readNumber_39 (fun gr9 => ?_)
    refine wq_iast (k := 21) (i := 0) (fun _ _ => rfl) (by decide) rfl rfl (m := 60) g1 (by decide) (by decide) (by decide) (by decide) dX6_readNumber_42 (fun J10 => ?_)
    refine wq_aload_n dX6_readNumber_43 0 rfl rfl ?_
    refine g_8_0 ln_RX6_36 dX6_readNumber_44 ?_
    refine wq_cVv M_Src_advance (R_Src_advance Z _) ob_6 rfl rfl (by decide) (by decide) (Nat.le_of_ble_eq_true rfl) ln_RX6_80 dX6_readNumber_47 (fun gr11 _ J12 => ?_)
    refine wq_iconst dX6_readNumber_50 ?_
    exact wq_zret rfl (by decide) rfl dX6_readNumber_51

noncomputable def f_Scr_readOpen_j28 (v1 : Int)   (I : Mem) : Option ((Int) × Mem) :=
bnd (f_Src_pass 4 I) fun x13 J12 =>
if (w32 x13) = 0 then
some (0, J12)
else
if 0 ≤ (w32 (J12 8 0 10)) ∧ (w32 (J12 8 0 10)) < 2 then
ltI (sI J12 21 5 (w32 (J12 8 0 10)).toNat v1) fun J15 =>
ltI (sI J15 8 0 10 ((J15 8 0 10) + 1)) fun J16 =>
some (1, J16)
else none

noncomputable def f_Scr_readOpen (a1 : Int) (I : Mem) : Option ((Int) × Mem) :=
bnd (f_Src_is 4 I) fun x3 J2 =>
if (w32 x3) = 0 then
f_Scr_readOpen_j28 a1 J2
else
if (w32 (J2 8 0 10)) < 2 then
f_Scr_readOpen_j28 a1 J2
else
bnd (f_Src_fail 5 J2) fun x7 J6 =>
if x7 = 0 ∨ x7 = 1 then
some (x7, J6)
else none
set_option maxRecDepth 20000 in
theorem R_Scr_readOpen (Z : ZT) (a1 : Int) (I : Mem) (r : Int) (J : Mem) (hf : f_Scr_readOpen a1 I = some (r, J)) : Runs Z yX6_readOpen cX6_readOpen 2 (some .boolean) 4 [vr Z 8 0, vi a1] I (some (vi r), J) := by
  refine Runs.of (rv := fun x => some (vi x)) (by decide +kernel) (Nat.le_of_ble_eq_true rfl) hf (fun gr => ?_)
  unfold f_Scr_readOpen
  refine WQ.loc [0, 1] (lv' := [(0, vr Z 8 0), (1, vi a1)]) rfl ?_
  refine wq_aload_n dX6_readOpen_0 0 rfl rfl ?_
  refine g_8_0 ln_RX6_36 dX6_readOpen_1 ?_
  refine wq_iconst dX6_readOpen_4 ?_
  refine wq_cVi M_Src_is (R_Src_is Z 4 _) ob_6 rfl rfl (by decide) (by decide) (Nat.le_of_ble_eq_true rfl) ln_RX6_59 dX6_readOpen_5 (fun gr1 x3 J2 => ?_)
  have hj4 : ∀ (gr19 : Nat → Nat)   (J18 : Mem), WQ Z (yX6_readOpen, cX6_readOpen, 2, some .boolean, 4) I gr19 28 [(0, vr Z 8 0), (1, vi a1)] [] J18 (f_Scr_readOpen_j28 a1 J18) (fun b K => some (.inl ((fun x => some (vi x)) b), K)) := by
    intro gr19 J18
    unfold f_Scr_readOpen_j28
    refine wq_aload_n dX6_readOpen_28 0 rfl rfl ?_
    refine g_8_0 ln_RX6_36 dX6_readOpen_29 ?_
    refine wq_iconst dX6_readOpen_32 ?_
    refine wq_cVi M_Src_pass (R_Src_pass Z 4 _) ob_6 rfl rfl (by decide) (by decide) (Nat.le_of_ble_eq_true rfl) ln_RX6_83 dX6_readOpen_33 (fun gr20 x22 J21 => ?_)
    refine wq_if_ne 41 dX6_readOpen_36 (by decide) rfl (fun c26 => ?_) (fun c26 => ?_)
    · refine wq_iconst dX6_readOpen_39 ?_
      exact wq_zret rfl (by decide) rfl dX6_readOpen_40
    · refine wq_aload_n dX6_readOpen_41 0 rfl rfl ?_
      refine g_8_7 ln_RX6_33 dX6_readOpen_42 ?_
      refine wq_aload_n dX6_readOpen_45 0 rfl rfl ?_
      refine g_8_10 ln_RX6_51 dX6_readOpen_46 ?_
      refine wq_iload_n dX6_readOpen_49 1 rfl rfl ?_
      refine wq_grd (fun g23 => ?_)
      refine wq_iast (k := 21) (i := 5) (fun _ _ => rfl) (by decide) rfl rfl (m := 2) g23 (by decide) (by decide) (by decide) (by decide) dX6_readOpen_50 (fun J24 => ?_)
      refine wq_aload_n dX6_readOpen_51 0 rfl rfl ?_
      refine wq_dup dX6_readOpen_52 rfl ?_
      refine g_8_10 ln_RX6_51 dX6_readOpen_53 ?_
      refine wq_iconst dX6_readOpen_56 ?_
      refine wq_iadd dX6_readOpen_57 ?_
      refine p_8_10 ln_RX6_51 dX6_readOpen_58 (fun J25 => ?_)
      refine wq_iconst dX6_readOpen_61 ?_
      exact wq_zret rfl (by decide) rfl dX6_readOpen_62
  refine wq_if_eq 28 dX6_readOpen_8 (by decide) rfl (fun c10 => ?_) (fun c10 => ?_)
  · exact WQ.loc [0, 1] rfl (hj4 _   _)
  · refine wq_aload_n dX6_readOpen_11 0 rfl rfl ?_
    refine g_8_10 ln_RX6_51 dX6_readOpen_12 ?_
    refine wq_iconst dX6_readOpen_15 ?_
    refine wq_icmp_lt 28 dX6_readOpen_16 (by decide) rfl rfl (fun c9 => ?_) (fun c9 => ?_)
    · exact WQ.loc [0, 1] rfl (hj4 _   _)
    · refine wq_aload_n dX6_readOpen_19 0 rfl rfl ?_
      refine g_8_0 ln_RX6_36 dX6_readOpen_20 ?_
      refine wq_iconst dX6_readOpen_23 ?_
      refine wq_cVi M_Src_fail (R_Src_fail Z 5 _) ob_6 rfl rfl (by decide) (by decide) (Nat.le_of_ble_eq_true rfl) ln_RX6_70 dX6_readOpen_24 (fun gr5 x7 J6 => ?_)
      refine wq_grd (fun g8 => ?_)
      exact wq_zret rfl g8 rfl dX6_readOpen_27

theorem M_Scr_orderFrom : MwV yX6_orderFrom cX6_orderFrom 4 (some .int) 1 := ⟨li_4 4 (by decide +kernel) (by decide +kernel), li_4 3 (by decide +kernel) (by decide +kernel), lw_in 20 (by decide +kernel) (by decide +kernel), li_1 9 (by decide +kernel) (by decide +kernel), by decide +kernel⟩
theorem ln_RX6_145 : Cond.methodLink RX6 145 yX6_orderFrom ∈ lw_good := li_4 1 (by decide +kernel) (by decide +kernel)
noncomputable def f_Scr_firstOrder  (I : Mem) : Option ((Int) × Mem) :=
bnd (f_Scr_orderFrom 0 I) fun x3 J2 =>
some (x3, J2)
set_option maxRecDepth 20000 in
theorem R_Scr_firstOrder (Z : ZT)  (I : Mem) (r : Int) (J : Mem) (hf : f_Scr_firstOrder I = some (r, J)) : Runs Z yX6_firstOrder cX6_firstOrder 1 (some .int) 3 [vr Z 8 0] I (some (vi r), J) := by
  refine Runs.of (rv := fun x => some (vi x)) (by decide +kernel) (Nat.le_of_ble_eq_true rfl) hf (fun gr => ?_)
  unfold f_Scr_firstOrder
  refine WQ.loc [0] (lv' := [(0, vr Z 8 0)]) rfl ?_
  refine wq_aload_n dX6_firstOrder_0 0 rfl rfl ?_
  refine wq_iconst dX6_firstOrder_1 ?_
  refine wq_cVi M_Scr_orderFrom (R_Scr_orderFrom Z 0 _) ob_8 rfl rfl (by decide) (by decide) (Nat.le_of_ble_eq_true rfl) ln_RX6_145 dX6_firstOrder_2 (fun gr1 x3 J2 => ?_)
  exact wq_iret rfl rfl dX6_firstOrder_5

noncomputable def f_Scr_orderBehind (a1 : Int) (I : Mem) : Option ((Int) × Mem) :=
bnd (f_Scr_orderFrom (a1 + 1) I) fun x3 J2 =>
some (x3, J2)
set_option maxRecDepth 20000 in
theorem R_Scr_orderBehind (Z : ZT) (a1 : Int) (I : Mem) (r : Int) (J : Mem) (hf : f_Scr_orderBehind a1 I = some (r, J)) : Runs Z yX6_orderBehind cX6_orderBehind 2 (some .int) 3 [vr Z 8 0, vi a1] I (some (vi r), J) := by
  refine Runs.of (rv := fun x => some (vi x)) (by decide +kernel) (Nat.le_of_ble_eq_true rfl) hf (fun gr => ?_)
  unfold f_Scr_orderBehind
  refine WQ.loc [0, 1] (lv' := [(0, vr Z 8 0), (1, vi a1)]) rfl ?_
  refine wq_aload_n dX6_orderBehind_0 0 rfl rfl ?_
  refine wq_iload_n dX6_orderBehind_1 1 rfl rfl ?_
  refine wq_iconst dX6_orderBehind_2 ?_
  refine wq_iadd dX6_orderBehind_3 ?_
  refine wq_cVi M_Scr_orderFrom (R_Scr_orderFrom Z (a1 + 1) _) ob_8 rfl rfl (by decide) (by decide) (Nat.le_of_ble_eq_true rfl) ln_RX6_145 dX6_orderBehind_4 (fun gr1 x3 J2 => ?_)
  exact wq_iret rfl rfl dX6_orderBehind_7

theorem ln_RX2_11 : Cond.fieldLink RX2 11 RX2 "past" "[LPairRules$Grammar;" ∈ lw_good := li_2 43 (by decide +kernel) (by decide +kernel)
theorem ln_RX2_27 : Cond.fieldLink RX2 27 RX2 "next" "I" ∈ lw_good := li_2 46 (by decide +kernel) (by decide +kernel)
theorem M_G_takeFrom : MwV yX1_takeFrom cX1_takeFrom 3 (none) 1 := ⟨li_3 159 (by decide +kernel) (by decide +kernel), li_3 157 (by decide +kernel) (by decide +kernel), li_3 158 (by decide +kernel) (by decide +kernel), li_1 2 (by decide +kernel) (by decide +kernel), by decide +kernel⟩
theorem ln_RX2_34 : Cond.methodLink RX2 34 Lib.Math.min.name ∈ lw_good := li_3 236 (by decide +kernel) (by decide +kernel)
theorem ln_RX2_30 : Cond.methodLink RX2 30 yX1_takeFrom ∈ lw_good := li_3 235 (by decide +kernel) (by decide +kernel)
noncomputable def f_His_remember_j35   (e0 : Int) (I : Mem) : Option ((Unit) × Mem) :=
ltI (sI I 9 0 3 e0) fun J8 =>
ltI (sI J8 9 0 4 (imn ((J8 9 0 4) + 1) 8)) fun J9 =>
some ((), J9)

noncomputable def f_His_remember (a1 : Nat) (I : Mem) : Option ((Unit) × Mem) :=
if a1 < 12 then
if 0 ≤ (w32 (I 9 0 3)) ∧ (w32 (I 9 0 3)) < 8 then
bnd (f_G_takeFrom (2 + (w32 (I 9 0 3)).toNat) a1 I) fun _ J4 =>
if (w32 ((J4 9 0 3) + 1)) < 8 then
f_His_remember_j35 ((J4 9 0 3) + 1) J4
else
f_His_remember_j35 0 J4
else none
else none
set_option maxRecDepth 20000 in
theorem R_His_remember (Z : ZT) (a1 : Nat) (I : Mem) (r : Unit) (J : Mem) (hf : f_His_remember a1 I = some (r, J)) : Runs Z yX2_remember cX2_remember 2 (none) 5 [vr Z 9 0, vr Z 1 a1] I (none, J) := by
  refine Runs.of (rv := fun _ => none) (by decide +kernel) (Nat.le_of_ble_eq_true rfl) hf (fun gr => ?_)
  unfold f_His_remember
  refine WQ.loc [0, 1] (lv' := [(0, vr Z 9 0), (1, vr Z 1 a1)]) rfl ?_
  refine wq_grd (fun h1 => ?_)
  refine wq_aload_n dX2_remember_0 0 rfl rfl ?_
  refine g_9_0 ln_RX2_11 dX2_remember_1 ?_
  refine wq_aload_n dX2_remember_4 0 rfl rfl ?_
  refine g_9_3 ln_RX2_27 dX2_remember_5 ?_
  refine wq_grd (fun g1 => ?_)
  refine wq_aald (k := 22) (i := 0) (t0 := 5) rfl rfl (by decide) rfl rfl (m := 8) g1 (Nat.le_refl _) dX2_remember_8 ?_
  have hb2 : (2 + (w32 (I 9 0 3)).toNat) < 12 := by omega
  refine wq_aload_n dX2_remember_9 1 rfl rfl ?_
  refine wq_cVv M_G_takeFrom (R_G_takeFrom Z (2 + (w32 (I 9 0 3)).toNat) a1 _) (ob_1 hb2) rfl rfl (by decide) (by decide) (Nat.le_of_ble_eq_true rfl) ln_RX2_30 dX2_remember_10 (fun gr3 _ J4 => ?_)
  refine wq_aload_n dX2_remember_13 0 rfl rfl ?_
  refine wq_aload_n dX2_remember_14 0 rfl rfl ?_
  refine g_9_3 ln_RX2_27 dX2_remember_15 ?_
  refine wq_iconst dX2_remember_18 ?_
  refine wq_iadd dX2_remember_19 ?_
  refine wq_bipush dX2_remember_20 (by decide) ?_
  have hj6 : ∀ (gr11 : Nat → Nat)  (hj6e0 : Int) (J10 : Mem), WQ Z (yX2_remember, cX2_remember, 2, none, 5) I gr11 35 [(0, vr Z 9 0)] [vi hj6e0, vr Z 9 0] J10 (f_His_remember_j35 hj6e0 J10) (fun b K => some (.inl ((fun _ => none) b), K)) := by
    intro gr11 hj6e0 J10
    unfold f_His_remember_j35
    refine p_9_3 ln_RX2_27 dX2_remember_35 (fun J12 => ?_)
    refine wq_aload_n dX2_remember_38 0 rfl rfl ?_
    refine wq_aload_n dX2_remember_39 0 rfl rfl ?_
    refine g_9_4 ln_RX2_23 dX2_remember_40 ?_
    refine wq_iconst dX2_remember_43 ?_
    refine wq_iadd dX2_remember_44 ?_
    refine wq_bipush dX2_remember_45 (by decide) ?_
    refine wq_min (by decide) (Nat.le_of_ble_eq_true rfl) ln_RX2_34 mt_min_s mt_i mt_min_c dX2_remember_47 ?_
    refine p_9_4 ln_RX2_23 dX2_remember_50 (fun J13 => ?_)
    exact wq_vret rfl rfl dX2_remember_53
  refine wq_icmp_ge 34 dX2_remember_22 (by decide) rfl rfl (fun c7 => ?_) (fun c7 => ?_)
  · refine wq_aload_n dX2_remember_25 0 rfl rfl ?_
    refine g_9_3 ln_RX2_27 dX2_remember_26 ?_
    refine wq_iconst dX2_remember_29 ?_
    refine wq_iadd dX2_remember_30 ?_
    refine wq_goto 35 dX2_remember_31 (by decide) ?_
    exact WQ.loc [0] rfl (hj6 _  _ _)
  · refine wq_iconst dX2_remember_34 ?_
    exact WQ.loc [0] rfl (hj6 _  _ _)

noncomputable def f_His_goBack_j26 (v1 : Nat)  (e0 : Int) (I : Mem) : Option ((Unit) × Mem) :=
ltI (sI I 9 0 3 e0) fun J3 =>
ltI (sI J3 9 0 4 ((J3 9 0 4) - 1)) fun J4 =>
if 0 ≤ (w32 (J4 9 0 3)) ∧ (w32 (J4 9 0 3)) < 8 then
bnd (f_G_takeFrom v1 (2 + (w32 (J4 9 0 3)).toNat) J4) fun _ J8 =>
some ((), J8)
else none

noncomputable def f_His_goBack (a1 : Nat) (I : Mem) : Option ((Unit) × Mem) :=
if a1 < 12 then
if 0 < (w32 (I 9 0 4)) then
if 0 < (w32 (I 9 0 3)) then
f_His_goBack_j26 a1 ((I 9 0 3) - 1) I
else
f_His_goBack_j26 a1 7 I
else
some ((), I)
else none
set_option maxRecDepth 20000 in
theorem R_His_goBack (Z : ZT) (a1 : Nat) (I : Mem) (r : Unit) (J : Mem) (hf : f_His_goBack a1 I = some (r, J)) : Runs Z yX2_goBack cX2_goBack 2 (none) 5 [vr Z 9 0, vr Z 1 a1] I (none, J) := by
  refine Runs.of (rv := fun _ => none) (by decide +kernel) (Nat.le_of_ble_eq_true rfl) hf (fun gr => ?_)
  unfold f_His_goBack
  refine WQ.loc [0, 1] (lv' := [(0, vr Z 9 0), (1, vr Z 1 a1)]) rfl ?_
  refine wq_grd (fun h1 => ?_)
  refine wq_aload_n dX2_goBack_0 0 rfl rfl ?_
  refine g_9_4 ln_RX2_23 dX2_goBack_1 ?_
  refine wq_if_le 52 dX2_goBack_4 (by decide) rfl (fun c19 => ?_) (fun c19 => ?_)
  · refine wq_aload_n dX2_goBack_7 0 rfl rfl ?_
    refine wq_aload_n dX2_goBack_8 0 rfl rfl ?_
    refine g_9_3 ln_RX2_27 dX2_goBack_9 ?_
    have hj1 : ∀ (gr11 : Nat → Nat)  (hj1e0 : Int) (J10 : Mem), WQ Z (yX2_goBack, cX2_goBack, 2, none, 5) I gr11 26 [(0, vr Z 9 0), (1, vr Z 1 a1)] [vi hj1e0, vr Z 9 0] J10 (f_His_goBack_j26 a1 hj1e0 J10) (fun b K => some (.inl ((fun _ => none) b), K)) := by
      intro gr11 hj1e0 J10
      unfold f_His_goBack_j26
      refine p_9_3 ln_RX2_27 dX2_goBack_26 (fun J12 => ?_)
      refine wq_aload_n dX2_goBack_29 0 rfl rfl ?_
      refine wq_dup dX2_goBack_30 rfl ?_
      refine g_9_4 ln_RX2_23 dX2_goBack_31 ?_
      refine wq_iconst dX2_goBack_34 ?_
      refine wq_isub dX2_goBack_35 ?_
      refine p_9_4 ln_RX2_23 dX2_goBack_36 (fun J13 => ?_)
      refine wq_aload_n dX2_goBack_39 1 rfl rfl ?_
      refine wq_aload_n dX2_goBack_40 0 rfl rfl ?_
      refine g_9_0 ln_RX2_11 dX2_goBack_41 ?_
      refine wq_aload_n dX2_goBack_44 0 rfl rfl ?_
      refine g_9_3 ln_RX2_27 dX2_goBack_45 ?_
      refine wq_grd (fun g14 => ?_)
      refine wq_aald (k := 22) (i := 0) (t0 := 5) rfl rfl (by decide) rfl rfl (m := 8) g14 (Nat.le_refl _) dX2_goBack_48 ?_
      have hb15 : (2 + (w32 (J13 9 0 3)).toNat) < 12 := by omega
      refine wq_cVv M_G_takeFrom (R_G_takeFrom Z a1 (2 + (w32 (J13 9 0 3)).toNat) _) (ob_1 h1) rfl rfl (by decide) (by decide) (Nat.le_of_ble_eq_true rfl) ln_RX2_30 dX2_goBack_49 (fun gr16 _ J17 => ?_)
      exact wq_vret rfl rfl dX2_goBack_52
    refine wq_if_le 24 dX2_goBack_12 (by decide) rfl (fun c2 => ?_) (fun c2 => ?_)
    · refine wq_aload_n dX2_goBack_15 0 rfl rfl ?_
      refine g_9_3 ln_RX2_27 dX2_goBack_16 ?_
      refine wq_iconst dX2_goBack_19 ?_
      refine wq_isub dX2_goBack_20 ?_
      refine wq_goto 26 dX2_goBack_21 (by decide) ?_
      exact WQ.loc [0, 1] rfl (hj1 _  _ _)
    · refine wq_bipush dX2_goBack_24 (by decide) ?_
      exact WQ.loc [0, 1] rfl (hj1 _  _ _)
  · exact wq_vret rfl rfl dX2_goBack_52

theorem ln_RX2_15 : Cond.fieldLink RX2 15 RX2 "kept" "[LPairRules$Grammar;" ∈ lw_good := li_2 44 (by decide +kernel) (by decide +kernel)
noncomputable def f_His_keep (a1 : Int) (a2 : Nat) (I : Mem) : Option ((Unit) × Mem) :=
if a2 < 12 then
if (w32 a1) < 0 then
some ((), I)
else
if (w32 a1) < 2 then
if 0 ≤ (w32 a1) ∧ (w32 a1) < 2 then
bnd (f_G_takeFrom (10 + (w32 a1).toNat) a2 I) fun _ J4 =>
ltI (sI J4 24 0 (w32 a1).toNat 1) fun J6 =>
some ((), J6)
else none
else
some ((), I)
else none
set_option maxRecDepth 20000 in
theorem R_His_keep (Z : ZT) (a1 : Int) (a2 : Nat) (I : Mem) (r : Unit) (J : Mem) (hf : f_His_keep a1 a2 I = some (r, J)) : Runs Z yX2_keep cX2_keep 3 (none) 5 [vr Z 9 0, vi a1, vr Z 1 a2] I (none, J) := by
  refine Runs.of (rv := fun _ => none) (by decide +kernel) (Nat.le_of_ble_eq_true rfl) hf (fun gr => ?_)
  unfold f_His_keep
  refine WQ.loc [0, 1, 2] (lv' := [(0, vr Z 9 0), (1, vi a1), (2, vr Z 1 a2)]) rfl ?_
  refine wq_grd (fun h2 => ?_)
  refine wq_iload_n dX2_keep_0 1 rfl rfl ?_
  refine wq_if_lt 26 dX2_keep_1 (by decide) rfl (fun c8 => ?_) (fun c8 => ?_)
  · exact wq_vret rfl rfl dX2_keep_26
  · refine wq_iload_n dX2_keep_4 1 rfl rfl ?_
    refine wq_iconst dX2_keep_5 ?_
    refine wq_icmp_ge 26 dX2_keep_6 (by decide) rfl rfl (fun c7 => ?_) (fun c7 => ?_)
    · refine wq_aload_n dX2_keep_9 0 rfl rfl ?_
      refine g_9_1 ln_RX2_15 dX2_keep_10 ?_
      refine wq_iload_n dX2_keep_13 1 rfl rfl ?_
      refine wq_grd (fun g1 => ?_)
      refine wq_aald (k := 23) (i := 0) (t0 := 5) rfl rfl (by decide) rfl rfl (m := 2) g1 (Nat.le_refl _) dX2_keep_14 ?_
      have hb2 : (10 + (w32 a1).toNat) < 12 := by omega
      refine wq_aload_n dX2_keep_15 2 rfl rfl ?_
      refine wq_cVv M_G_takeFrom (R_G_takeFrom Z (10 + (w32 a1).toNat) a2 _) (ob_1 hb2) rfl rfl (by decide) (by decide) (Nat.le_of_ble_eq_true rfl) ln_RX2_30 dX2_keep_16 (fun gr3 _ J4 => ?_)
      refine wq_aload_n dX2_keep_19 0 rfl rfl ?_
      refine g_9_2 ln_RX2_18 dX2_keep_20 ?_
      refine wq_iload_n dX2_keep_23 1 rfl rfl ?_
      refine wq_iconst dX2_keep_24 ?_
      refine wq_zast (k := 24) (i := 0) (fun _ => rfl) (by decide) rfl rfl (m := 2) g1 (Nat.le_refl _) rfl (by decide) (by decide) (by decide) dX2_keep_25 (fun J6 => ?_)
      exact wq_vret rfl rfl dX2_keep_26
    · exact wq_vret rfl rfl dX2_keep_26

theorem M_His_hasKept : MwV yX2_hasKept cX2_hasKept 2 (some .boolean) 1 := ⟨li_7 0 (by decide +kernel) (by decide +kernel), li_6 238 (by decide +kernel) (by decide +kernel), li_6 239 (by decide +kernel) (by decide +kernel), li_1 12 (by decide +kernel) (by decide +kernel), by decide +kernel⟩
theorem ln_RX2_40 : Cond.methodLink RX2 40 yX2_hasKept ∈ lw_good := li_7 5 (by decide +kernel) (by decide +kernel)
noncomputable def f_His_bringBack (a1 : Int) (a2 : Nat) (I : Mem) : Option ((Unit) × Mem) :=
if a2 < 12 then
bnd (f_His_hasKept a1 I) fun x3 J2 =>
if (w32 x3) = 0 then
some ((), J2)
else
if 0 ≤ (w32 a1) ∧ (w32 a1) < 2 then
bnd (f_G_takeFrom a2 (10 + (w32 a1).toNat) J2) fun _ J7 =>
some ((), J7)
else none
else none
set_option maxRecDepth 20000 in
theorem R_His_bringBack (Z : ZT) (a1 : Int) (a2 : Nat) (I : Mem) (r : Unit) (J : Mem) (hf : f_His_bringBack a1 a2 I = some (r, J)) : Runs Z yX2_bringBack cX2_bringBack 3 (none) 5 [vr Z 9 0, vi a1, vr Z 1 a2] I (none, J) := by
  refine Runs.of (rv := fun _ => none) (by decide +kernel) (Nat.le_of_ble_eq_true rfl) hf (fun gr => ?_)
  unfold f_His_bringBack
  refine WQ.loc [0, 1, 2] (lv' := [(0, vr Z 9 0), (1, vi a1), (2, vr Z 1 a2)]) rfl ?_
  refine wq_grd (fun h2 => ?_)
  refine wq_aload_n dX2_bringBack_0 0 rfl rfl ?_
  refine wq_iload_n dX2_bringBack_1 1 rfl rfl ?_
  refine wq_cVi M_His_hasKept (R_His_hasKept Z a1 _) ob_9 rfl rfl (by decide) (by decide) (Nat.le_of_ble_eq_true rfl) ln_RX2_40 dX2_bringBack_2 (fun gr1 x3 J2 => ?_)
  refine wq_if_eq 18 dX2_bringBack_5 (by decide) rfl (fun c9 => ?_) (fun c9 => ?_)
  · exact wq_vret rfl rfl dX2_bringBack_18
  · refine wq_aload_n dX2_bringBack_8 2 rfl rfl ?_
    refine wq_aload_n dX2_bringBack_9 0 rfl rfl ?_
    refine g_9_1 ln_RX2_15 dX2_bringBack_10 ?_
    refine wq_iload_n dX2_bringBack_13 1 rfl rfl ?_
    refine wq_grd (fun g4 => ?_)
    refine wq_aald (k := 23) (i := 0) (t0 := 5) rfl rfl (by decide) rfl rfl (m := 2) g4 (Nat.le_refl _) dX2_bringBack_14 ?_
    have hb5 : (10 + (w32 a1).toNat) < 12 := by omega
    refine wq_cVv M_G_takeFrom (R_G_takeFrom Z a2 (10 + (w32 a1).toNat) _) (ob_1 h2) rfl rfl (by decide) (by decide) (Nat.le_of_ble_eq_true rfl) ln_RX2_30 dX2_bringBack_15 (fun gr6 _ J7 => ?_)
    exact wq_vret rfl rfl dX2_bringBack_18

theorem ln_RX4_44 : Cond.methodLink RX4 44 yX5_many ∈ lw_good := li_5 108 (by decide +kernel) (by decide +kernel)
theorem M_Rep_putNumber : MwV yX4_putNumber cX4_putNumber 2 (none) 1 := ⟨li_5 119 (by decide +kernel) (by decide +kernel), li_5 118 (by decide +kernel) (by decide +kernel), lw_in 43 (by decide +kernel) (by decide +kernel), li_1 13 (by decide +kernel) (by decide +kernel), by decide +kernel⟩
theorem ln_RX4_37 : Cond.methodLink RX4 37 yX4_putNumber ∈ lw_good := li_5 116 (by decide +kernel) (by decide +kernel)
theorem ln_RX4_49 : Cond.methodLink RX4 49 yX5_at ∈ lw_good := li_5 109 (by decide +kernel) (by decide +kernel)
noncomputable def f_Rep_putRow_w2 (v1 : Nat) (s : Int) (I : Mem) : Option (((Int) ⊕ (Unit)) × Mem) :=
if (w32 s) < (w32 (I 2 v1 1)) then
bnd (f_Row_at v1 s I) fun x4 J3 =>
if (w32 x4) < 26 then
bnd (f_Rep_put (97 + x4) J3) fun _ J15 =>
some (.inl (s + 1), J15)
else
bnd (f_Rep_put 40 J3) fun _ J6 =>
bnd (f_Rep_putNumber (x4 - 26) J6) fun _ J9 =>
bnd (f_Rep_put 41 J9) fun _ J12 =>
some (.inl (s + 1), J12)
else
some (.inr (), I)

noncomputable def f_Rep_putRow (a1 : Nat) (I : Mem) : Option ((Unit) × Mem) :=
if a1 < 516 then
bnd (whl (f_Rep_putRow_w2 a1) 0 I) fun r44 J45 =>
some ((), J45)
else none
set_option maxRecDepth 20000 in
theorem R_Rep_putRow (Z : ZT) (a1 : Nat) (I : Mem) (r : Unit) (J : Mem) (hf : f_Rep_putRow a1 I = some (r, J)) : Runs Z yX4_putRow cX4_putRow 4 (none) 3 [vr Z 10 0, vr Z 2 a1] I (none, J) := by
  refine Runs.of (rv := fun _ => none) (by decide +kernel) (Nat.le_of_ble_eq_true rfl) hf (fun gr => ?_)
  unfold f_Rep_putRow
  refine WQ.loc [0, 1] (lv' := [(0, vr Z 10 0), (1, vr Z 2 a1)]) rfl ?_
  refine wq_grd (fun h1 => ?_)
  refine wq_iconst dX4_putRow_0 ?_
  refine wq_istore_n (lv' := [(2, vi 0), (0, vr Z 10 0), (1, vr Z 2 a1)]) dX4_putRow_1 rfl (by decide) rfl ?_
  refine WQ.loc [1, 2, 0] (lv' := [(0, vr Z 10 0), (1, vr Z 2 a1), (2, vi 0)]) rfl ?_
  refine wq_loopS (fun s25 => [(0, vr Z 10 0), (1, vr Z 2 a1), (2, vi s25)]) 59 (fun _ => []) (fun κ19 bk20 ex21 gr24 s25 J23 => ?_) (fun gr46 r44 J45 => ?_) gr _ rfl
  · unfold f_Rep_putRow_w2
    refine wq_iload_n dX4_putRow_2 2 rfl rfl ?_
    refine wq_aload_n dX4_putRow_3 1 rfl rfl ?_
    refine wq_pV (v := vi (J23 2 a1 1)) M_Row_many (R_Row_many Z a1 _ _ _ (if_pos h1)) (ob_2 h1) rfl rfl (by decide) (by decide) (Nat.le_of_ble_eq_true rfl) ln_RX4_44 dX4_putRow_4 (fun gr26 => ?_)
    refine wq_icmp_ge 59 dX4_putRow_7 (by decide) rfl rfl (fun c43 => ?_) (fun c43 => ?_)
    · refine wq_aload_n dX4_putRow_10 1 rfl rfl ?_
      refine wq_iload_n dX4_putRow_11 2 rfl rfl ?_
      refine wq_cVi M_Row_at (R_Row_at Z a1 s25 _) (ob_2 h1) rfl rfl (by decide) (by decide) (Nat.le_of_ble_eq_true rfl) ln_RX4_49 dX4_putRow_12 (fun gr27 x29 J28 => ?_)
      refine wq_istore_n (lv' := [(3, vi x29), (0, vr Z 10 0), (1, vr Z 2 a1), (2, vi s25)]) dX4_putRow_15 rfl (by decide) rfl ?_
      refine wq_iload_n dX4_putRow_16 0 rfl rfl ?_
      refine wq_bipush dX4_putRow_17 (by decide) ?_
      refine wq_icmp_ge 33 dX4_putRow_19 (by decide) rfl rfl (fun c42 => ?_) (fun c42 => ?_)
      · refine wq_aload_n dX4_putRow_22 1 rfl rfl ?_
        refine wq_bipush dX4_putRow_23 (by decide) ?_
        refine wq_iload_n dX4_putRow_25 0 rfl rfl ?_
        refine wq_iadd dX4_putRow_26 ?_
        refine wq_cVv M_Rep_put (R_Rep_put Z (97 + x29) _) ob_10 rfl rfl (by decide) (by decide) (Nat.le_of_ble_eq_true rfl) ln_RX4_33 dX4_putRow_27 (fun gr39 _ J40 => ?_)
        refine wq_goto 53 dX4_putRow_30 (by decide) ?_
        refine wq_iinc (lv' := [(2, vi (s25 + 1)), (3, vi x29), (0, vr Z 10 0), (1, vr Z 2 a1)]) dX4_putRow_53 3 rfl (by decide) rfl ?_
        refine wq_goto 2 dX4_putRow_56 (by decide) ?_
        exact WQ.loc [2, 3, 0] rfl (bk20 _ _ _)
      · refine wq_aload_n dX4_putRow_33 1 rfl rfl ?_
        refine wq_bipush dX4_putRow_34 (by decide) ?_
        refine wq_cVv M_Rep_put (R_Rep_put Z 40 _) ob_10 rfl rfl (by decide) (by decide) (Nat.le_of_ble_eq_true rfl) ln_RX4_33 dX4_putRow_36 (fun gr30 _ J31 => ?_)
        refine wq_aload_n dX4_putRow_39 1 rfl rfl ?_
        refine wq_iload_n dX4_putRow_40 0 rfl rfl ?_
        refine wq_bipush dX4_putRow_41 (by decide) ?_
        refine wq_isub dX4_putRow_43 ?_
        refine wq_cVv M_Rep_putNumber (R_Rep_putNumber Z (x29 - 26) _) ob_10 rfl rfl (by decide) (by decide) (Nat.le_of_ble_eq_true rfl) ln_RX4_37 dX4_putRow_44 (fun gr33 _ J34 => ?_)
        refine wq_aload_n dX4_putRow_47 1 rfl rfl ?_
        refine wq_bipush dX4_putRow_48 (by decide) ?_
        refine wq_cVv M_Rep_put (R_Rep_put Z 41 _) ob_10 rfl rfl (by decide) (by decide) (Nat.le_of_ble_eq_true rfl) ln_RX4_33 dX4_putRow_50 (fun gr36 _ J37 => ?_)
        refine wq_iinc (lv' := [(2, vi (s25 + 1)), (3, vi x29), (0, vr Z 10 0), (1, vr Z 2 a1)]) dX4_putRow_53 3 rfl (by decide) rfl ?_
        refine wq_goto 2 dX4_putRow_56 (by decide) ?_
        exact WQ.loc [2, 3, 0] rfl (bk20 _ _ _)
    · exact WQ.loc [] rfl (ex21 _ _ _)
  · exact wq_vret rfl rfl dX4_putRow_59
