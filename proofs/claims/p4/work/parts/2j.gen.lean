noncomputable def f_M_bytesIn (a0 : Int) (I : Mem) : Option ((Int) × Mem) :=
bnd (f_M_one (if 0 < (w32 (ian (isr a0 24) 255)) then 1 else 0) I) fun x3 J2 =>
bnd (f_M_one (if 0 < (w32 (ian (isr a0 16) 255)) then 1 else 0) J2) fun x6 J5 =>
bnd (f_M_one (if 0 < (w32 (ian (isr a0 8) 255)) then 1 else 0) J5) fun x9 J8 =>
bnd (f_M_one (if 0 < (w32 (ian a0 255)) then 1 else 0) J8) fun x12 J11 =>
some ((((x3 + x6) + x9) + x12), J11)
set_option maxRecDepth 20000 in
theorem R_M_bytesIn (Z : ZT) (a0 : Int) (I : Mem) (r : Int) (J : Mem) (hf : f_M_bytesIn a0 I = some (r, J)) : Runs Z yX13_bytesIn cX13_bytesIn 1 (some .int) 2 [vi a0] I (some (vi r), J) := by
  refine Runs.of (rv := fun x => some (vi x)) (by decide +kernel) (Nat.le_of_ble_eq_true rfl) hf (fun gr => ?_)
  unfold f_M_bytesIn
  refine WQ.loc [0] (lv' := [(0, vi a0)]) rfl ?_
  refine wq_iload_n dX13_bytesIn_0 0 rfl rfl ?_
  refine wq_bipush dX13_bytesIn_1 (by decide) ?_
  refine wq_ishr dX13_bytesIn_3 ?_
  refine wq_sipush dX13_bytesIn_4 (by decide) ?_
  refine wq_iand dX13_bytesIn_7 ?_
  refine WQ.via 16 [vi (if 0 < (w32 (ian (isr a0 24) 255)) then 1 else 0)] (by
      refine wq_cSi M_M_one (R_M_one Z (if 0 < (w32 (ian (isr a0 24) 255)) then 1 else 0) _) rfl rfl rfl (by decide) (by decide) (Nat.le_of_ble_eq_true rfl) ln_RX13_115 dX13_bytesIn_16 (fun gr1 x3 J2 => ?_)
      refine wq_iload_n dX13_bytesIn_19 0 rfl rfl ?_
      refine wq_bipush dX13_bytesIn_20 (by decide) ?_
      refine wq_ishr dX13_bytesIn_22 ?_
      refine wq_sipush dX13_bytesIn_23 (by decide) ?_
      refine wq_iand dX13_bytesIn_26 ?_
      refine WQ.via 35 [vi (if 0 < (w32 (ian (isr a0 16) 255)) then 1 else 0), vi x3] (by
          refine wq_cSi M_M_one (R_M_one Z (if 0 < (w32 (ian (isr a0 16) 255)) then 1 else 0) _) rfl rfl rfl (by decide) (by decide) (Nat.le_of_ble_eq_true rfl) ln_RX13_115 dX13_bytesIn_35 (fun gr4 x6 J5 => ?_)
          refine wq_iadd dX13_bytesIn_38 ?_
          refine wq_iload_n dX13_bytesIn_39 0 rfl rfl ?_
          refine wq_bipush dX13_bytesIn_40 (by decide) ?_
          refine wq_ishr dX13_bytesIn_42 ?_
          refine wq_sipush dX13_bytesIn_43 (by decide) ?_
          refine wq_iand dX13_bytesIn_46 ?_
          refine WQ.via 55 [vi (if 0 < (w32 (ian (isr a0 8) 255)) then 1 else 0), vi (x3 + x6)] (by
              refine wq_cSi M_M_one (R_M_one Z (if 0 < (w32 (ian (isr a0 8) 255)) then 1 else 0) _) rfl rfl rfl (by decide) (by decide) (Nat.le_of_ble_eq_true rfl) ln_RX13_115 dX13_bytesIn_55 (fun gr7 x9 J8 => ?_)
              refine wq_iadd dX13_bytesIn_58 ?_
              refine wq_iload_n dX13_bytesIn_59 0 rfl rfl ?_
              refine wq_sipush dX13_bytesIn_60 (by decide) ?_
              refine wq_iand dX13_bytesIn_63 ?_
              refine WQ.via 72 [vi (if 0 < (w32 (ian a0 255)) then 1 else 0), vi ((x3 + x6) + x9)] (by
                  refine wq_cSi M_M_one (R_M_one Z (if 0 < (w32 (ian a0 255)) then 1 else 0) _) rfl rfl rfl (by decide) (by decide) (Nat.le_of_ble_eq_true rfl) ln_RX13_115 dX13_bytesIn_72 (fun gr10 x12 J11 => ?_)
                  refine wq_iadd dX13_bytesIn_75 ?_
                  exact wq_iret rfl rfl dX13_bytesIn_76) (fun hj13 => ?_)
              refine WQ.both (0 < (w32 (ian a0 255))) ?_
              refine wq_if_le 71 dX13_bytesIn_64 (by decide) rfl (fun c14 => ?_) (fun c14 => ?_)
              · refine wq_iconst dX13_bytesIn_67 ?_
                refine wq_goto 72 dX13_bytesIn_68 (by decide) ?_
                exact WQ.top (if_pos c14) hj13
              · refine wq_iconst dX13_bytesIn_71 ?_
                exact WQ.top (if_neg c14) hj13) (fun hj15 => ?_)
          refine WQ.both (0 < (w32 (ian (isr a0 8) 255))) ?_
          refine wq_if_le 54 dX13_bytesIn_47 (by decide) rfl (fun c16 => ?_) (fun c16 => ?_)
          · refine wq_iconst dX13_bytesIn_50 ?_
            refine wq_goto 55 dX13_bytesIn_51 (by decide) ?_
            exact WQ.top (if_pos c16) hj15
          · refine wq_iconst dX13_bytesIn_54 ?_
            exact WQ.top (if_neg c16) hj15) (fun hj17 => ?_)
      refine WQ.both (0 < (w32 (ian (isr a0 16) 255))) ?_
      refine wq_if_le 34 dX13_bytesIn_27 (by decide) rfl (fun c18 => ?_) (fun c18 => ?_)
      · refine wq_iconst dX13_bytesIn_30 ?_
        refine wq_goto 35 dX13_bytesIn_31 (by decide) ?_
        exact WQ.top (if_pos c18) hj17
      · refine wq_iconst dX13_bytesIn_34 ?_
        exact WQ.top (if_neg c18) hj17) (fun hj19 => ?_)
  refine WQ.both (0 < (w32 (ian (isr a0 24) 255))) ?_
  refine wq_if_le 15 dX13_bytesIn_8 (by decide) rfl (fun c20 => ?_) (fun c20 => ?_)
  · refine wq_iconst dX13_bytesIn_11 ?_
    refine wq_goto 16 dX13_bytesIn_12 (by decide) ?_
    exact WQ.top (if_pos c20) hj19
  · refine wq_iconst dX13_bytesIn_15 ?_
    exact WQ.top (if_neg c20) hj19

theorem M_M_bytesIn : MwS yX13_bytesIn cX13_bytesIn 1 (some .int) 1 := ⟨li_7 193 (by decide +kernel) (by decide +kernel), li_7 192 (by decide +kernel) (by decide +kernel), li_1 16 (by decide +kernel) (by decide +kernel), by decide +kernel⟩
theorem M_M_feeds : MwV yX13_feeds cX13_feeds 4 (none) 1 := ⟨li_7 197 (by decide +kernel) (by decide +kernel), li_7 196 (by decide +kernel) (by decide +kernel), lw_in 56 (by decide +kernel) (by decide +kernel), li_1 16 (by decide +kernel) (by decide +kernel), by decide +kernel⟩
theorem ln_RX13_218 : Cond.methodLink RX13 218 yX13_feeds ∈ lw_good := li_7 194 (by decide +kernel) (by decide +kernel)
theorem ln_RX13_215 : Cond.methodLink RX13 215 yX13_bytesIn ∈ lw_good := li_7 191 (by decide +kernel) (by decide +kernel)
noncomputable def f_M_feed (a1 : Int) (a2 : Int) (a3 : Int) (a4 : Int) (a5 : Int) (I : Mem) : Option ((Int) × Mem) :=
ltI (sI I 26 0 7 0) fun J1 =>
bnd (f_M_bytesIn a1 J1) fun x4 J3 =>
bnd (f_M_bytesIn a2 J3) fun x7 J6 =>
bnd (f_M_bytesIn a3 J6) fun x10 J9 =>
bnd (f_M_bytesIn a4 J9) fun x13 J12 =>
bnd (f_M_bytesIn a5 J12) fun x16 J15 =>
if 600 < (w32 ((((((J1 26 0 20) + x4) + x7) + x10) + x13) + x16)) then
some ((-1), J15)
else
bnd (f_M_feeds a1 J15) fun _ J18 =>
bnd (f_M_feeds a2 J18) fun _ J21 =>
bnd (f_M_feeds a3 J21) fun _ J24 =>
bnd (f_M_feeds a4 J24) fun _ J27 =>
bnd (f_M_feeds a5 J27) fun _ J30 =>
some ((J30 26 0 20), J30)
set_option maxRecDepth 20000 in
theorem R_M_feed (Z : ZT) (a1 : Int) (a2 : Int) (a3 : Int) (a4 : Int) (a5 : Int) (I : Mem) (r : Int) (J : Mem) (hf : f_M_feed a1 a2 a3 a4 a5 I = some (r, J)) : Runs Z yX13_feed cX13_feed 6 (some .int) 3 [vr Z 26 0, vi a1, vi a2, vi a3, vi a4, vi a5] I (some (vi r), J) := by
  refine Runs.of (rv := fun x => some (vi x)) (by decide +kernel) (Nat.le_of_ble_eq_true rfl) hf (fun gr => ?_)
  unfold f_M_feed
  refine WQ.loc [0, 1, 2, 3, 4, 5] (lv' := [(0, vr Z 26 0), (1, vi a1), (2, vi a2), (3, vi a3), (4, vi a4), (5, vi a5)]) rfl ?_
  refine wq_aload_n dX13_feed_0 0 rfl rfl ?_
  refine wq_iconst dX13_feed_1 ?_
  refine p_26_7 ln_RX13_100 dX13_feed_2 (fun J1 => ?_)
  refine wq_aload_n dX13_feed_5 0 rfl rfl ?_
  refine g_26_20 ln_RX13_212 dX13_feed_6 ?_
  refine wq_iload_n dX13_feed_9 1 rfl rfl ?_
  refine wq_cSi M_M_bytesIn (R_M_bytesIn Z a1 _) rfl rfl rfl (by decide) (by decide) (Nat.le_of_ble_eq_true rfl) ln_RX13_215 dX13_feed_10 (fun gr2 x4 J3 => ?_)
  refine wq_iadd dX13_feed_13 ?_
  refine wq_iload_n dX13_feed_14 2 rfl rfl ?_
  refine wq_cSi M_M_bytesIn (R_M_bytesIn Z a2 _) rfl rfl rfl (by decide) (by decide) (Nat.le_of_ble_eq_true rfl) ln_RX13_215 dX13_feed_15 (fun gr5 x7 J6 => ?_)
  refine wq_iadd dX13_feed_18 ?_
  refine wq_iload_n dX13_feed_19 3 rfl rfl ?_
  refine wq_cSi M_M_bytesIn (R_M_bytesIn Z a3 _) rfl rfl rfl (by decide) (by decide) (Nat.le_of_ble_eq_true rfl) ln_RX13_215 dX13_feed_20 (fun gr8 x10 J9 => ?_)
  refine wq_iadd dX13_feed_23 ?_
  refine wq_iload dX13_feed_24 4 rfl ?_
  refine wq_cSi M_M_bytesIn (R_M_bytesIn Z a4 _) rfl rfl rfl (by decide) (by decide) (Nat.le_of_ble_eq_true rfl) ln_RX13_215 dX13_feed_26 (fun gr11 x13 J12 => ?_)
  refine wq_iadd dX13_feed_29 ?_
  refine wq_iload dX13_feed_30 5 rfl ?_
  refine wq_cSi M_M_bytesIn (R_M_bytesIn Z a5 _) rfl rfl rfl (by decide) (by decide) (Nat.le_of_ble_eq_true rfl) ln_RX13_215 dX13_feed_32 (fun gr14 x16 J15 => ?_)
  refine wq_iadd dX13_feed_35 ?_
  refine wq_sipush dX13_feed_36 (by decide) ?_
  refine wq_icmp_le 44 dX13_feed_39 (by decide) rfl rfl (fun c32 => ?_) (fun c32 => ?_)
  · refine wq_iconst dX13_feed_42 ?_
    exact wq_iret rfl rfl dX13_feed_43
  · refine wq_aload_n dX13_feed_44 0 rfl rfl ?_
    refine wq_iload_n dX13_feed_45 1 rfl rfl ?_
    refine wq_cVv M_M_feeds (R_M_feeds Z a1 _) ob_26 rfl rfl (by decide) (by decide) (Nat.le_of_ble_eq_true rfl) ln_RX13_218 dX13_feed_46 (fun gr17 _ J18 => ?_)
    refine wq_aload_n dX13_feed_49 0 rfl rfl ?_
    refine wq_iload_n dX13_feed_50 2 rfl rfl ?_
    refine wq_cVv M_M_feeds (R_M_feeds Z a2 _) ob_26 rfl rfl (by decide) (by decide) (Nat.le_of_ble_eq_true rfl) ln_RX13_218 dX13_feed_51 (fun gr20 _ J21 => ?_)
    refine wq_aload_n dX13_feed_54 0 rfl rfl ?_
    refine wq_iload_n dX13_feed_55 3 rfl rfl ?_
    refine wq_cVv M_M_feeds (R_M_feeds Z a3 _) ob_26 rfl rfl (by decide) (by decide) (Nat.le_of_ble_eq_true rfl) ln_RX13_218 dX13_feed_56 (fun gr23 _ J24 => ?_)
    refine wq_aload_n dX13_feed_59 0 rfl rfl ?_
    refine wq_iload dX13_feed_60 4 rfl ?_
    refine wq_cVv M_M_feeds (R_M_feeds Z a4 _) ob_26 rfl rfl (by decide) (by decide) (Nat.le_of_ble_eq_true rfl) ln_RX13_218 dX13_feed_62 (fun gr26 _ J27 => ?_)
    refine wq_aload_n dX13_feed_65 0 rfl rfl ?_
    refine wq_iload dX13_feed_66 5 rfl ?_
    refine wq_cVv M_M_feeds (R_M_feeds Z a5 _) ob_26 rfl rfl (by decide) (by decide) (Nat.le_of_ble_eq_true rfl) ln_RX13_218 dX13_feed_68 (fun gr29 _ J30 => ?_)
    refine wq_aload_n dX13_feed_71 0 rfl rfl ?_
    refine g_26_20 ln_RX13_212 dX13_feed_72 ?_
    exact wq_iret rfl rfl dX13_feed_75

noncomputable def f_M_byteAt (a1 : Int) (I : Mem) : Option ((Int) × Mem) :=
if (w32 a1) < (w32 (I 26 0 20)) then
if 0 ≤ (w32 a1) ∧ (w32 a1) < 600 then
some ((I 27 14 (w32 a1).toNat), I)
else none
else
some ((-1), I)
set_option maxRecDepth 20000 in
theorem R_M_byteAt (Z : ZT) (a1 : Int) (I : Mem) (r : Int) (J : Mem) (hf : f_M_byteAt a1 I = some (r, J)) : Runs Z yX13_byteAt cX13_byteAt 2 (some .int) 1 [vr Z 26 0, vi a1] I (some (vi r), J) := by
  refine Runs.of (rv := fun x => some (vi x)) (by decide +kernel) (Nat.le_of_ble_eq_true rfl) hf (fun gr => ?_)
  unfold f_M_byteAt
  refine WQ.loc [0, 1] (lv' := [(0, vr Z 26 0), (1, vi a1)]) rfl ?_
  refine wq_iload_n dX13_byteAt_0 1 rfl rfl ?_
  refine wq_aload_n dX13_byteAt_1 0 rfl rfl ?_
  refine g_26_20 ln_RX13_212 dX13_byteAt_2 ?_
  refine wq_icmp_ge 17 dX13_byteAt_5 (by decide) rfl rfl (fun c2 => ?_) (fun c2 => ?_)
  · refine wq_aload_n dX13_byteAt_8 0 rfl rfl ?_
    refine g_26_19 ln_RX13_58 dX13_byteAt_9 ?_
    refine wq_iload_n dX13_byteAt_12 1 rfl rfl ?_
    refine wq_grd (fun g1 => ?_)
    refine wq_iald (k := 27) (i := 14) rfl (by decide) rfl rfl (m := 600) g1 (Nat.le_of_ble_eq_true rfl) dX13_byteAt_13 ?_
    refine wq_goto 18 dX13_byteAt_14 (by decide) ?_
    exact wq_iret rfl rfl dX13_byteAt_18
  · refine wq_iconst dX13_byteAt_17 ?_
    exact wq_iret rfl rfl dX13_byteAt_18

theorem M_M_byteAt : MwV yX13_byteAt cX13_byteAt 2 (some .int) 1 := ⟨li_7 220 (by decide +kernel) (by decide +kernel), li_7 219 (by decide +kernel) (by decide +kernel), lw_in 60 (by decide +kernel) (by decide +kernel), li_1 16 (by decide +kernel) (by decide +kernel), by decide +kernel⟩
theorem M_M_in : MwS yX13_in cX13_in 3 (some .boolean) 3 := ⟨li_7 227 (by decide +kernel) (by decide +kernel), li_7 226 (by decide +kernel) (by decide +kernel), li_1 16 (by decide +kernel) (by decide +kernel), by decide +kernel⟩
theorem ln_RX13_224 : Cond.methodLink RX13 224 yX13_in ∈ lw_good := li_7 225 (by decide +kernel) (by decide +kernel)
theorem ln_RX13_221 : Cond.methodLink RX13 221 yX13_byteAt ∈ lw_good := li_7 217 (by decide +kernel) (by decide +kernel)
noncomputable def f_M_isLetterAt (a1 : Int) (I : Mem) : Option ((Int) × Mem) :=
bnd (f_M_byteAt a1 I) fun x3 J2 =>
bnd (f_M_in x3 97 122 J2) fun x6 J5 =>
if x6 = 0 ∨ x6 = 1 then
some (x6, J5)
else none
set_option maxRecDepth 20000 in
theorem R_M_isLetterAt (Z : ZT) (a1 : Int) (I : Mem) (r : Int) (J : Mem) (hf : f_M_isLetterAt a1 I = some (r, J)) : Runs Z yX13_isLetterAt cX13_isLetterAt 2 (some .boolean) 2 [vr Z 26 0, vi a1] I (some (vi r), J) := by
  refine Runs.of (rv := fun x => some (vi x)) (by decide +kernel) (Nat.le_of_ble_eq_true rfl) hf (fun gr => ?_)
  unfold f_M_isLetterAt
  refine WQ.loc [0, 1] (lv' := [(0, vr Z 26 0), (1, vi a1)]) rfl ?_
  refine wq_aload_n dX13_isLetterAt_0 0 rfl rfl ?_
  refine wq_iload_n dX13_isLetterAt_1 1 rfl rfl ?_
  refine wq_cVi M_M_byteAt (R_M_byteAt Z a1 _) ob_26 rfl rfl (by decide) (by decide) (Nat.le_of_ble_eq_true rfl) ln_RX13_221 dX13_isLetterAt_2 (fun gr1 x3 J2 => ?_)
  refine wq_bipush dX13_isLetterAt_5 (by decide) ?_
  refine wq_bipush dX13_isLetterAt_7 (by decide) ?_
  refine wq_cSi M_M_in (R_M_in Z x3 97 122 _) rfl rfl rfl (by decide) (by decide) (Nat.le_of_ble_eq_true rfl) ln_RX13_224 dX13_isLetterAt_9 (fun gr4 x6 J5 => ?_)
  refine wq_grd (fun g7 => ?_)
  exact wq_zret rfl g7 rfl dX13_isLetterAt_12

noncomputable def f_M_isDigitAt (a1 : Int) (I : Mem) : Option ((Int) × Mem) :=
bnd (f_M_byteAt a1 I) fun x3 J2 =>
bnd (f_M_in x3 48 57 J2) fun x6 J5 =>
if x6 = 0 ∨ x6 = 1 then
some (x6, J5)
else none
set_option maxRecDepth 20000 in
theorem R_M_isDigitAt (Z : ZT) (a1 : Int) (I : Mem) (r : Int) (J : Mem) (hf : f_M_isDigitAt a1 I = some (r, J)) : Runs Z yX13_isDigitAt cX13_isDigitAt 2 (some .boolean) 2 [vr Z 26 0, vi a1] I (some (vi r), J) := by
  refine Runs.of (rv := fun x => some (vi x)) (by decide +kernel) (Nat.le_of_ble_eq_true rfl) hf (fun gr => ?_)
  unfold f_M_isDigitAt
  refine WQ.loc [0, 1] (lv' := [(0, vr Z 26 0), (1, vi a1)]) rfl ?_
  refine wq_aload_n dX13_isDigitAt_0 0 rfl rfl ?_
  refine wq_iload_n dX13_isDigitAt_1 1 rfl rfl ?_
  refine wq_cVi M_M_byteAt (R_M_byteAt Z a1 _) ob_26 rfl rfl (by decide) (by decide) (Nat.le_of_ble_eq_true rfl) ln_RX13_221 dX13_isDigitAt_2 (fun gr1 x3 J2 => ?_)
  refine wq_bipush dX13_isDigitAt_5 (by decide) ?_
  refine wq_bipush dX13_isDigitAt_7 (by decide) ?_
  refine wq_cSi M_M_in (R_M_in Z x3 48 57 _) rfl rfl rfl (by decide) (by decide) (Nat.le_of_ble_eq_true rfl) ln_RX13_224 dX13_isDigitAt_9 (fun gr4 x6 J5 => ?_)
  refine wq_grd (fun g7 => ?_)
  exact wq_zret rfl g7 rfl dX13_isDigitAt_12

theorem ln_RX13_228 : Cond.fieldLink RX13 228 RX13 "next" "I" ∈ lw_good := li_7 76 (by decide +kernel) (by decide +kernel)
theorem ln_RX13_231 : Cond.fieldLink RX13 231 RX13 "begin" "I" ∈ lw_good := li_7 75 (by decide +kernel) (by decide +kernel)
theorem ln_RX13_234 : Cond.fieldLink RX13 234 RX13 "value" "I" ∈ lw_good := li_7 78 (by decide +kernel) (by decide +kernel)
theorem M_M_isLetterAt : MwV yX13_isLetterAt cX13_isLetterAt 2 (some .boolean) 1 := ⟨li_7 224 (by decide +kernel) (by decide +kernel), li_7 223 (by decide +kernel) (by decide +kernel), lw_in 61 (by decide +kernel) (by decide +kernel), li_1 16 (by decide +kernel) (by decide +kernel), by decide +kernel⟩
theorem M_M_isDigitAt : MwV yX13_isDigitAt cX13_isDigitAt 2 (some .boolean) 1 := ⟨li_7 231 (by decide +kernel) (by decide +kernel), li_7 230 (by decide +kernel) (by decide +kernel), lw_in 62 (by decide +kernel) (by decide +kernel), li_1 16 (by decide +kernel) (by decide +kernel), by decide +kernel⟩
theorem ln_RX13_237 : Cond.fieldLink RX13 237 RX13 "token" "I" ∈ lw_good := li_7 77 (by decide +kernel) (by decide +kernel)
theorem ln_RX13_246 : Cond.constant RX13 246 (Int32.ofInt 1000000) ∈ lw_good := li_7 232 (by decide +kernel) (by decide +kernel)
theorem ln_RX13_243 : Cond.methodLink RX13 243 yX13_isDigitAt ∈ lw_good := li_7 228 (by decide +kernel) (by decide +kernel)
theorem ln_RX13_240 : Cond.methodLink RX13 240 yX13_isLetterAt ∈ lw_good := li_7 221 (by decide +kernel) (by decide +kernel)
noncomputable def f_M_advance_j26    (I : Mem) : Option (((Unit) ⊕ (Unit)) × Mem) :=
ltI (sI I 26 0 22 ((I 26 0 22) + 1)) fun J10 =>
some (.inl (), J10)

noncomputable def f_M_advance_w0  (s : Unit) (I : Mem) : Option (((Unit) ⊕ (Unit)) × Mem) :=
bnd (f_M_byteAt (I 26 0 22) I) fun x3 J2 =>
if (w32 x3) = 32 then
f_M_advance_j26 J2
else
bnd (f_M_byteAt (J2 26 0 22) J2) fun x7 J6 =>
if (w32 x7) = 10 then
f_M_advance_j26 J6
else
some (.inr (), J6)

noncomputable def f_M_advance_j228   (e0 : Int) (I : Mem) : Option ((Unit) × Mem) :=
ltI (sI I 26 0 23 e0) fun J50 =>
ltI (sI J50 26 0 22 ((J50 26 0 22) + 1)) fun J51 =>
some ((), J51)

noncomputable def f_M_advance_j223    (I : Mem) : Option ((Unit) × Mem) :=
f_M_advance_j228 3 I

noncomputable def f_M_advance_j178   (e0 : Int) (I : Mem) : Option (((Unit) ⊕ (Unit)) × Mem) :=
ltI (sI I 26 0 24 e0) fun J65 =>
ltI (sI J65 26 0 22 ((J65 26 0 22) + 1)) fun J66 =>
some (.inl (), J66)

noncomputable def f_M_advance_w127  (s : Unit) (I : Mem) : Option (((Unit) ⊕ (Unit)) × Mem) :=
bnd (f_M_isDigitAt (I 26 0 22) I) fun x61 J60 =>
if (w32 x61) = 0 then
some (.inr (), J60)
else
if (w32 ((J60 26 0 22) - (J60 26 0 21))) < 6 then
if 0 ≤ (w32 (J60 26 0 22)) ∧ (w32 (J60 26 0 22)) < 600 then
f_M_advance_j178 (((10 * (J60 26 0 24)) + (J60 27 14 (w32 (J60 26 0 22)).toNat)) - 48) J60
else none
else
f_M_advance_j178 1000000 J60

noncomputable def f_M_advance_w87  (s : Unit) (I : Mem) : Option (((Unit) ⊕ (Unit)) × Mem) :=
bnd (f_M_isLetterAt (I 26 0 22) I) fun x97 J96 =>
if (w32 x97) = 0 then
some (.inr (), J96)
else
ltI (sI J96 26 0 22 ((J96 26 0 22) + 1)) fun J98 =>
some (.inl (), J98)

noncomputable def f_M_advance  (I : Mem) : Option ((Unit) × Mem) :=
bnd (whl (f_M_advance_w0) () I) fun r33 J34 =>
ltI (sI J34 26 0 21 (J34 26 0 22)) fun J36 =>
ltI (sI J36 26 0 24 0) fun J37 =>
if (w32 (J37 26 0 21)) = (w32 (J37 26 0 20)) then
ltI (sI J37 26 0 23 0) fun J116 =>
some ((), J116)
else
bnd (f_M_isLetterAt (J37 26 0 21) J37) fun x40 J39 =>
if (w32 x40) = 0 then
bnd (f_M_isDigitAt (J39 26 0 21) J39) fun x43 J42 =>
if (w32 x43) = 0 then
if 0 ≤ (w32 (J42 26 0 21)) ∧ (w32 (J42 26 0 21)) < 600 then
if (w32 (J42 27 14 (w32 (J42 26 0 21)).toNat)) = 59 then
f_M_advance_j223 J42
else
if (w32 (J42 27 14 (w32 (J42 26 0 21)).toNat)) = 40 then
f_M_advance_j223 J42
else
if (w32 (J42 27 14 (w32 (J42 26 0 21)).toNat)) = 41 then
f_M_advance_j223 J42
else
f_M_advance_j228 4 J42
else none
else
ltI (sI J42 26 0 23 2) fun J58 =>
bnd (whl (f_M_advance_w127) () J58) fun r90 J91 =>
some ((), J91)
else
ltI (sI J39 26 0 23 1) fun J94 =>
bnd (whl (f_M_advance_w87) () J94) fun r112 J113 =>
some ((), J113)
set_option maxRecDepth 20000 in
theorem R_M_advance (Z : ZT)  (I : Mem) (r : Unit) (J : Mem) (hf : f_M_advance I = some (r, J)) : Runs Z yX13_advance cX13_advance 2 (none) 3 [vr Z 26 0] I (none, J) := by
  refine Runs.of (rv := fun _ => none) (by decide +kernel) (Nat.le_of_ble_eq_true rfl) hf (fun gr => ?_)
  unfold f_M_advance
  refine WQ.loc [0] (lv' := [(0, vr Z 26 0)]) rfl ?_
  refine wq_loopS (fun _ => [(0, vr Z 26 0)]) 39 (fun _ => [(0, vr Z 26 0)]) (fun κ14 bk15 ex16 gr19 s20 J18 => ?_) (fun gr35 r33 J34 => ?_) gr _ rfl
  · unfold f_M_advance_w0
    refine wq_aload_n dX13_advance_0 0 rfl rfl ?_
    refine wq_aload_n dX13_advance_1 0 rfl rfl ?_
    refine g_26_22 ln_RX13_228 dX13_advance_2 ?_
    refine wq_cVi M_M_byteAt (R_M_byteAt Z (J18 26 0 22) _) ob_26 rfl rfl (by decide) (by decide) (Nat.le_of_ble_eq_true rfl) ln_RX13_221 dX13_advance_5 (fun gr21 x23 J22 => ?_)
    refine wq_bipush dX13_advance_8 (by decide) ?_
    have hj24 : ∀ (gr31 : Nat → Nat)   (J30 : Mem), WQ Z (yX13_advance, cX13_advance, 2, none, 3) I gr31 26 [(0, vr Z 26 0)] [] J30 (f_M_advance_j26 J30) κ14 := by
      intro gr31 J30
      unfold f_M_advance_j26
      refine wq_aload_n dX13_advance_26 0 rfl rfl ?_
      refine wq_dup dX13_advance_27 rfl ?_
      refine g_26_22 ln_RX13_228 dX13_advance_28 ?_
      refine wq_iconst dX13_advance_31 ?_
      refine wq_iadd dX13_advance_32 ?_
      refine p_26_22 ln_RX13_228 dX13_advance_33 (fun J32 => ?_)
      refine wq_goto 0 dX13_advance_36 (by decide) ?_
      exact WQ.loc [0] rfl (bk15 _ _ _)
    refine wq_icmp_eq 26 dX13_advance_10 (by decide) rfl rfl (fun c29 => ?_) (fun c29 => ?_)
    · exact WQ.loc [0] rfl (hj24 _   _)
    · refine wq_aload_n dX13_advance_13 0 rfl rfl ?_
      refine wq_aload_n dX13_advance_14 0 rfl rfl ?_
      refine g_26_22 ln_RX13_228 dX13_advance_15 ?_
      refine wq_cVi M_M_byteAt (R_M_byteAt Z (J22 26 0 22) _) ob_26 rfl rfl (by decide) (by decide) (Nat.le_of_ble_eq_true rfl) ln_RX13_221 dX13_advance_18 (fun gr25 x27 J26 => ?_)
      refine wq_bipush dX13_advance_21 (by decide) ?_
      refine wq_icmp_ne 39 dX13_advance_23 (by decide) rfl rfl (fun c28 => ?_) (fun c28 => ?_)
      · exact WQ.loc [0] rfl (hj24 _   _)
      · exact WQ.loc [0] rfl (ex16 _ _ _)
  · refine wq_aload_n dX13_advance_39 0 rfl rfl ?_
    refine wq_aload_n dX13_advance_40 0 rfl rfl ?_
    refine g_26_22 ln_RX13_228 dX13_advance_41 ?_
    refine p_26_21 ln_RX13_231 dX13_advance_44 (fun J36 => ?_)
    refine wq_aload_n dX13_advance_47 0 rfl rfl ?_
    refine wq_iconst dX13_advance_48 ?_
    refine p_26_24 ln_RX13_234 dX13_advance_49 (fun J37 => ?_)
    refine wq_aload_n dX13_advance_52 0 rfl rfl ?_
    refine g_26_21 ln_RX13_231 dX13_advance_53 ?_
    refine wq_aload_n dX13_advance_56 0 rfl rfl ?_
    refine g_26_20 ln_RX13_212 dX13_advance_57 ?_
    refine wq_icmp_ne 71 dX13_advance_60 (by decide) rfl rfl (fun c117 => ?_) (fun c117 => ?_)
    · refine wq_aload_n dX13_advance_63 0 rfl rfl ?_
      refine wq_iconst dX13_advance_64 ?_
      refine p_26_23 ln_RX13_237 dX13_advance_65 (fun J116 => ?_)
      refine wq_goto 241 dX13_advance_68 (by decide) ?_
      exact wq_vret rfl rfl dX13_advance_241
    · refine wq_aload_n dX13_advance_71 0 rfl rfl ?_
      refine wq_aload_n dX13_advance_72 0 rfl rfl ?_
      refine g_26_21 ln_RX13_231 dX13_advance_73 ?_
      refine wq_cVi M_M_isLetterAt (R_M_isLetterAt Z (J37 26 0 21) _) ob_26 rfl rfl (by decide) (by decide) (Nat.le_of_ble_eq_true rfl) ln_RX13_240 dX13_advance_76 (fun gr38 x40 J39 => ?_)
      refine wq_if_eq 111 dX13_advance_79 (by decide) rfl (fun c115 => ?_) (fun c115 => ?_)
      · refine wq_aload_n dX13_advance_111 0 rfl rfl ?_
        refine wq_aload_n dX13_advance_112 0 rfl rfl ?_
        refine g_26_21 ln_RX13_231 dX13_advance_113 ?_
        refine wq_cVi M_M_isDigitAt (R_M_isDigitAt Z (J39 26 0 21) _) ob_26 rfl rfl (by decide) (by decide) (Nat.le_of_ble_eq_true rfl) ln_RX13_243 dX13_advance_116 (fun gr41 x43 J42 => ?_)
        refine wq_if_eq 194 dX13_advance_119 (by decide) rfl (fun c93 => ?_) (fun c93 => ?_)
        · refine wq_aload_n dX13_advance_194 0 rfl rfl ?_
          refine g_26_19 ln_RX13_58 dX13_advance_195 ?_
          refine wq_aload_n dX13_advance_198 0 rfl rfl ?_
          refine g_26_21 ln_RX13_231 dX13_advance_199 ?_
          refine wq_grd (fun g44 => ?_)
          refine wq_iald (k := 27) (i := 14) rfl (by decide) rfl rfl (m := 600) g44 (Nat.le_of_ble_eq_true rfl) dX13_advance_202 ?_
          refine wq_istore_n (lv' := [(1, vi (J42 27 14 (w32 (J42 26 0 21)).toNat)), (0, vr Z 26 0)]) dX13_advance_203 rfl (by decide) rfl ?_
          refine wq_aload_n dX13_advance_204 1 rfl rfl ?_
          refine wq_iload_n dX13_advance_205 0 rfl rfl ?_
          refine wq_bipush dX13_advance_206 (by decide) ?_
          have hj45 : ∀ (gr53 : Nat → Nat)  (hj45e0 : Int) (J52 : Mem), WQ Z (yX13_advance, cX13_advance, 2, none, 3) I gr53 228 [(0, vr Z 26 0)] [vi hj45e0, vr Z 26 0] J52 (f_M_advance_j228 hj45e0 J52) (fun b K => some (.inl ((fun _ => none) b), K)) := by
            intro gr53 hj45e0 J52
            unfold f_M_advance_j228
            refine p_26_23 ln_RX13_237 dX13_advance_228 (fun J54 => ?_)
            refine wq_aload_n dX13_advance_231 0 rfl rfl ?_
            refine wq_dup dX13_advance_232 rfl ?_
            refine g_26_22 ln_RX13_228 dX13_advance_233 ?_
            refine wq_iconst dX13_advance_236 ?_
            refine wq_iadd dX13_advance_237 ?_
            refine p_26_22 ln_RX13_228 dX13_advance_238 (fun J55 => ?_)
            exact wq_vret rfl rfl dX13_advance_241
          have hj46 : ∀ (gr57 : Nat → Nat)   (J56 : Mem), WQ Z (yX13_advance, cX13_advance, 2, none, 3) I gr57 223 [(0, vr Z 26 0)] [vr Z 26 0] J56 (f_M_advance_j223 J56) (fun b K => some (.inl ((fun _ => none) b), K)) := by
            intro gr57 J56
            unfold f_M_advance_j223
            refine wq_iconst dX13_advance_223 ?_
            refine wq_goto 228 dX13_advance_224 (by decide) ?_
            exact WQ.loc [0] rfl (hj45 _  _ _)
          refine wq_icmp_eq 223 dX13_advance_208 (by decide) rfl rfl (fun c49 => ?_) (fun c49 => ?_)
          · exact WQ.loc [1] rfl (hj46 _   _)
          · refine wq_iload_n dX13_advance_211 0 rfl rfl ?_
            refine wq_bipush dX13_advance_212 (by decide) ?_
            refine wq_icmp_eq 223 dX13_advance_214 (by decide) rfl rfl (fun c48 => ?_) (fun c48 => ?_)
            · exact WQ.loc [1] rfl (hj46 _   _)
            · refine wq_iload_n dX13_advance_217 0 rfl rfl ?_
              refine wq_bipush dX13_advance_218 (by decide) ?_
              refine wq_icmp_ne 227 dX13_advance_220 (by decide) rfl rfl (fun c47 => ?_) (fun c47 => ?_)
              · exact WQ.loc [1] rfl (hj46 _   _)
              · refine wq_iconst dX13_advance_227 ?_
                exact WQ.loc [1] rfl (hj45 _  _ _)
        · refine wq_aload_n dX13_advance_122 0 rfl rfl ?_
          refine wq_iconst dX13_advance_123 ?_
          refine p_26_23 ln_RX13_237 dX13_advance_124 (fun J58 => ?_)
          refine wq_loopS (fun _ => [(0, vr Z 26 0)]) 241 (fun _ => []) (fun κ72 bk73 ex74 gr77 s78 J76 => ?_) (fun gr92 r90 J91 => ?_) gr41 _ rfl
          · unfold f_M_advance_w127
            refine wq_aload_n dX13_advance_127 0 rfl rfl ?_
            refine wq_aload_n dX13_advance_128 0 rfl rfl ?_
            refine g_26_22 ln_RX13_228 dX13_advance_129 ?_
            refine wq_cVi M_M_isDigitAt (R_M_isDigitAt Z (J76 26 0 22) _) ob_26 rfl rfl (by decide) (by decide) (Nat.le_of_ble_eq_true rfl) ln_RX13_243 dX13_advance_132 (fun gr79 x81 J80 => ?_)
            refine wq_if_eq 241 dX13_advance_135 (by decide) rfl (fun c89 => ?_) (fun c89 => ?_)
            · exact WQ.loc [] rfl (ex74 _ _ _)
            · refine wq_aload_n dX13_advance_138 0 rfl rfl ?_
              refine wq_aload_n dX13_advance_139 0 rfl rfl ?_
              refine g_26_22 ln_RX13_228 dX13_advance_140 ?_
              refine wq_aload_n dX13_advance_143 0 rfl rfl ?_
              refine g_26_21 ln_RX13_231 dX13_advance_144 ?_
              refine wq_isub dX13_advance_147 ?_
              refine wq_bipush dX13_advance_148 (by decide) ?_
              have hj82 : ∀ (gr86 : Nat → Nat)  (hj82e0 : Int) (J85 : Mem), WQ Z (yX13_advance, cX13_advance, 2, none, 3) I gr86 178 [(0, vr Z 26 0)] [vi hj82e0, vr Z 26 0] J85 (f_M_advance_j178 hj82e0 J85) κ72 := by
                intro gr86 hj82e0 J85
                unfold f_M_advance_j178
                refine p_26_24 ln_RX13_234 dX13_advance_178 (fun J87 => ?_)
                refine wq_aload_n dX13_advance_181 0 rfl rfl ?_
                refine wq_dup dX13_advance_182 rfl ?_
                refine g_26_22 ln_RX13_228 dX13_advance_183 ?_
                refine wq_iconst dX13_advance_186 ?_
                refine wq_iadd dX13_advance_187 ?_
                refine p_26_22 ln_RX13_228 dX13_advance_188 (fun J88 => ?_)
                refine wq_goto 127 dX13_advance_191 (by decide) ?_
                exact WQ.loc [0] rfl (bk73 _ _ _)
              refine wq_icmp_ge 176 dX13_advance_150 (by decide) rfl rfl (fun c84 => ?_) (fun c84 => ?_)
              · refine wq_bipush dX13_advance_153 (by decide) ?_
                refine wq_aload_n dX13_advance_155 0 rfl rfl ?_
                refine g_26_24 ln_RX13_234 dX13_advance_156 ?_
                refine wq_imul dX13_advance_159 ?_
                refine wq_aload_n dX13_advance_160 0 rfl rfl ?_
                refine g_26_19 ln_RX13_58 dX13_advance_161 ?_
                refine wq_aload_n dX13_advance_164 0 rfl rfl ?_
                refine g_26_22 ln_RX13_228 dX13_advance_165 ?_
                refine wq_grd (fun g83 => ?_)
                refine wq_iald (k := 27) (i := 14) rfl (by decide) rfl rfl (m := 600) g83 (Nat.le_of_ble_eq_true rfl) dX13_advance_168 ?_
                refine wq_iadd dX13_advance_169 ?_
                refine wq_bipush dX13_advance_170 (by decide) ?_
                refine wq_isub dX13_advance_172 ?_
                refine wq_goto 178 dX13_advance_173 (by decide) ?_
                exact WQ.loc [0] rfl (hj82 _  _ _)
              · refine wq_ldc ln_RX13_246 dX13_advance_176 ?_
                exact WQ.loc [0] rfl (hj82 _  _ _)
          · exact wq_vret rfl rfl dX13_advance_241
      · refine wq_aload_n dX13_advance_82 0 rfl rfl ?_
        refine wq_iconst dX13_advance_83 ?_
        refine p_26_23 ln_RX13_237 dX13_advance_84 (fun J94 => ?_)
        refine wq_loopS (fun _ => [(0, vr Z 26 0)]) 241 (fun _ => []) (fun κ100 bk101 ex102 gr105 s106 J104 => ?_) (fun gr114 r112 J113 => ?_) gr38 _ rfl
        · unfold f_M_advance_w87
          refine wq_aload_n dX13_advance_87 0 rfl rfl ?_
          refine wq_aload_n dX13_advance_88 0 rfl rfl ?_
          refine g_26_22 ln_RX13_228 dX13_advance_89 ?_
          refine wq_cVi M_M_isLetterAt (R_M_isLetterAt Z (J104 26 0 22) _) ob_26 rfl rfl (by decide) (by decide) (Nat.le_of_ble_eq_true rfl) ln_RX13_240 dX13_advance_92 (fun gr107 x109 J108 => ?_)
          refine wq_if_eq 241 dX13_advance_95 (by decide) rfl (fun c111 => ?_) (fun c111 => ?_)
          · exact WQ.loc [] rfl (ex102 _ _ _)
          · refine wq_aload_n dX13_advance_98 0 rfl rfl ?_
            refine wq_dup dX13_advance_99 rfl ?_
            refine g_26_22 ln_RX13_228 dX13_advance_100 ?_
            refine wq_iconst dX13_advance_103 ?_
            refine wq_iadd dX13_advance_104 ?_
            refine p_26_22 ln_RX13_228 dX13_advance_105 (fun J110 => ?_)
            refine wq_goto 87 dX13_advance_108 (by decide) ?_
            exact WQ.loc [0] rfl (bk101 _ _ _)
        · exact wq_vret rfl rfl dX13_advance_241

theorem ln_RX13_247 : Cond.fieldLink RX13 247 RX13 "error" "I" ∈ lw_good := li_7 79 (by decide +kernel) (by decide +kernel)
theorem ln_RX13_250 : Cond.fieldLink RX13 250 RX13 "errorAt" "I" ∈ lw_good := li_7 80 (by decide +kernel) (by decide +kernel)
noncomputable def f_M_faulty_j24    (I : Mem) : Option ((Int) × Mem) :=
if (w32 (I 26 0 25)) = 0 then
some (0, I)
else
some (1, I)

noncomputable def f_M_faulty (a1 : Int) (a2 : Int) (I : Mem) : Option ((Int) × Mem) :=
if (w32 (I 26 0 25)) = 0 then
if (w32 a1) = 0 then
f_M_faulty_j24 I
else
ltI (sI I 26 0 25 a2) fun J2 =>
ltI (sI J2 26 0 26 (J2 26 0 21)) fun J3 =>
f_M_faulty_j24 J3
else
f_M_faulty_j24 I
set_option maxRecDepth 20000 in
theorem R_M_faulty (Z : ZT) (a1 : Int) (a2 : Int) (I : Mem) (r : Int) (J : Mem) (hf : f_M_faulty a1 a2 I = some (r, J)) : Runs Z yX13_faulty cX13_faulty 3 (some .boolean) 1 [vr Z 26 0, vi a1, vi a2] I (some (vi r), J) := by
  refine Runs.of (rv := fun x => some (vi x)) (by decide +kernel) (Nat.le_of_ble_eq_true rfl) hf (fun gr => ?_)
  unfold f_M_faulty
  refine WQ.loc [0, 1, 2] (lv' := [(0, vr Z 26 0), (1, vi a1), (2, vi a2)]) rfl ?_
  refine wq_aload_n dX13_faulty_0 0 rfl rfl ?_
  refine g_26_25 ln_RX13_247 dX13_faulty_1 ?_
  have hj1 : ∀ (gr8 : Nat → Nat)   (J7 : Mem), WQ Z (yX13_faulty, cX13_faulty, 3, some .boolean, 1) I gr8 24 [(0, vr Z 26 0)] [] J7 (f_M_faulty_j24 J7) (fun b K => some (.inl ((fun x => some (vi x)) b), K)) := by
    intro gr8 J7
    unfold f_M_faulty_j24
    refine wq_aload_n dX13_faulty_24 0 rfl rfl ?_
    refine g_26_25 ln_RX13_247 dX13_faulty_25 ?_
    refine wq_if_eq 35 dX13_faulty_28 (by decide) rfl (fun c9 => ?_) (fun c9 => ?_)
    · refine wq_iconst dX13_faulty_35 ?_
      exact wq_zret rfl (by decide) rfl dX13_faulty_36
    · refine wq_iconst dX13_faulty_31 ?_
      refine wq_goto 36 dX13_faulty_32 (by decide) ?_
      exact wq_zret rfl (by decide) rfl dX13_faulty_36
  refine wq_if_ne 24 dX13_faulty_4 (by decide) rfl (fun c5 => ?_) (fun c5 => ?_)
  · refine wq_iload_n dX13_faulty_7 1 rfl rfl ?_
    refine wq_if_eq 24 dX13_faulty_8 (by decide) rfl (fun c4 => ?_) (fun c4 => ?_)
    · exact WQ.loc [0] rfl (hj1 _   _)
    · refine wq_aload_n dX13_faulty_11 0 rfl rfl ?_
      refine wq_iload_n dX13_faulty_12 2 rfl rfl ?_
      refine p_26_25 ln_RX13_247 dX13_faulty_13 (fun J2 => ?_)
      refine wq_aload_n dX13_faulty_16 0 rfl rfl ?_
      refine wq_aload_n dX13_faulty_17 0 rfl rfl ?_
      refine g_26_21 ln_RX13_231 dX13_faulty_18 ?_
      refine p_26_26 ln_RX13_250 dX13_faulty_21 (fun J3 => ?_)
      exact WQ.loc [0] rfl (hj1 _   _)
  · exact WQ.loc [0] rfl (hj1 _   _)

noncomputable def f_M_length  (I : Mem) : Option ((Int) × Mem) :=
some (((I 26 0 22) - (I 26 0 21)), I)
set_option maxRecDepth 20000 in
theorem R_M_length (Z : ZT)  (I : Mem) (r : Int) (J : Mem) (hf : f_M_length I = some (r, J)) : Runs Z yX13_length cX13_length 1 (some .int) 1 [vr Z 26 0] I (some (vi r), J) := by
  refine Runs.of (rv := fun x => some (vi x)) (by decide +kernel) (Nat.le_of_ble_eq_true rfl) hf (fun gr => ?_)
  unfold f_M_length
  refine WQ.loc [0] (lv' := [(0, vr Z 26 0)]) rfl ?_
  refine wq_aload_n dX13_length_0 0 rfl rfl ?_
  refine g_26_22 ln_RX13_228 dX13_length_1 ?_
  refine wq_aload_n dX13_length_4 0 rfl rfl ?_
  refine g_26_21 ln_RX13_231 dX13_length_5 ?_
  refine wq_isub dX13_length_8 ?_
  exact wq_iret rfl rfl dX13_length_9

theorem M_M_length : MwV yX13_length cX13_length 1 (some .int) 0 := ⟨li_8 1 (by decide +kernel) (by decide +kernel), li_8 0 (by decide +kernel) (by decide +kernel), lw_in 64 (by decide +kernel) (by decide +kernel), li_1 16 (by decide +kernel) (by decide +kernel), by decide +kernel⟩
theorem ln_RX13_253 : Cond.methodLink RX13 253 yX13_length ∈ lw_good := li_7 238 (by decide +kernel) (by decide +kernel)
theorem ln_RX13_256 : Cond.methodLink RX13 256 yJ0_length_8abf5 ∈ lw_good := li_8 2 (by decide +kernel) (by decide +kernel)
theorem ln_RX13_259 : Cond.methodLink RX13 259 yJ0_charAt_5068e ∈ lw_good := li_8 3 (by decide +kernel) (by decide +kernel)
noncomputable def f_M_isKey_w30 (v1 : Nat) (s : Int) (I : Mem) : Option (((Int) ⊕ (Int)) × Mem) :=
if (w32 s) < (w32 ((I 26 0 22) - (I 26 0 21))) then
if 0 ≤ (w32 ((I 26 0 21) + s)) ∧ (w32 ((I 26 0 21) + s)) < 600 then
if 0 ≤ (w32 s) ∧ (w32 s) < wLen v1 then
if (w32 (I 27 14 (w32 ((I 26 0 21) + s)).toNat)) = (w32 (wAt v1 (w32 s).toNat)) then
some (.inl (s + 1), I)
else
some (.inr (0), I)
else none
else none
else
some (.inr (1), I)

noncomputable def f_M_isKey (a1 : Nat) (I : Mem) : Option ((Int) × Mem) :=
if a1 < 15 then
if (w32 (I 26 0 25)) = 0 then
if (w32 (I 26 0 23)) = 1 then
if (w32 ((I 26 0 22) - (I 26 0 21))) = (w32 (wLen a1)) then
whl (f_M_isKey_w30 a1) 0 I
else
some (0, I)
else
some (0, I)
else
some (0, I)
else none
set_option maxRecDepth 20000 in
theorem R_M_isKey (Z : ZT) (a1 : Nat) (I : Mem) (r : Int) (J : Mem) (hf : f_M_isKey a1 I = some (r, J)) : Runs Z yX13_isKey cX13_isKey 3 (some .boolean) 5 [vr Z 26 0, vr Z 34 a1] I (some (vi r), J) := by
  refine Runs.of (rv := fun x => some (vi x)) (by decide +kernel) (Nat.le_of_ble_eq_true rfl) hf (fun gr => ?_)
  unfold f_M_isKey
  refine WQ.loc [0, 1] (lv' := [(0, vr Z 26 0), (1, vr Z 34 a1)]) rfl ?_
  refine wq_grd (fun h1 => ?_)
  refine wq_aload_n dX13_isKey_0 0 rfl rfl ?_
  refine g_26_25 ln_RX13_247 dX13_isKey_1 ?_
  refine wq_if_ne 26 dX13_isKey_4 (by decide) rfl (fun c24 => ?_) (fun c24 => ?_)
  · refine wq_aload_n dX13_isKey_7 0 rfl rfl ?_
    refine g_26_23 ln_RX13_237 dX13_isKey_8 ?_
    refine wq_iconst dX13_isKey_11 ?_
    refine wq_icmp_ne 26 dX13_isKey_12 (by decide) rfl rfl (fun c23 => ?_) (fun c23 => ?_)
    · refine wq_aload_n dX13_isKey_15 0 rfl rfl ?_
      refine wq_pV (v := vi ((I 26 0 22) - (I 26 0 21))) M_M_length (R_M_length Z  _ _ _ rfl) ob_26 rfl rfl (by decide) (by decide) (Nat.le_of_ble_eq_true rfl) ln_RX13_253 dX13_isKey_16 (fun gr1 => ?_)
      refine wq_aload_n dX13_isKey_19 1 rfl rfl ?_
      refine wq_strlen h1 (by decide) (Nat.le_of_ble_eq_true rfl) ln_RX13_256 dX13_isKey_20 (fun gr2 => ?_)
      refine wq_icmp_eq 28 dX13_isKey_23 (by decide) rfl rfl (fun c22 => ?_) (fun c22 => ?_)
      · refine wq_iconst dX13_isKey_28 ?_
        refine wq_istore_n (lv' := [(2, vi 0), (0, vr Z 26 0), (1, vr Z 34 a1)]) dX13_isKey_29 rfl (by decide) rfl ?_
        refine WQ.loc [1, 2, 0] (lv' := [(0, vr Z 26 0), (1, vr Z 34 a1), (2, vi 0)]) rfl ?_
        refine wq_loop (fun s15 => [(0, vr Z 26 0), (1, vr Z 34 a1), (2, vi s15)]) (fun κ9 bk10 hr12 gr14 s15 J13 => ?_) gr2 _ rfl
        unfold f_M_isKey_w30
        refine wq_iload_n dX13_isKey_30 2 rfl rfl ?_
        refine wq_aload_n dX13_isKey_31 0 rfl rfl ?_
        refine wq_pV (v := vi ((J13 26 0 22) - (J13 26 0 21))) M_M_length (R_M_length Z  _ _ _ rfl) ob_26 rfl rfl (by decide) (by decide) (Nat.le_of_ble_eq_true rfl) ln_RX13_253 dX13_isKey_32 (fun gr16 => ?_)
        refine wq_icmp_ge 65 dX13_isKey_35 (by decide) rfl rfl (fun c21 => ?_) (fun c21 => ?_)
        · refine wq_aload_n dX13_isKey_38 0 rfl rfl ?_
          refine g_26_19 ln_RX13_58 dX13_isKey_39 ?_
          refine wq_aload_n dX13_isKey_42 0 rfl rfl ?_
          refine g_26_21 ln_RX13_231 dX13_isKey_43 ?_
          refine wq_iload_n dX13_isKey_46 2 rfl rfl ?_
          refine wq_iadd dX13_isKey_47 ?_
          refine wq_grd (fun g17 => ?_)
          refine wq_iald (k := 27) (i := 14) rfl (by decide) rfl rfl (m := 600) g17 (Nat.le_of_ble_eq_true rfl) dX13_isKey_48 ?_
          refine wq_aload_n dX13_isKey_49 1 rfl rfl ?_
          refine wq_iload_n dX13_isKey_50 2 rfl rfl ?_
          refine wq_grd (fun g19 => ?_)
          refine wq_charAt h1 rfl g19 (by decide) (Nat.le_of_ble_eq_true rfl) ln_RX13_259 dX13_isKey_51 (fun gr18 => ?_)
          refine wq_icmp_eq 59 dX13_isKey_54 (by decide) rfl rfl (fun c20 => ?_) (fun c20 => ?_)
          · refine wq_iinc (lv' := [(2, vi (s15 + 1)), (0, vr Z 26 0), (1, vr Z 34 a1)]) dX13_isKey_59 2 rfl (by decide) rfl ?_
            refine wq_goto 30 dX13_isKey_62 (by decide) ?_
            exact WQ.loc [1, 2, 0] rfl (bk10 _ _ _)
          · refine wq_iconst dX13_isKey_57 ?_
            exact wq_zret rfl (by decide) ((hr12 _ _).trans rfl) dX13_isKey_58
        · refine wq_iconst dX13_isKey_65 ?_
          exact wq_zret rfl (by decide) ((hr12 _ _).trans rfl) dX13_isKey_66
      · refine wq_iconst dX13_isKey_26 ?_
        exact wq_zret rfl (by decide) rfl dX13_isKey_27
    · refine wq_iconst dX13_isKey_26 ?_
      exact wq_zret rfl (by decide) rfl dX13_isKey_27
  · refine wq_iconst dX13_isKey_26 ?_
    exact wq_zret rfl (by decide) rfl dX13_isKey_27

noncomputable def f_M_isSign (a1 : Int) (I : Mem) : Option ((Int) × Mem) :=
if (w32 (I 26 0 25)) = 0 then
if (w32 (I 26 0 23)) = 3 then
if 0 ≤ (w32 (I 26 0 21)) ∧ (w32 (I 26 0 21)) < 600 then
if (w32 (I 27 14 (w32 (I 26 0 21)).toNat)) = (w32 a1) then
some (1, I)
else
some (0, I)
else none
else
some (0, I)
else
some (0, I)
set_option maxRecDepth 20000 in
theorem R_M_isSign (Z : ZT) (a1 : Int) (I : Mem) (r : Int) (J : Mem) (hf : f_M_isSign a1 I = some (r, J)) : Runs Z yX13_isSign cX13_isSign 2 (some .boolean) 1 [vr Z 26 0, vi a1] I (some (vi r), J) := by
  refine Runs.of (rv := fun x => some (vi x)) (by decide +kernel) (Nat.le_of_ble_eq_true rfl) hf (fun gr => ?_)
  unfold f_M_isSign
  refine WQ.loc [0, 1] (lv' := [(0, vr Z 26 0), (1, vi a1)]) rfl ?_
  refine wq_aload_n dX13_isSign_0 0 rfl rfl ?_
  refine g_26_25 ln_RX13_247 dX13_isSign_1 ?_
  refine wq_if_ne 32 dX13_isSign_4 (by decide) rfl (fun c4 => ?_) (fun c4 => ?_)
  · refine wq_aload_n dX13_isSign_7 0 rfl rfl ?_
    refine g_26_23 ln_RX13_237 dX13_isSign_8 ?_
    refine wq_iconst dX13_isSign_11 ?_
    refine wq_icmp_ne 32 dX13_isSign_12 (by decide) rfl rfl (fun c3 => ?_) (fun c3 => ?_)
    · refine wq_aload_n dX13_isSign_15 0 rfl rfl ?_
      refine g_26_19 ln_RX13_58 dX13_isSign_16 ?_
      refine wq_aload_n dX13_isSign_19 0 rfl rfl ?_
      refine g_26_21 ln_RX13_231 dX13_isSign_20 ?_
      refine wq_grd (fun g1 => ?_)
      refine wq_iald (k := 27) (i := 14) rfl (by decide) rfl rfl (m := 600) g1 (Nat.le_of_ble_eq_true rfl) dX13_isSign_23 ?_
      refine wq_iload_n dX13_isSign_24 1 rfl rfl ?_
      refine wq_icmp_ne 32 dX13_isSign_25 (by decide) rfl rfl (fun c2 => ?_) (fun c2 => ?_)
      · refine wq_iconst dX13_isSign_28 ?_
        refine wq_goto 33 dX13_isSign_29 (by decide) ?_
        exact wq_zret rfl (by decide) rfl dX13_isSign_33
      · refine wq_iconst dX13_isSign_32 ?_
        exact wq_zret rfl (by decide) rfl dX13_isSign_33
    · refine wq_iconst dX13_isSign_32 ?_
      exact wq_zret rfl (by decide) rfl dX13_isSign_33
  · refine wq_iconst dX13_isSign_32 ?_
    exact wq_zret rfl (by decide) rfl dX13_isSign_33

theorem M_M_isSign : MwV yX13_isSign cX13_isSign 2 (some .boolean) 1 := ⟨li_8 28 (by decide +kernel) (by decide +kernel), li_8 27 (by decide +kernel) (by decide +kernel), lw_in 70 (by decide +kernel) (by decide +kernel), li_1 16 (by decide +kernel) (by decide +kernel), by decide +kernel⟩
theorem M_M_faulty : MwV yX13_faulty cX13_faulty 3 (some .boolean) 2 := ⟨li_8 11 (by decide +kernel) (by decide +kernel), li_8 10 (by decide +kernel) (by decide +kernel), lw_in 66 (by decide +kernel) (by decide +kernel), li_1 16 (by decide +kernel) (by decide +kernel), by decide +kernel⟩
theorem M_M_advance : MwV yX13_advance cX13_advance 2 (none) 0 := ⟨li_7 216 (by decide +kernel) (by decide +kernel), li_7 215 (by decide +kernel) (by decide +kernel), lw_in 59 (by decide +kernel) (by decide +kernel), li_1 16 (by decide +kernel) (by decide +kernel), by decide +kernel⟩
theorem ln_RX13_270 : Cond.methodLink RX13 270 yX13_advance ∈ lw_good := li_7 213 (by decide +kernel) (by decide +kernel)
theorem ln_RX13_266 : Cond.methodLink RX13 266 yX13_faulty ∈ lw_good := li_8 8 (by decide +kernel) (by decide +kernel)
theorem ln_RX13_263 : Cond.methodLink RX13 263 yX13_isSign ∈ lw_good := li_8 25 (by decide +kernel) (by decide +kernel)
noncomputable def f_M_takesSign (a1 : Int) (I : Mem) : Option ((Unit) × Mem) :=
bnd (f_M_isSign a1 I) fun x3 J2 =>
bnd (f_M_faulty (if (w32 x3) = 0 then 1 else 0) 1 J2) fun x6 J5 =>
if (w32 x6) = 0 then
bnd (f_M_advance J5) fun _ J8 =>
some ((), J8)
else
some ((), J5)
set_option maxRecDepth 20000 in
theorem R_M_takesSign (Z : ZT) (a1 : Int) (I : Mem) (r : Unit) (J : Mem) (hf : f_M_takesSign a1 I = some (r, J)) : Runs Z yX13_takesSign cX13_takesSign 2 (none) 4 [vr Z 26 0, vi a1] I (none, J) := by
  refine Runs.of (rv := fun _ => none) (by decide +kernel) (Nat.le_of_ble_eq_true rfl) hf (fun gr => ?_)
  unfold f_M_takesSign
  refine WQ.loc [0, 1] (lv' := [(0, vr Z 26 0), (1, vi a1)]) rfl ?_
  refine wq_aload_n dX13_takesSign_0 0 rfl rfl ?_
  refine wq_aload_n dX13_takesSign_1 0 rfl rfl ?_
  refine wq_iload_n dX13_takesSign_2 1 rfl rfl ?_
  refine wq_cVi M_M_isSign (R_M_isSign Z a1 _) ob_26 rfl rfl (by decide) (by decide) (Nat.le_of_ble_eq_true rfl) ln_RX13_263 dX13_takesSign_3 (fun gr1 x3 J2 => ?_)
  refine WQ.via 14 [vi (if (w32 x3) = 0 then 1 else 0), vr Z 26 0] (by
      refine wq_iconst dX13_takesSign_14 ?_
      refine wq_cVi M_M_faulty (R_M_faulty Z (if (w32 x3) = 0 then 1 else 0) 1 _) ob_26 rfl rfl (by decide) (by decide) (Nat.le_of_ble_eq_true rfl) ln_RX13_266 dX13_takesSign_15 (fun gr4 x6 J5 => ?_)
      refine wq_if_ne 25 dX13_takesSign_18 (by decide) rfl (fun c10 => ?_) (fun c10 => ?_)
      · refine wq_aload_n dX13_takesSign_21 0 rfl rfl ?_
        refine wq_cVv M_M_advance (R_M_advance Z _) ob_26 rfl rfl (by decide) (by decide) (Nat.le_of_ble_eq_true rfl) ln_RX13_270 dX13_takesSign_22 (fun gr7 _ J8 => ?_)
        exact wq_vret rfl rfl dX13_takesSign_25
      · exact wq_vret rfl rfl dX13_takesSign_25) (fun hj11 => ?_)
  refine WQ.both ((w32 x3) = 0) ?_
  refine wq_if_ne 13 dX13_takesSign_6 (by decide) rfl (fun c12 => ?_) (fun c12 => ?_)
  · refine wq_iconst dX13_takesSign_9 ?_
    refine wq_goto 14 dX13_takesSign_10 (by decide) ?_
    exact WQ.top (if_pos c12) hj11
  · refine wq_iconst dX13_takesSign_13 ?_
    exact WQ.top (if_neg c12) hj11

noncomputable def f_M_number (a1 : Int) (a2 : Int) (I : Mem) : Option ((Int) × Mem) :=
bnd (f_M_faulty (if (w32 (I 26 0 23)) = 2 then 0 else 1) 1 I) fun x3 J2 =>
if (w32 x3) = 0 then
bnd (f_M_in (J2 26 0 24) a1 a2 J2) fun x6 J5 =>
bnd (f_M_faulty (if (w32 x6) = 0 then 1 else 0) 2 J5) fun x9 J8 =>
if (w32 x9) = 0 then
bnd (f_M_advance J8) fun _ J11 =>
some ((J8 26 0 24), J11)
else
some (a1, J8)
else
some (a1, J2)
set_option maxRecDepth 20000 in
theorem R_M_number (Z : ZT) (a1 : Int) (a2 : Int) (I : Mem) (r : Int) (J : Mem) (hf : f_M_number a1 a2 I = some (r, J)) : Runs Z yX13_number cX13_number 4 (some .int) 4 [vr Z 26 0, vi a1, vi a2] I (some (vi r), J) := by
  refine Runs.of (rv := fun x => some (vi x)) (by decide +kernel) (Nat.le_of_ble_eq_true rfl) hf (fun gr => ?_)
  unfold f_M_number
  refine WQ.loc [0, 1, 2] (lv' := [(0, vr Z 26 0), (1, vi a1), (2, vi a2)]) rfl ?_
  refine wq_aload_n dX13_number_0 0 rfl rfl ?_
  refine wq_aload_n dX13_number_1 0 rfl rfl ?_
  refine g_26_23 ln_RX13_237 dX13_number_2 ?_
  refine wq_iconst dX13_number_5 ?_
  refine WQ.via 14 [vi (if (w32 (I 26 0 23)) = 2 then 0 else 1), vr Z 26 0] (by
      refine wq_iconst dX13_number_14 ?_
      refine wq_cVi M_M_faulty (R_M_faulty Z (if (w32 (I 26 0 23)) = 2 then 0 else 1) 1 _) ob_26 rfl rfl (by decide) (by decide) (Nat.le_of_ble_eq_true rfl) ln_RX13_266 dX13_number_15 (fun gr1 x3 J2 => ?_)
      refine wq_if_ne 46 dX13_number_18 (by decide) rfl (fun c16 => ?_) (fun c16 => ?_)
      · refine wq_aload_n dX13_number_21 0 rfl rfl ?_
        refine wq_aload_n dX13_number_22 0 rfl rfl ?_
        refine g_26_24 ln_RX13_234 dX13_number_23 ?_
        refine wq_iload_n dX13_number_26 1 rfl rfl ?_
        refine wq_iload_n dX13_number_27 2 rfl rfl ?_
        refine wq_cSi M_M_in (R_M_in Z (J2 26 0 24) a1 a2 _) rfl rfl rfl (by decide) (by decide) (Nat.le_of_ble_eq_true rfl) ln_RX13_224 dX13_number_28 (fun gr4 x6 J5 => ?_)
        refine WQ.via 39 [vi (if (w32 x6) = 0 then 1 else 0), vr Z 26 0] (by
            refine wq_iconst dX13_number_39 ?_
            refine wq_cVi M_M_faulty (R_M_faulty Z (if (w32 x6) = 0 then 1 else 0) 2 _) ob_26 rfl rfl (by decide) (by decide) (Nat.le_of_ble_eq_true rfl) ln_RX13_266 dX13_number_40 (fun gr7 x9 J8 => ?_)
            refine wq_if_eq 48 dX13_number_43 (by decide) rfl (fun c13 => ?_) (fun c13 => ?_)
            · refine wq_aload_n dX13_number_48 0 rfl rfl ?_
              refine g_26_24 ln_RX13_234 dX13_number_49 ?_
              refine wq_istore_n (lv' := [(3, vi (J8 26 0 24)), (0, vr Z 26 0), (1, vi a1), (2, vi a2)]) dX13_number_52 rfl (by decide) rfl ?_
              refine wq_aload_n dX13_number_53 1 rfl rfl ?_
              refine wq_cVv M_M_advance (R_M_advance Z _) ob_26 rfl rfl (by decide) (by decide) (Nat.le_of_ble_eq_true rfl) ln_RX13_270 dX13_number_54 (fun gr10 _ J11 => ?_)
              refine wq_iload_n dX13_number_57 0 rfl rfl ?_
              exact wq_iret rfl rfl dX13_number_58
            · refine wq_iload_n dX13_number_46 1 rfl rfl ?_
              exact wq_iret rfl rfl dX13_number_47) (fun hj14 => ?_)
        refine WQ.both ((w32 x6) = 0) ?_
        refine wq_if_ne 38 dX13_number_31 (by decide) rfl (fun c15 => ?_) (fun c15 => ?_)
        · refine wq_iconst dX13_number_34 ?_
          refine wq_goto 39 dX13_number_35 (by decide) ?_
          exact WQ.top (if_pos c15) hj14
        · refine wq_iconst dX13_number_38 ?_
          exact WQ.top (if_neg c15) hj14
      · refine wq_iload_n dX13_number_46 1 rfl rfl ?_
        exact wq_iret rfl rfl dX13_number_47) (fun hj17 => ?_)
  refine WQ.both ((w32 (I 26 0 23)) = 2) ?_
  refine wq_icmp_eq 13 dX13_number_6 (by decide) rfl rfl (fun c18 => ?_) (fun c18 => ?_)
  · refine wq_iconst dX13_number_13 ?_
    exact WQ.top (if_pos c18) hj17
  · refine wq_iconst dX13_number_9 ?_
    refine wq_goto 14 dX13_number_10 (by decide) ?_
    exact WQ.top (if_neg c18) hj17

theorem ln_RX13_273 : Cond.fieldLink RX13 273 RX13 "soLong" "I" ∈ lw_good := li_7 83 (by decide +kernel) (by decide +kernel)
noncomputable def f_M_wordItem_w68 (v1 : Int) (s : Int) (I : Mem) : Option (((Int) ⊕ (Unit)) × Mem) :=
if (w32 s) < (w32 ((I 26 0 22) - (I 26 0 21))) then
if 0 ≤ (w32 ((I 26 0 21) + s)) ∧ (w32 ((I 26 0 21) + s)) < 600 then
bnd (f_M_adds v1 ((I 27 14 (w32 ((I 26 0 21) + s)).toNat) - 97) I) fun _ J19 =>
some (.inl (s + 1), J19)
else none
else
some (.inr (), I)

noncomputable def f_M_wordItem_j58 (v1 : Int)  (e0 : Int) (I : Mem) : Option ((Unit) × Mem) :=
bnd (f_M_faulty e0 5 I) fun x15 J14 =>
if (w32 x15) = 0 then
bnd (whl (f_M_wordItem_w68 v1) 0 J14) fun r35 J36 =>
ltI (sI J36 26 0 29 ((J36 26 0 29) + ((J36 26 0 22) - (J36 26 0 21)))) fun J39 =>
bnd (f_M_advance J39) fun _ J41 =>
some ((), J41)
else
some ((), J14)

noncomputable def f_M_wordItem_j53 (v1 : Int)   (I : Mem) : Option ((Unit) × Mem) :=
f_M_wordItem_j58 v1 1 I

noncomputable def f_M_wordItem (a1 : Int) (I : Mem) : Option ((Unit) × Mem) :=
bnd (f_M_faulty (if (w32 (I 26 0 23)) = 1 then 0 else 1) 1 I) fun x3 J2 =>
if (w32 x3) = 0 then
bnd (f_M_many a1 J2) fun x6 J5 =>
if 400 < (w32 (x6 + ((J5 26 0 22) - (J5 26 0 21)))) then
f_M_wordItem_j53 a1 J5
else
if 400 < (w32 ((J5 26 0 29) + ((J5 26 0 22) - (J5 26 0 21)))) then
f_M_wordItem_j53 a1 J5
else
f_M_wordItem_j58 a1 0 J5
else
some ((), J2)
set_option maxRecDepth 20000 in
theorem R_M_wordItem (Z : ZT) (a1 : Int) (I : Mem) (r : Unit) (J : Mem) (hf : f_M_wordItem a1 I = some (r, J)) : Runs Z yX13_wordItem cX13_wordItem 3 (none) 4 [vr Z 26 0, vi a1] I (none, J) := by
  refine Runs.of (rv := fun _ => none) (by decide +kernel) (Nat.le_of_ble_eq_true rfl) hf (fun gr => ?_)
  unfold f_M_wordItem
  refine WQ.loc [0, 1] (lv' := [(0, vr Z 26 0), (1, vi a1)]) rfl ?_
  refine wq_aload_n dX13_wordItem_0 0 rfl rfl ?_
  refine wq_aload_n dX13_wordItem_1 0 rfl rfl ?_
  refine g_26_23 ln_RX13_237 dX13_wordItem_2 ?_
  refine wq_iconst dX13_wordItem_5 ?_
  refine WQ.via 14 [vi (if (w32 (I 26 0 23)) = 1 then 0 else 1), vr Z 26 0] (by
      refine wq_iconst dX13_wordItem_14 ?_
      refine wq_cVi M_M_faulty (R_M_faulty Z (if (w32 (I 26 0 23)) = 1 then 0 else 1) 1 _) ob_26 rfl rfl (by decide) (by decide) (Nat.le_of_ble_eq_true rfl) ln_RX13_266 dX13_wordItem_15 (fun gr1 x3 J2 => ?_)
      refine wq_if_ne 65 dX13_wordItem_18 (by decide) rfl (fun c73 => ?_) (fun c73 => ?_)
      · refine wq_aload_n dX13_wordItem_21 0 rfl rfl ?_
        refine wq_aload_n dX13_wordItem_22 0 rfl rfl ?_
        refine wq_iload_n dX13_wordItem_23 1 rfl rfl ?_
        refine wq_cVi M_M_many (R_M_many Z a1 _) ob_26 rfl rfl (by decide) (by decide) (Nat.le_of_ble_eq_true rfl) ln_RX13_103 dX13_wordItem_24 (fun gr4 x6 J5 => ?_)
        refine wq_aload_n dX13_wordItem_27 0 rfl rfl ?_
        refine wq_pV (v := vi ((J5 26 0 22) - (J5 26 0 21))) M_M_length (R_M_length Z  _ _ _ rfl) ob_26 rfl rfl (by decide) (by decide) (Nat.le_of_ble_eq_true rfl) ln_RX13_253 dX13_wordItem_28 (fun gr7 => ?_)
        refine wq_iadd dX13_wordItem_31 ?_
        refine wq_sipush dX13_wordItem_32 (by decide) ?_
        have hj8 : ∀ (gr45 : Nat → Nat)  (hj8e0 : Int) (J44 : Mem), WQ Z (yX13_wordItem, cX13_wordItem, 3, none, 4) I gr45 58 [(0, vr Z 26 0), (1, vi a1)] [vi hj8e0, vr Z 26 0] J44 (f_M_wordItem_j58 a1 hj8e0 J44) (fun b K => some (.inl ((fun _ => none) b), K)) := by
          intro gr45 hj8e0 J44
          unfold f_M_wordItem_j58
          refine wq_iconst dX13_wordItem_58 ?_
          refine wq_cVi M_M_faulty (R_M_faulty Z hj8e0 5 _) ob_26 rfl rfl (by decide) (by decide) (Nat.le_of_ble_eq_true rfl) ln_RX13_266 dX13_wordItem_59 (fun gr46 x48 J47 => ?_)
          refine wq_if_eq 66 dX13_wordItem_62 (by decide) rfl (fun c70 => ?_) (fun c70 => ?_)
          · refine wq_iconst dX13_wordItem_66 ?_
            refine wq_istore_n (lv' := [(2, vi 0), (0, vr Z 26 0), (1, vi a1)]) dX13_wordItem_67 rfl (by decide) rfl ?_
            refine WQ.loc [1, 2, 0] (lv' := [(0, vr Z 26 0), (1, vi a1), (2, vi 0)]) rfl ?_
            refine wq_loopS (fun s55 => [(0, vr Z 26 0), (1, vi a1), (2, vi s55)]) 101 (fun _ => [(0, vr Z 26 0)]) (fun κ49 bk50 ex51 gr54 s55 J53 => ?_) (fun gr64 r62 J63 => ?_) gr46 _ rfl
            · unfold f_M_wordItem_w68
              refine wq_iload_n dX13_wordItem_68 2 rfl rfl ?_
              refine wq_aload_n dX13_wordItem_69 0 rfl rfl ?_
              refine wq_pV (v := vi ((J53 26 0 22) - (J53 26 0 21))) M_M_length (R_M_length Z  _ _ _ rfl) ob_26 rfl rfl (by decide) (by decide) (Nat.le_of_ble_eq_true rfl) ln_RX13_253 dX13_wordItem_70 (fun gr56 => ?_)
              refine wq_icmp_ge 101 dX13_wordItem_73 (by decide) rfl rfl (fun c61 => ?_) (fun c61 => ?_)
              · refine wq_aload_n dX13_wordItem_76 0 rfl rfl ?_
                refine wq_iload_n dX13_wordItem_77 1 rfl rfl ?_
                refine wq_aload_n dX13_wordItem_78 0 rfl rfl ?_
                refine g_26_19 ln_RX13_58 dX13_wordItem_79 ?_
                refine wq_aload_n dX13_wordItem_82 0 rfl rfl ?_
                refine g_26_21 ln_RX13_231 dX13_wordItem_83 ?_
                refine wq_iload_n dX13_wordItem_86 2 rfl rfl ?_
                refine wq_iadd dX13_wordItem_87 ?_
                refine wq_grd (fun g57 => ?_)
                refine wq_iald (k := 27) (i := 14) rfl (by decide) rfl rfl (m := 600) g57 (Nat.le_of_ble_eq_true rfl) dX13_wordItem_88 ?_
                refine wq_bipush dX13_wordItem_89 (by decide) ?_
                refine wq_isub dX13_wordItem_91 ?_
                refine wq_cVv M_M_adds (R_M_adds Z a1 ((J53 27 14 (w32 ((J53 26 0 21) + s55)).toNat) - 97) _) ob_26 rfl rfl (by decide) (by decide) (Nat.le_of_ble_eq_true rfl) ln_RX13_93 dX13_wordItem_92 (fun gr58 _ J59 => ?_)
                refine wq_iinc (lv' := [(2, vi (s55 + 1)), (0, vr Z 26 0), (1, vi a1)]) dX13_wordItem_95 2 rfl (by decide) rfl ?_
                refine wq_goto 68 dX13_wordItem_98 (by decide) ?_
                exact WQ.loc [1, 2, 0] rfl (bk50 _ _ _)
              · exact WQ.loc [0] rfl (ex51 _ _ _)
            · refine wq_aload_n dX13_wordItem_101 0 rfl rfl ?_
              refine wq_dup dX13_wordItem_102 rfl ?_
              refine g_26_29 ln_RX13_273 dX13_wordItem_103 ?_
              refine wq_aload_n dX13_wordItem_106 0 rfl rfl ?_
              refine wq_pV (v := vi ((J63 26 0 22) - (J63 26 0 21))) M_M_length (R_M_length Z  _ _ _ rfl) ob_26 rfl rfl (by decide) (by decide) (Nat.le_of_ble_eq_true rfl) ln_RX13_253 dX13_wordItem_107 (fun gr65 => ?_)
              refine wq_iadd dX13_wordItem_110 ?_
              refine p_26_29 ln_RX13_273 dX13_wordItem_111 (fun J66 => ?_)
              refine wq_aload_n dX13_wordItem_114 0 rfl rfl ?_
              refine wq_cVv M_M_advance (R_M_advance Z _) ob_26 rfl rfl (by decide) (by decide) (Nat.le_of_ble_eq_true rfl) ln_RX13_270 dX13_wordItem_115 (fun gr67 _ J68 => ?_)
              exact wq_vret rfl rfl dX13_wordItem_118
          · exact wq_vret rfl rfl dX13_wordItem_65
        have hj9 : ∀ (gr72 : Nat → Nat)   (J71 : Mem), WQ Z (yX13_wordItem, cX13_wordItem, 3, none, 4) I gr72 53 [(0, vr Z 26 0), (1, vi a1)] [vr Z 26 0] J71 (f_M_wordItem_j53 a1 J71) (fun b K => some (.inl ((fun _ => none) b), K)) := by
          intro gr72 J71
          unfold f_M_wordItem_j53
          refine wq_iconst dX13_wordItem_53 ?_
          refine wq_goto 58 dX13_wordItem_54 (by decide) ?_
          exact WQ.loc [0, 1] rfl (hj8 _  _ _)
        refine wq_icmp_gt 53 dX13_wordItem_35 (by decide) rfl rfl (fun c12 => ?_) (fun c12 => ?_)
        · exact WQ.loc [0, 1] rfl (hj9 _   _)
        · refine wq_aload_n dX13_wordItem_38 0 rfl rfl ?_
          refine g_26_29 ln_RX13_273 dX13_wordItem_39 ?_
          refine wq_aload_n dX13_wordItem_42 0 rfl rfl ?_
          refine wq_pV (v := vi ((J5 26 0 22) - (J5 26 0 21))) M_M_length (R_M_length Z  _ _ _ rfl) ob_26 rfl rfl (by decide) (by decide) (Nat.le_of_ble_eq_true rfl) ln_RX13_253 dX13_wordItem_43 (fun gr10 => ?_)
          refine wq_iadd dX13_wordItem_46 ?_
          refine wq_sipush dX13_wordItem_47 (by decide) ?_
          refine wq_icmp_le 57 dX13_wordItem_50 (by decide) rfl rfl (fun c11 => ?_) (fun c11 => ?_)
          · exact WQ.loc [0, 1] rfl (hj9 _   _)
          · refine wq_iconst dX13_wordItem_57 ?_
            exact WQ.loc [0, 1] rfl (hj8 _  _ _)
      · exact wq_vret rfl rfl dX13_wordItem_65) (fun hj74 => ?_)
  refine WQ.both ((w32 (I 26 0 23)) = 1) ?_
  refine wq_icmp_eq 13 dX13_wordItem_6 (by decide) rfl rfl (fun c75 => ?_) (fun c75 => ?_)
  · refine wq_iconst dX13_wordItem_13 ?_
    exact WQ.top (if_pos c75) hj74
  · refine wq_iconst dX13_wordItem_9 ?_
    refine wq_goto 14 dX13_wordItem_10 (by decide) ?_
    exact WQ.top (if_neg c75) hj74

theorem M_M_takesSign : MwV yX13_takesSign cX13_takesSign 2 (none) 1 := ⟨li_8 36 (by decide +kernel) (by decide +kernel), li_8 35 (by decide +kernel) (by decide +kernel), lw_in 72 (by decide +kernel) (by decide +kernel), li_1 16 (by decide +kernel) (by decide +kernel), by decide +kernel⟩
theorem ln_RX13_276 : Cond.methodLink RX13 276 yX13_takesSign ∈ lw_good := li_8 33 (by decide +kernel) (by decide +kernel)
noncomputable def f_M_ruleItem (a1 : Int) (a2 : Int) (I : Mem) : Option ((Unit) × Mem) :=
bnd (f_M_advance I) fun _ J2 =>
bnd (f_M_faulty (if (w32 (J2 26 0 23)) = 2 then 0 else 1) 1 J2) fun x6 J5 =>
if (w32 x6) = 0 then
bnd (f_M_faulty (if (w32 (J5 26 0 24)) < 40 then 0 else 1) 2 J5) fun x9 J8 =>
if (w32 x9) = 0 then
bnd (f_M_faulty (if (w32 (J8 26 0 24)) < (w32 a2) then 0 else 1) 4 J8) fun x12 J11 =>
if (w32 x12) = 0 then
bnd (f_M_many a1 J11) fun x15 J14 =>
if (w32 x15) = 400 then
ltI (sI J14 26 0 25 5) fun J16 =>
ltI (sI J16 26 0 26 (I 26 0 21)) fun J17 =>
some ((), J17)
else
if 0 ≤ (w32 (26 + (J11 26 0 24))) ∧ (w32 (26 + (J11 26 0 24))) < 66 then
if 400 < (w32 ((J14 26 0 29) + (J14 27 5 (w32 (26 + (J11 26 0 24))).toNat))) then
ltI (sI J14 26 0 25 5) fun J29 =>
ltI (sI J29 26 0 26 (I 26 0 21)) fun J30 =>
some ((), J30)
else
bnd (f_M_adds a1 (26 + (J11 26 0 24)) J14) fun _ J20 =>
ltI (sI J20 26 0 29 ((J20 26 0 29) + (J20 27 5 (w32 (26 + (J11 26 0 24))).toNat))) fun J22 =>
bnd (f_M_advance J22) fun _ J24 =>
bnd (f_M_takesSign 41 J24) fun _ J27 =>
some ((), J27)
else none
else
some ((), J11)
else
some ((), J8)
else
some ((), J5)
set_option maxRecDepth 20000 in
theorem R_M_ruleItem (Z : ZT) (a1 : Int) (a2 : Int) (I : Mem) (r : Unit) (J : Mem) (hf : f_M_ruleItem a1 a2 I = some (r, J)) : Runs Z yX13_ruleItem cX13_ruleItem 5 (none) 5 [vr Z 26 0, vi a1, vi a2] I (none, J) := by
  refine Runs.of (rv := fun _ => none) (by decide +kernel) (Nat.le_of_ble_eq_true rfl) hf (fun gr => ?_)
  unfold f_M_ruleItem
  refine WQ.loc [0, 1, 2] (lv' := [(0, vr Z 26 0), (1, vi a1), (2, vi a2)]) rfl ?_
  refine wq_aload_n dX13_ruleItem_0 0 rfl rfl ?_
  refine g_26_21 ln_RX13_231 dX13_ruleItem_1 ?_
  refine wq_istore_n (lv' := [(3, vi (I 26 0 21)), (0, vr Z 26 0), (1, vi a1), (2, vi a2)]) dX13_ruleItem_4 rfl (by decide) rfl ?_
  refine wq_aload_n dX13_ruleItem_5 1 rfl rfl ?_
  refine wq_cVv M_M_advance (R_M_advance Z _) ob_26 rfl rfl (by decide) (by decide) (Nat.le_of_ble_eq_true rfl) ln_RX13_270 dX13_ruleItem_6 (fun gr1 _ J2 => ?_)
  refine wq_aload_n dX13_ruleItem_9 1 rfl rfl ?_
  refine wq_aload_n dX13_ruleItem_10 1 rfl rfl ?_
  refine g_26_23 ln_RX13_237 dX13_ruleItem_11 ?_
  refine wq_iconst dX13_ruleItem_14 ?_
  refine WQ.via 23 [vi (if (w32 (J2 26 0 23)) = 2 then 0 else 1), vr Z 26 0] (by
      refine wq_iconst dX13_ruleItem_23 ?_
      refine wq_cVi M_M_faulty (R_M_faulty Z (if (w32 (J2 26 0 23)) = 2 then 0 else 1) 1 _) ob_26 rfl rfl (by decide) (by decide) (Nat.le_of_ble_eq_true rfl) ln_RX13_266 dX13_ruleItem_24 (fun gr4 x6 J5 => ?_)
      refine wq_if_ne 73 dX13_ruleItem_27 (by decide) rfl (fun c39 => ?_) (fun c39 => ?_)
      · refine wq_aload_n dX13_ruleItem_30 1 rfl rfl ?_
        refine wq_aload_n dX13_ruleItem_31 1 rfl rfl ?_
        refine g_26_24 ln_RX13_234 dX13_ruleItem_32 ?_
        refine wq_bipush dX13_ruleItem_35 (by decide) ?_
        refine WQ.via 45 [vi (if (w32 (J5 26 0 24)) < 40 then 0 else 1), vr Z 26 0] (by
            refine wq_iconst dX13_ruleItem_45 ?_
            refine wq_cVi M_M_faulty (R_M_faulty Z (if (w32 (J5 26 0 24)) < 40 then 0 else 1) 2 _) ob_26 rfl rfl (by decide) (by decide) (Nat.le_of_ble_eq_true rfl) ln_RX13_266 dX13_ruleItem_46 (fun gr7 x9 J8 => ?_)
            refine wq_if_ne 73 dX13_ruleItem_49 (by decide) rfl (fun c36 => ?_) (fun c36 => ?_)
            · refine wq_aload_n dX13_ruleItem_52 1 rfl rfl ?_
              refine wq_aload_n dX13_ruleItem_53 1 rfl rfl ?_
              refine g_26_24 ln_RX13_234 dX13_ruleItem_54 ?_
              refine wq_iload_n dX13_ruleItem_57 3 rfl rfl ?_
              refine WQ.via 66 [vi (if (w32 (J8 26 0 24)) < (w32 a2) then 0 else 1), vr Z 26 0] (by
                  refine wq_iconst dX13_ruleItem_66 ?_
                  refine wq_cVi M_M_faulty (R_M_faulty Z (if (w32 (J8 26 0 24)) < (w32 a2) then 0 else 1) 4 _) ob_26 rfl rfl (by decide) (by decide) (Nat.le_of_ble_eq_true rfl) ln_RX13_266 dX13_ruleItem_67 (fun gr10 x12 J11 => ?_)
                  refine wq_if_eq 74 dX13_ruleItem_70 (by decide) rfl (fun c33 => ?_) (fun c33 => ?_)
                  · refine wq_aload_n dX13_ruleItem_74 1 rfl rfl ?_
                    refine g_26_24 ln_RX13_234 dX13_ruleItem_75 ?_
                    refine wq_istore (lv' := [(4, vi (J11 26 0 24)), (3, vi (I 26 0 21)), (0, vr Z 26 0), (1, vi a1), (2, vi a2)]) dX13_ruleItem_78 (by decide) rfl ?_
                    refine wq_aload_n dX13_ruleItem_80 2 rfl rfl ?_
                    refine wq_iload_n dX13_ruleItem_81 3 rfl rfl ?_
                    refine wq_cVi M_M_many (R_M_many Z a1 _) ob_26 rfl rfl (by decide) (by decide) (Nat.le_of_ble_eq_true rfl) ln_RX13_103 dX13_ruleItem_82 (fun gr13 x15 J14 => ?_)
                    refine wq_sipush dX13_ruleItem_85 (by decide) ?_
                    refine wq_icmp_eq 112 dX13_ruleItem_88 (by decide) rfl rfl (fun c32 => ?_) (fun c32 => ?_)
                    · refine wq_aload_n dX13_ruleItem_112 2 rfl rfl ?_
                      refine wq_iconst dX13_ruleItem_113 ?_
                      refine p_26_25 ln_RX13_247 dX13_ruleItem_114 (fun J16 => ?_)
                      refine wq_aload_n dX13_ruleItem_117 2 rfl rfl ?_
                      refine wq_iload_n dX13_ruleItem_118 1 rfl rfl ?_
                      refine p_26_26 ln_RX13_250 dX13_ruleItem_119 (fun J17 => ?_)
                      exact wq_vret rfl rfl dX13_ruleItem_122
                    · refine wq_aload_n dX13_ruleItem_91 2 rfl rfl ?_
                      refine g_26_29 ln_RX13_273 dX13_ruleItem_92 ?_
                      refine wq_aload_n dX13_ruleItem_95 2 rfl rfl ?_
                      refine g_26_8 ln_RX13_31 dX13_ruleItem_96 ?_
                      refine wq_bipush dX13_ruleItem_99 (by decide) ?_
                      refine wq_iload dX13_ruleItem_101 0 rfl ?_
                      refine wq_iadd dX13_ruleItem_103 ?_
                      refine wq_grd (fun g18 => ?_)
                      refine wq_iald (k := 27) (i := 5) rfl (by decide) rfl rfl (m := 66) g18 (Nat.le_of_ble_eq_true rfl) dX13_ruleItem_104 ?_
                      refine wq_iadd dX13_ruleItem_105 ?_
                      refine wq_sipush dX13_ruleItem_106 (by decide) ?_
                      refine wq_icmp_le 123 dX13_ruleItem_109 (by decide) rfl rfl (fun c31 => ?_) (fun c31 => ?_)
                      · refine wq_aload_n dX13_ruleItem_112 2 rfl rfl ?_
                        refine wq_iconst dX13_ruleItem_113 ?_
                        refine p_26_25 ln_RX13_247 dX13_ruleItem_114 (fun J29 => ?_)
                        refine wq_aload_n dX13_ruleItem_117 2 rfl rfl ?_
                        refine wq_iload_n dX13_ruleItem_118 1 rfl rfl ?_
                        refine p_26_26 ln_RX13_250 dX13_ruleItem_119 (fun J30 => ?_)
                        exact wq_vret rfl rfl dX13_ruleItem_122
                      · refine wq_aload_n dX13_ruleItem_123 2 rfl rfl ?_
                        refine wq_iload_n dX13_ruleItem_124 3 rfl rfl ?_
                        refine wq_bipush dX13_ruleItem_125 (by decide) ?_
                        refine wq_iload dX13_ruleItem_127 0 rfl ?_
                        refine wq_iadd dX13_ruleItem_129 ?_
                        refine wq_cVv M_M_adds (R_M_adds Z a1 (26 + (J11 26 0 24)) _) ob_26 rfl rfl (by decide) (by decide) (Nat.le_of_ble_eq_true rfl) ln_RX13_93 dX13_ruleItem_130 (fun gr19 _ J20 => ?_)
                        refine wq_aload_n dX13_ruleItem_133 2 rfl rfl ?_
                        refine wq_dup dX13_ruleItem_134 rfl ?_
                        refine g_26_29 ln_RX13_273 dX13_ruleItem_135 ?_
                        refine wq_aload_n dX13_ruleItem_138 2 rfl rfl ?_
                        refine g_26_8 ln_RX13_31 dX13_ruleItem_139 ?_
                        refine wq_bipush dX13_ruleItem_142 (by decide) ?_
                        refine wq_iload dX13_ruleItem_144 0 rfl ?_
                        refine wq_iadd dX13_ruleItem_146 ?_
                        refine wq_iald (k := 27) (i := 5) rfl (by decide) rfl rfl (m := 66) g18 (Nat.le_of_ble_eq_true rfl) dX13_ruleItem_147 ?_
                        refine wq_iadd dX13_ruleItem_148 ?_
                        refine p_26_29 ln_RX13_273 dX13_ruleItem_149 (fun J22 => ?_)
                        refine wq_aload_n dX13_ruleItem_152 2 rfl rfl ?_
                        refine wq_cVv M_M_advance (R_M_advance Z _) ob_26 rfl rfl (by decide) (by decide) (Nat.le_of_ble_eq_true rfl) ln_RX13_270 dX13_ruleItem_153 (fun gr23 _ J24 => ?_)
                        refine wq_aload_n dX13_ruleItem_156 2 rfl rfl ?_
                        refine wq_bipush dX13_ruleItem_157 (by decide) ?_
                        refine wq_cVv M_M_takesSign (R_M_takesSign Z 41 _) ob_26 rfl rfl (by decide) (by decide) (Nat.le_of_ble_eq_true rfl) ln_RX13_276 dX13_ruleItem_159 (fun gr26 _ J27 => ?_)
                        exact wq_vret rfl rfl dX13_ruleItem_162
                  · exact wq_vret rfl rfl dX13_ruleItem_73) (fun hj34 => ?_)
              refine WQ.both ((w32 (J8 26 0 24)) < (w32 a2)) ?_
              refine wq_icmp_lt 65 dX13_ruleItem_58 (by decide) rfl rfl (fun c35 => ?_) (fun c35 => ?_)
              · refine wq_iconst dX13_ruleItem_65 ?_
                exact WQ.top (if_pos c35) hj34
              · refine wq_iconst dX13_ruleItem_61 ?_
                refine wq_goto 66 dX13_ruleItem_62 (by decide) ?_
                exact WQ.top (if_neg c35) hj34
            · exact wq_vret rfl rfl dX13_ruleItem_73) (fun hj37 => ?_)
        refine WQ.both ((w32 (J5 26 0 24)) < 40) ?_
        refine wq_icmp_lt 44 dX13_ruleItem_37 (by decide) rfl rfl (fun c38 => ?_) (fun c38 => ?_)
        · refine wq_iconst dX13_ruleItem_44 ?_
          exact WQ.top (if_pos c38) hj37
        · refine wq_iconst dX13_ruleItem_40 ?_
          refine wq_goto 45 dX13_ruleItem_41 (by decide) ?_
          exact WQ.top (if_neg c38) hj37
      · exact wq_vret rfl rfl dX13_ruleItem_73) (fun hj40 => ?_)
  refine WQ.both ((w32 (J2 26 0 23)) = 2) ?_
  refine wq_icmp_eq 22 dX13_ruleItem_15 (by decide) rfl rfl (fun c41 => ?_) (fun c41 => ?_)
  · refine wq_iconst dX13_ruleItem_22 ?_
    exact WQ.top (if_pos c41) hj40
  · refine wq_iconst dX13_ruleItem_18 ?_
    refine wq_goto 23 dX13_ruleItem_19 (by decide) ?_
    exact WQ.top (if_neg c41) hj40

theorem M_M_wordItem : MwV yX13_wordItem cX13_wordItem 3 (none) 1 := ⟨li_8 40 (by decide +kernel) (by decide +kernel), li_8 39 (by decide +kernel) (by decide +kernel), lw_in 73 (by decide +kernel) (by decide +kernel), li_1 16 (by decide +kernel) (by decide +kernel), by decide +kernel⟩
theorem ln_RX13_282 : Cond.methodLink RX13 282 yX13_wordItem ∈ lw_good := li_8 37 (by decide +kernel) (by decide +kernel)
theorem M_M_ruleItem : MwV yX13_ruleItem cX13_ruleItem 5 (none) 2 := ⟨li_8 32 (by decide +kernel) (by decide +kernel), li_8 31 (by decide +kernel) (by decide +kernel), lw_in 71 (by decide +kernel) (by decide +kernel), li_1 16 (by decide +kernel) (by decide +kernel), by decide +kernel⟩
theorem ln_RX13_279 : Cond.methodLink RX13 279 yX13_ruleItem ∈ lw_good := li_8 29 (by decide +kernel) (by decide +kernel)
noncomputable def f_M_items_j45 (v1 : Int) (v2 : Int)   (I : Mem) : Option (((Int) ⊕ (Unit)) × Mem) :=
if (w32 (I 26 0 23)) = 1 then
some (.inl 1, I)
else
bnd (f_M_isSign 40 I) fun x18 J17 =>
if (w32 x18) = 0 then
some (.inl 0, J17)
else
some (.inl 1, J17)

noncomputable def f_M_items_w11 (v1 : Int) (v2 : Int) (s : Int) (I : Mem) : Option (((Int) ⊕ (Unit)) × Mem) :=
if (w32 s) = 0 then
some (.inr (), I)
else
if (w32 (I 26 0 25)) = 0 then
bnd (f_M_isSign 40 I) fun x7 J6 =>
if (w32 x7) = 0 then
bnd (f_M_wordItem v1 J6) fun _ J10 =>
f_M_items_j45 v1 v2 J10
else
bnd (f_M_ruleItem v1 v2 J6) fun _ J13 =>
f_M_items_j45 v1 v2 J13
else
some (.inr (), I)

noncomputable def f_M_items (a1 : Int) (a2 : Int) (I : Mem) : Option ((Unit) × Mem) :=
ltI (sI I 26 0 29 0) fun J1 =>
bnd (f_M_laysLengths J1) fun _ J3 =>
bnd (whl (f_M_items_w11 a1 a2) 1 J3) fun r57 J58 =>
some ((), J58)
set_option maxRecDepth 20000 in
theorem R_M_items (Z : ZT) (a1 : Int) (a2 : Int) (I : Mem) (r : Unit) (J : Mem) (hf : f_M_items a1 a2 I = some (r, J)) : Runs Z yX13_items cX13_items 4 (none) 6 [vr Z 26 0, vi a1, vi a2] I (none, J) := by
  refine Runs.of (rv := fun _ => none) (by decide +kernel) (Nat.le_of_ble_eq_true rfl) hf (fun gr => ?_)
  unfold f_M_items
  refine WQ.loc [0, 1, 2] (lv' := [(0, vr Z 26 0), (1, vi a1), (2, vi a2)]) rfl ?_
  refine wq_aload_n dX13_items_0 0 rfl rfl ?_
  refine wq_iconst dX13_items_1 ?_
  refine p_26_29 ln_RX13_273 dX13_items_2 (fun J1 => ?_)
  refine wq_aload_n dX13_items_5 0 rfl rfl ?_
  refine wq_cVv M_M_laysLengths (R_M_laysLengths Z _) ob_26 rfl rfl (by decide) (by decide) (Nat.le_of_ble_eq_true rfl) ln_RX13_137 dX13_items_6 (fun gr2 _ J3 => ?_)
  refine wq_iconst dX13_items_9 ?_
  refine wq_istore_n (lv' := [(3, vi 1), (0, vr Z 26 0), (1, vi a1), (2, vi a2)]) dX13_items_10 rfl (by decide) rfl ?_
  refine WQ.loc [1, 2, 3, 0] (lv' := [(0, vr Z 26 0), (1, vi a1), (2, vi a2), (3, vi 1)]) rfl ?_
  refine wq_loopS (fun s36 => [(0, vr Z 26 0), (1, vi a1), (2, vi a2), (3, vi s36)]) 71 (fun _ => []) (fun κ30 bk31 ex32 gr35 s36 J34 => ?_) (fun gr59 r57 J58 => ?_) gr2 _ rfl
  · unfold f_M_items_w11
    refine wq_iload_n dX13_items_11 3 rfl rfl ?_
    refine wq_if_eq 71 dX13_items_12 (by decide) rfl (fun c56 => ?_) (fun c56 => ?_)
    · exact WQ.loc [] rfl (ex32 _ _ _)
    · refine wq_aload_n dX13_items_15 0 rfl rfl ?_
      refine g_26_25 ln_RX13_247 dX13_items_16 ?_
      refine wq_if_ne 71 dX13_items_19 (by decide) rfl (fun c55 => ?_) (fun c55 => ?_)
      · refine wq_aload_n dX13_items_22 0 rfl rfl ?_
        refine wq_bipush dX13_items_23 (by decide) ?_
        refine wq_cVi M_M_isSign (R_M_isSign Z 40 _) ob_26 rfl rfl (by decide) (by decide) (Nat.le_of_ble_eq_true rfl) ln_RX13_263 dX13_items_25 (fun gr37 x39 J38 => ?_)
        have hj40 : ∀ (gr49 : Nat → Nat)   (J48 : Mem), WQ Z (yX13_items, cX13_items, 4, none, 6) I gr49 45 [(0, vr Z 26 0), (1, vi a1), (2, vi a2)] [] J48 (f_M_items_j45 a1 a2 J48) κ30 := by
          intro gr49 J48
          unfold f_M_items_j45
          refine wq_aload_n dX13_items_45 0 rfl rfl ?_
          refine g_26_23 ln_RX13_237 dX13_items_46 ?_
          refine wq_iconst dX13_items_49 ?_
          refine wq_icmp_eq 62 dX13_items_50 (by decide) rfl rfl (fun c54 => ?_) (fun c54 => ?_)
          · refine wq_iconst dX13_items_62 ?_
            refine wq_goto 67 dX13_items_63 (by decide) ?_
            refine wq_istore_n (lv' := [(3, vi 1), (0, vr Z 26 0), (1, vi a1), (2, vi a2)]) dX13_items_67 rfl (by decide) rfl ?_
            refine wq_goto 11 dX13_items_68 (by decide) ?_
            exact WQ.loc [1, 2, 3, 0] rfl (bk31 _ _ _)
          · refine wq_aload_n dX13_items_53 0 rfl rfl ?_
            refine wq_bipush dX13_items_54 (by decide) ?_
            refine wq_cVi M_M_isSign (R_M_isSign Z 40 _) ob_26 rfl rfl (by decide) (by decide) (Nat.le_of_ble_eq_true rfl) ln_RX13_263 dX13_items_56 (fun gr50 x52 J51 => ?_)
            refine wq_if_eq 66 dX13_items_59 (by decide) rfl (fun c53 => ?_) (fun c53 => ?_)
            · refine wq_iconst dX13_items_66 ?_
              refine wq_istore_n (lv' := [(3, vi 0), (0, vr Z 26 0), (1, vi a1), (2, vi a2)]) dX13_items_67 rfl (by decide) rfl ?_
              refine wq_goto 11 dX13_items_68 (by decide) ?_
              exact WQ.loc [1, 2, 3, 0] rfl (bk31 _ _ _)
            · refine wq_iconst dX13_items_62 ?_
              refine wq_goto 67 dX13_items_63 (by decide) ?_
              refine wq_istore_n (lv' := [(3, vi 1), (0, vr Z 26 0), (1, vi a1), (2, vi a2)]) dX13_items_67 rfl (by decide) rfl ?_
              refine wq_goto 11 dX13_items_68 (by decide) ?_
              exact WQ.loc [1, 2, 3, 0] rfl (bk31 _ _ _)
        refine wq_if_eq 40 dX13_items_28 (by decide) rfl (fun c47 => ?_) (fun c47 => ?_)
        · refine wq_aload_n dX13_items_40 0 rfl rfl ?_
          refine wq_iload_n dX13_items_41 1 rfl rfl ?_
          refine wq_cVv M_M_wordItem (R_M_wordItem Z a1 _) ob_26 rfl rfl (by decide) (by decide) (Nat.le_of_ble_eq_true rfl) ln_RX13_282 dX13_items_42 (fun gr41 _ J42 => ?_)
          exact WQ.loc [0, 1, 2] rfl (hj40 _   _)
        · refine wq_aload_n dX13_items_31 0 rfl rfl ?_
          refine wq_iload_n dX13_items_32 1 rfl rfl ?_
          refine wq_iload_n dX13_items_33 2 rfl rfl ?_
          refine wq_cVv M_M_ruleItem (R_M_ruleItem Z a1 a2 _) ob_26 rfl rfl (by decide) (by decide) (Nat.le_of_ble_eq_true rfl) ln_RX13_279 dX13_items_34 (fun gr44 _ J45 => ?_)
          refine wq_goto 45 dX13_items_37 (by decide) ?_
          exact WQ.loc [0, 1, 2] rfl (hj40 _   _)
      · exact WQ.loc [] rfl (ex32 _ _ _)
  · exact wq_vret rfl rfl dX13_items_71

theorem ln_RX13_285 : Cond.fieldLink RX13 285 RX13 "toldOnce" "I" ∈ lw_good := li_7 82 (by decide +kernel) (by decide +kernel)
noncomputable def f_M_isOnce (a1 : Int) (I : Mem) : Option ((Int) × Mem) :=
bnd (f_M_faulty (if (w32 (ian (isr (I 26 0 28) a1) 1)) = 1 then 1 else 0) 3 I) fun x3 J2 =>
if (w32 x3) = 0 then
ltI (sI J2 26 0 28 (ior (J2 26 0 28) (ish 1 a1))) fun J4 =>
bnd (f_M_advance J4) fun _ J6 =>
some (1, J6)
else
some (0, J2)
set_option maxRecDepth 20000 in
theorem R_M_isOnce (Z : ZT) (a1 : Int) (I : Mem) (r : Int) (J : Mem) (hf : f_M_isOnce a1 I = some (r, J)) : Runs Z yX13_isOnce cX13_isOnce 2 (some .boolean) 4 [vr Z 26 0, vi a1] I (some (vi r), J) := by
  refine Runs.of (rv := fun x => some (vi x)) (by decide +kernel) (Nat.le_of_ble_eq_true rfl) hf (fun gr => ?_)
  unfold f_M_isOnce
  refine WQ.loc [0, 1] (lv' := [(0, vr Z 26 0), (1, vi a1)]) rfl ?_
  refine wq_aload_n dX13_isOnce_0 0 rfl rfl ?_
  refine wq_aload_n dX13_isOnce_1 0 rfl rfl ?_
  refine g_26_28 ln_RX13_285 dX13_isOnce_2 ?_
  refine wq_iload_n dX13_isOnce_5 1 rfl rfl ?_
  refine wq_ishr dX13_isOnce_6 ?_
  refine wq_iconst dX13_isOnce_7 ?_
  refine wq_iand dX13_isOnce_8 ?_
  refine wq_iconst dX13_isOnce_9 ?_
  refine WQ.via 18 [vi (if (w32 (ian (isr (I 26 0 28) a1) 1)) = 1 then 1 else 0), vr Z 26 0] (by
      refine wq_iconst dX13_isOnce_18 ?_
      refine wq_cVi M_M_faulty (R_M_faulty Z (if (w32 (ian (isr (I 26 0 28) a1) 1)) = 1 then 1 else 0) 3 _) ob_26 rfl rfl (by decide) (by decide) (Nat.le_of_ble_eq_true rfl) ln_RX13_266 dX13_isOnce_19 (fun gr1 x3 J2 => ?_)
      refine wq_if_eq 27 dX13_isOnce_22 (by decide) rfl (fun c8 => ?_) (fun c8 => ?_)
      · refine wq_aload_n dX13_isOnce_27 0 rfl rfl ?_
        refine wq_dup dX13_isOnce_28 rfl ?_
        refine g_26_28 ln_RX13_285 dX13_isOnce_29 ?_
        refine wq_iconst dX13_isOnce_32 ?_
        refine wq_iload_n dX13_isOnce_33 1 rfl rfl ?_
        refine wq_ishl dX13_isOnce_34 ?_
        refine wq_ior dX13_isOnce_35 ?_
        refine p_26_28 ln_RX13_285 dX13_isOnce_36 (fun J4 => ?_)
        refine wq_aload_n dX13_isOnce_39 0 rfl rfl ?_
        refine wq_cVv M_M_advance (R_M_advance Z _) ob_26 rfl rfl (by decide) (by decide) (Nat.le_of_ble_eq_true rfl) ln_RX13_270 dX13_isOnce_40 (fun gr5 _ J6 => ?_)
        refine wq_iconst dX13_isOnce_43 ?_
        exact wq_zret rfl (by decide) rfl dX13_isOnce_44
      · refine wq_iconst dX13_isOnce_25 ?_
        exact wq_zret rfl (by decide) rfl dX13_isOnce_26) (fun hj9 => ?_)
  refine WQ.both ((w32 (ian (isr (I 26 0 28) a1) 1)) = 1) ?_
  refine wq_icmp_ne 17 dX13_isOnce_10 (by decide) rfl rfl (fun c10 => ?_) (fun c10 => ?_)
  · refine wq_iconst dX13_isOnce_13 ?_
    refine wq_goto 18 dX13_isOnce_14 (by decide) ?_
    exact WQ.top (if_pos c10) hj9
  · refine wq_iconst dX13_isOnce_17 ?_
    exact WQ.top (if_neg c10) hj9

noncomputable def f_M_leastOf (a0 : Int) (I : Mem) : Option ((Int) × Mem) :=
if (w32 a0) = 0 then
some (2, I)
else
some (0, I)
set_option maxRecDepth 20000 in
theorem R_M_leastOf (Z : ZT) (a0 : Int) (I : Mem) (r : Int) (J : Mem) (hf : f_M_leastOf a0 I = some (r, J)) : Runs Z yX13_leastOf cX13_leastOf 1 (some .int) 1 [vi a0] I (some (vi r), J) := by
  refine Runs.of (rv := fun x => some (vi x)) (by decide +kernel) (Nat.le_of_ble_eq_true rfl) hf (fun gr => ?_)
  unfold f_M_leastOf
  refine WQ.loc [0] (lv' := [(0, vi a0)]) rfl ?_
  refine wq_iload_n dX13_leastOf_0 0 rfl rfl ?_
  refine wq_if_ne 8 dX13_leastOf_1 (by decide) rfl (fun c1 => ?_) (fun c1 => ?_)
  · refine wq_iconst dX13_leastOf_4 ?_
    refine wq_goto 9 dX13_leastOf_5 (by decide) ?_
    exact wq_iret rfl rfl dX13_leastOf_9
  · refine wq_iconst dX13_leastOf_8 ?_
    exact wq_iret rfl rfl dX13_leastOf_9

noncomputable def f_M_mostOf (a0 : Int) (I : Mem) : Option ((Int) × Mem) :=
if (w32 a0) = 0 then
some (9, I)
else
if (w32 a0) = 1 then
some (2, I)
else
some (1, I)
set_option maxRecDepth 20000 in
theorem R_M_mostOf (Z : ZT) (a0 : Int) (I : Mem) (r : Int) (J : Mem) (hf : f_M_mostOf a0 I = some (r, J)) : Runs Z yX13_mostOf cX13_mostOf 1 (some .int) 1 [vi a0] I (some (vi r), J) := by
  refine Runs.of (rv := fun x => some (vi x)) (by decide +kernel) (Nat.le_of_ble_eq_true rfl) hf (fun gr => ?_)
  unfold f_M_mostOf
  refine WQ.loc [0] (lv' := [(0, vi a0)]) rfl ?_
  refine wq_iload_n dX13_mostOf_0 0 rfl rfl ?_
  refine wq_if_ne 9 dX13_mostOf_1 (by decide) rfl (fun c2 => ?_) (fun c2 => ?_)
  · refine wq_bipush dX13_mostOf_4 (by decide) ?_
    refine wq_goto 19 dX13_mostOf_6 (by decide) ?_
    exact wq_iret rfl rfl dX13_mostOf_19
  · refine wq_iload_n dX13_mostOf_9 0 rfl rfl ?_
    refine wq_iconst dX13_mostOf_10 ?_
    refine wq_icmp_ne 18 dX13_mostOf_11 (by decide) rfl rfl (fun c1 => ?_) (fun c1 => ?_)
    · refine wq_iconst dX13_mostOf_14 ?_
      refine wq_goto 19 dX13_mostOf_15 (by decide) ?_
      exact wq_iret rfl rfl dX13_mostOf_19
    · refine wq_iconst dX13_mostOf_18 ?_
      exact wq_iret rfl rfl dX13_mostOf_19

theorem M_M_isKey : MwV yX13_isKey cX13_isKey 3 (some .boolean) 1 := ⟨li_7 237 (by decide +kernel) (by decide +kernel), li_7 236 (by decide +kernel) (by decide +kernel), lw_in 63 (by decide +kernel) (by decide +kernel), li_1 16 (by decide +kernel) (by decide +kernel), by decide +kernel⟩
theorem ln_RX13_290 : Cond.methodLink RX13 290 yX13_isKey ∈ lw_good := li_7 234 (by decide +kernel) (by decide +kernel)
theorem M_M_isOnce : MwV yX13_isOnce cX13_isOnce 2 (some .boolean) 1 := ⟨li_8 52 (by decide +kernel) (by decide +kernel), li_8 51 (by decide +kernel) (by decide +kernel), lw_in 75 (by decide +kernel) (by decide +kernel), li_1 16 (by decide +kernel) (by decide +kernel), by decide +kernel⟩
theorem M_M_leastOf : MwS yX13_leastOf cX13_leastOf 1 (some .int) 1 := ⟨li_8 55 (by decide +kernel) (by decide +kernel), li_8 54 (by decide +kernel) (by decide +kernel), li_1 16 (by decide +kernel) (by decide +kernel), by decide +kernel⟩
theorem M_M_mostOf : MwS yX13_mostOf cX13_mostOf 1 (some .int) 1 := ⟨li_8 58 (by decide +kernel) (by decide +kernel), li_8 57 (by decide +kernel) (by decide +kernel), li_1 16 (by decide +kernel) (by decide +kernel), by decide +kernel⟩
theorem M_M_number : MwV yX13_number cX13_number 4 (some .int) 2 := ⟨li_8 62 (by decide +kernel) (by decide +kernel), li_8 61 (by decide +kernel) (by decide +kernel), lw_in 76 (by decide +kernel) (by decide +kernel), li_1 16 (by decide +kernel) (by decide +kernel), by decide +kernel⟩
theorem ln_RX13_307 : Cond.methodLink RX13 307 yX13_number ∈ lw_good := li_8 59 (by decide +kernel) (by decide +kernel)
theorem ln_RX13_304 : Cond.methodLink RX13 304 yX13_mostOf ∈ lw_good := li_8 56 (by decide +kernel) (by decide +kernel)
theorem ln_RX13_301 : Cond.methodLink RX13 301 yX13_leastOf ∈ lw_good := li_8 53 (by decide +kernel) (by decide +kernel)
theorem ln_RX13_298 : Cond.methodLink RX13 298 yX13_isOnce ∈ lw_good := li_8 49 (by decide +kernel) (by decide +kernel)
noncomputable def f_M_statement_j43   (e0 : Int) (I : Mem) : Option ((Unit) × Mem) :=
bnd (f_M_faulty (if (w32 e0) = (-1) then 1 else 0) 1 I) fun x16 J15 =>
if (w32 x16) = 0 then
bnd (f_M_isOnce e0 J15) fun x19 J18 =>
if (w32 x19) = 0 then
some ((), J18)
else
bnd (f_M_leastOf e0 J18) fun x22 J21 =>
bnd (f_M_mostOf e0 J21) fun x25 J24 =>
bnd (f_M_number x22 x25 J24) fun x28 J27 =>
if 0 ≤ (w32 e0) ∧ (w32 e0) < 16860 then
ltI (sI J27 27 0 (w32 e0).toNat x28) fun J30 =>
some ((), J30)
else none
else
some ((), J15)

noncomputable def f_M_statement  (I : Mem) : Option ((Unit) × Mem) :=
bnd (f_M_isKey 3 I) fun x3 J2 =>
if (w32 x3) = 0 then
bnd (f_M_isKey 4 J2) fun x7 J6 =>
if (w32 x7) = 0 then
bnd (f_M_isKey 2 J6) fun x10 J9 =>
if (w32 x10) = 0 then
f_M_statement_j43 (-1) J9
else
f_M_statement_j43 2 J9
else
f_M_statement_j43 1 J6
else
f_M_statement_j43 0 J2
set_option maxRecDepth 20000 in
theorem R_M_statement (Z : ZT)  (I : Mem) (r : Unit) (J : Mem) (hf : f_M_statement I = some (r, J)) : Runs Z yX13_statement cX13_statement 2 (none) 6 [vr Z 26 0] I (none, J) := by
  refine Runs.of (rv := fun _ => none) (by decide +kernel) (Nat.le_of_ble_eq_true rfl) hf (fun gr => ?_)
  unfold f_M_statement
  refine WQ.loc [0] (lv' := [(0, vr Z 26 0)]) rfl ?_
  refine wq_aload_n dX13_statement_0 0 rfl rfl ?_
  refine wq_ldc_ws (q := (288, "least", 3)) (by decide) rfl dX13_statement_1 ?_
  refine wq_cVi M_M_isKey (R_M_isKey Z 3 _) ob_26 rfl rfl (by decide) (by decide) (Nat.le_of_ble_eq_true rfl) ln_RX13_290 dX13_statement_4 (fun gr1 x3 J2 => ?_)
  have hj4 : ∀ (gr36 : Nat → Nat)  (hj4e0 : Int) (J35 : Mem), WQ Z (yX13_statement, cX13_statement, 2, none, 6) I gr36 43 [(0, vr Z 26 0)] [vi hj4e0] J35 (f_M_statement_j43 hj4e0 J35) (fun b K => some (.inl ((fun _ => none) b), K)) := by
    intro gr36 hj4e0 J35
    unfold f_M_statement_j43
    refine wq_istore_n (lv' := [(1, vi hj4e0), (0, vr Z 26 0)]) dX13_statement_43 rfl (by decide) rfl ?_
    refine wq_aload_n dX13_statement_44 1 rfl rfl ?_
    refine wq_iload_n dX13_statement_45 0 rfl rfl ?_
    refine wq_iconst dX13_statement_46 ?_
    refine WQ.via 55 [vi (if (w32 hj4e0) = (-1) then 1 else 0), vr Z 26 0] (by
        refine wq_iconst dX13_statement_55 ?_
        refine wq_cVi M_M_faulty (R_M_faulty Z (if (w32 hj4e0) = (-1) then 1 else 0) 1 _) ob_26 rfl rfl (by decide) (by decide) (Nat.le_of_ble_eq_true rfl) ln_RX13_266 dX13_statement_56 (fun gr37 x39 J38 => ?_)
        refine wq_if_ne 70 dX13_statement_59 (by decide) rfl (fun c55 => ?_) (fun c55 => ?_)
        · refine wq_aload_n dX13_statement_62 1 rfl rfl ?_
          refine wq_iload_n dX13_statement_63 0 rfl rfl ?_
          refine wq_cVi M_M_isOnce (R_M_isOnce Z hj4e0 _) ob_26 rfl rfl (by decide) (by decide) (Nat.le_of_ble_eq_true rfl) ln_RX13_298 dX13_statement_64 (fun gr40 x42 J41 => ?_)
          refine wq_if_ne 71 dX13_statement_67 (by decide) rfl (fun c54 => ?_) (fun c54 => ?_)
          · exact wq_vret rfl rfl dX13_statement_70
          · refine wq_aload_n dX13_statement_71 1 rfl rfl ?_
            refine g_26_0 ln_RX13_9 dX13_statement_72 ?_
            refine wq_iload_n dX13_statement_75 0 rfl rfl ?_
            refine wq_aload_n dX13_statement_76 1 rfl rfl ?_
            refine wq_iload_n dX13_statement_77 0 rfl rfl ?_
            refine wq_cSi M_M_leastOf (R_M_leastOf Z hj4e0 _) rfl rfl rfl (by decide) (by decide) (Nat.le_of_ble_eq_true rfl) ln_RX13_301 dX13_statement_78 (fun gr43 x45 J44 => ?_)
            refine wq_iload_n dX13_statement_81 0 rfl rfl ?_
            refine wq_cSi M_M_mostOf (R_M_mostOf Z hj4e0 _) rfl rfl rfl (by decide) (by decide) (Nat.le_of_ble_eq_true rfl) ln_RX13_304 dX13_statement_82 (fun gr46 x48 J47 => ?_)
            refine wq_cVi M_M_number (R_M_number Z x45 x48 _) ob_26 rfl rfl (by decide) (by decide) (Nat.le_of_ble_eq_true rfl) ln_RX13_307 dX13_statement_85 (fun gr49 x51 J50 => ?_)
            refine wq_grd (fun g52 => ?_)
            refine wq_iast (k := 27) (i := 0) (fun _ _ => rfl) (by decide) rfl rfl (m := 16860) g52 (Nat.le_of_ble_eq_true rfl) (by decide) (by decide) (by decide) dX13_statement_88 (fun J53 => ?_)
            exact wq_vret rfl rfl dX13_statement_89
        · exact wq_vret rfl rfl dX13_statement_70) (fun hj56 => ?_)
    refine WQ.both ((w32 hj4e0) = (-1)) ?_
    refine wq_icmp_ne 54 dX13_statement_47 (by decide) rfl rfl (fun c57 => ?_) (fun c57 => ?_)
    · refine wq_iconst dX13_statement_50 ?_
      refine wq_goto 55 dX13_statement_51 (by decide) ?_
      exact WQ.top (if_pos c57) hj56
    · refine wq_iconst dX13_statement_54 ?_
      exact WQ.top (if_neg c57) hj56
  refine wq_if_eq 14 dX13_statement_7 (by decide) rfl (fun c13 => ?_) (fun c13 => ?_)
  · refine wq_aload_n dX13_statement_14 0 rfl rfl ?_
    refine wq_ldc_ws (q := (294, "tie", 4)) (by decide) rfl dX13_statement_15 ?_
    refine wq_cVi M_M_isKey (R_M_isKey Z 4 _) ob_26 rfl rfl (by decide) (by decide) (Nat.le_of_ble_eq_true rfl) ln_RX13_290 dX13_statement_18 (fun gr5 x7 J6 => ?_)
    refine wq_if_eq 28 dX13_statement_21 (by decide) rfl (fun c12 => ?_) (fun c12 => ?_)
    · refine wq_aload_n dX13_statement_28 0 rfl rfl ?_
      refine wq_ldc_ws (q := (296, "inline", 2)) (by decide) rfl dX13_statement_29 ?_
      refine wq_cVi M_M_isKey (R_M_isKey Z 2 _) ob_26 rfl rfl (by decide) (by decide) (Nat.le_of_ble_eq_true rfl) ln_RX13_290 dX13_statement_32 (fun gr8 x10 J9 => ?_)
      refine wq_if_eq 42 dX13_statement_35 (by decide) rfl (fun c11 => ?_) (fun c11 => ?_)
      · refine wq_iconst dX13_statement_42 ?_
        exact WQ.loc [0] rfl (hj4 _  _ _)
      · refine wq_iconst dX13_statement_38 ?_
        refine wq_goto 43 dX13_statement_39 (by decide) ?_
        exact WQ.loc [0] rfl (hj4 _  _ _)
    · refine wq_iconst dX13_statement_24 ?_
      refine wq_goto 43 dX13_statement_25 (by decide) ?_
      exact WQ.loc [0] rfl (hj4 _  _ _)
  · refine wq_iconst dX13_statement_10 ?_
    refine wq_goto 43 dX13_statement_11 (by decide) ?_
    exact WQ.loc [0] rfl (hj4 _  _ _)

theorem ln_RX13_310 : Cond.fieldLink RX13 310 RX13 "ruleMany" "I" ∈ lw_good := li_7 84 (by decide +kernel) (by decide +kernel)
theorem M_M_items : MwV yX13_items cX13_items 4 (none) 2 := ⟨li_8 15 (by decide +kernel) (by decide +kernel), li_8 14 (by decide +kernel) (by decide +kernel), lw_in 67 (by decide +kernel) (by decide +kernel), li_1 16 (by decide +kernel) (by decide +kernel), by decide +kernel⟩
theorem ln_RX13_313 : Cond.methodLink RX13 313 yX13_items ∈ lw_good := li_8 12 (by decide +kernel) (by decide +kernel)
noncomputable def f_M_ruleLine  (I : Mem) : Option ((Unit) × Mem) :=
bnd (f_M_faulty (if (w32 (I 26 0 30)) = 40 then 1 else 0) 5 I) fun x3 J2 =>
if (w32 x3) = 0 then
bnd (f_M_advance J2) fun _ J5 =>
bnd (f_M_items ((J5 26 0 30) + 1) (J5 26 0 30) J5) fun _ J8 =>
bnd (f_M_isSign 59 J8) fun x12 J11 =>
bnd (f_M_faulty (if (w32 x12) = 0 then 1 else 0) 1 J11) fun x15 J14 =>
if (w32 x15) = 0 then
bnd (f_M_many ((J14 26 0 30) + 1) J14) fun x18 J17 =>
bnd (f_M_faulty (if (w32 x18) = 1 then 1 else 0) 3 J17) fun x21 J20 =>
if (w32 x21) = 0 then
ltI (sI J20 26 0 30 ((J20 26 0 30) + 1)) fun J22 =>
bnd (f_M_advance J22) fun _ J24 =>
some ((), J24)
else
some ((), J20)
else
some ((), J14)
else
some ((), J2)
set_option maxRecDepth 20000 in
theorem R_M_ruleLine (Z : ZT)  (I : Mem) (r : Unit) (J : Mem) (hf : f_M_ruleLine I = some (r, J)) : Runs Z yX13_ruleLine cX13_ruleLine 1 (none) 7 [vr Z 26 0] I (none, J) := by
  refine Runs.of (rv := fun _ => none) (by decide +kernel) (Nat.le_of_ble_eq_true rfl) hf (fun gr => ?_)
  unfold f_M_ruleLine
  refine WQ.loc [0] (lv' := [(0, vr Z 26 0)]) rfl ?_
  refine wq_aload_n dX13_ruleLine_0 0 rfl rfl ?_
  refine wq_aload_n dX13_ruleLine_1 0 rfl rfl ?_
  refine g_26_30 ln_RX13_310 dX13_ruleLine_2 ?_
  refine wq_bipush dX13_ruleLine_5 (by decide) ?_
  refine WQ.via 15 [vi (if (w32 (I 26 0 30)) = 40 then 1 else 0), vr Z 26 0] (by
      refine wq_iconst dX13_ruleLine_15 ?_
      refine wq_cVi M_M_faulty (R_M_faulty Z (if (w32 (I 26 0 30)) = 40 then 1 else 0) 5 _) ob_26 rfl rfl (by decide) (by decide) (Nat.le_of_ble_eq_true rfl) ln_RX13_266 dX13_ruleLine_16 (fun gr1 x3 J2 => ?_)
      refine wq_if_eq 23 dX13_ruleLine_19 (by decide) rfl (fun c32 => ?_) (fun c32 => ?_)
      · refine wq_aload_n dX13_ruleLine_23 0 rfl rfl ?_
        refine wq_cVv M_M_advance (R_M_advance Z _) ob_26 rfl rfl (by decide) (by decide) (Nat.le_of_ble_eq_true rfl) ln_RX13_270 dX13_ruleLine_24 (fun gr4 _ J5 => ?_)
        refine wq_aload_n dX13_ruleLine_27 0 rfl rfl ?_
        refine wq_aload_n dX13_ruleLine_28 0 rfl rfl ?_
        refine g_26_30 ln_RX13_310 dX13_ruleLine_29 ?_
        refine wq_iconst dX13_ruleLine_32 ?_
        refine wq_iadd dX13_ruleLine_33 ?_
        refine wq_aload_n dX13_ruleLine_34 0 rfl rfl ?_
        refine g_26_30 ln_RX13_310 dX13_ruleLine_35 ?_
        refine wq_cVv M_M_items (R_M_items Z ((J5 26 0 30) + 1) (J5 26 0 30) _) ob_26 rfl rfl (by decide) (by decide) (Nat.le_of_ble_eq_true rfl) ln_RX13_313 dX13_ruleLine_38 (fun gr7 _ J8 => ?_)
        refine wq_aload_n dX13_ruleLine_41 0 rfl rfl ?_
        refine wq_aload_n dX13_ruleLine_42 0 rfl rfl ?_
        refine wq_bipush dX13_ruleLine_43 (by decide) ?_
        refine wq_cVi M_M_isSign (R_M_isSign Z 59 _) ob_26 rfl rfl (by decide) (by decide) (Nat.le_of_ble_eq_true rfl) ln_RX13_263 dX13_ruleLine_45 (fun gr10 x12 J11 => ?_)
        refine WQ.via 56 [vi (if (w32 x12) = 0 then 1 else 0), vr Z 26 0] (by
            refine wq_iconst dX13_ruleLine_56 ?_
            refine wq_cVi M_M_faulty (R_M_faulty Z (if (w32 x12) = 0 then 1 else 0) 1 _) ob_26 rfl rfl (by decide) (by decide) (Nat.le_of_ble_eq_true rfl) ln_RX13_266 dX13_ruleLine_57 (fun gr13 x15 J14 => ?_)
            refine wq_if_ne 90 dX13_ruleLine_60 (by decide) rfl (fun c29 => ?_) (fun c29 => ?_)
            · refine wq_aload_n dX13_ruleLine_63 0 rfl rfl ?_
              refine wq_aload_n dX13_ruleLine_64 0 rfl rfl ?_
              refine wq_aload_n dX13_ruleLine_65 0 rfl rfl ?_
              refine g_26_30 ln_RX13_310 dX13_ruleLine_66 ?_
              refine wq_iconst dX13_ruleLine_69 ?_
              refine wq_iadd dX13_ruleLine_70 ?_
              refine wq_cVi M_M_many (R_M_many Z ((J14 26 0 30) + 1) _) ob_26 rfl rfl (by decide) (by decide) (Nat.le_of_ble_eq_true rfl) ln_RX13_103 dX13_ruleLine_71 (fun gr16 x18 J17 => ?_)
              refine wq_iconst dX13_ruleLine_74 ?_
              refine WQ.via 83 [vi (if (w32 x18) = 1 then 1 else 0), vr Z 26 0] (by
                  refine wq_iconst dX13_ruleLine_83 ?_
                  refine wq_cVi M_M_faulty (R_M_faulty Z (if (w32 x18) = 1 then 1 else 0) 3 _) ob_26 rfl rfl (by decide) (by decide) (Nat.le_of_ble_eq_true rfl) ln_RX13_266 dX13_ruleLine_84 (fun gr19 x21 J20 => ?_)
                  refine wq_if_eq 91 dX13_ruleLine_87 (by decide) rfl (fun c26 => ?_) (fun c26 => ?_)
                  · refine wq_aload_n dX13_ruleLine_91 0 rfl rfl ?_
                    refine wq_dup dX13_ruleLine_92 rfl ?_
                    refine g_26_30 ln_RX13_310 dX13_ruleLine_93 ?_
                    refine wq_iconst dX13_ruleLine_96 ?_
                    refine wq_iadd dX13_ruleLine_97 ?_
                    refine p_26_30 ln_RX13_310 dX13_ruleLine_98 (fun J22 => ?_)
                    refine wq_aload_n dX13_ruleLine_101 0 rfl rfl ?_
                    refine wq_cVv M_M_advance (R_M_advance Z _) ob_26 rfl rfl (by decide) (by decide) (Nat.le_of_ble_eq_true rfl) ln_RX13_270 dX13_ruleLine_102 (fun gr23 _ J24 => ?_)
                    exact wq_vret rfl rfl dX13_ruleLine_105
                  · exact wq_vret rfl rfl dX13_ruleLine_90) (fun hj27 => ?_)
              refine WQ.both ((w32 x18) = 1) ?_
              refine wq_icmp_ne 82 dX13_ruleLine_75 (by decide) rfl rfl (fun c28 => ?_) (fun c28 => ?_)
              · refine wq_iconst dX13_ruleLine_78 ?_
                refine wq_goto 83 dX13_ruleLine_79 (by decide) ?_
                exact WQ.top (if_pos c28) hj27
              · refine wq_iconst dX13_ruleLine_82 ?_
                exact WQ.top (if_neg c28) hj27
            · exact wq_vret rfl rfl dX13_ruleLine_90) (fun hj30 => ?_)
        refine WQ.both ((w32 x12) = 0) ?_
        refine wq_if_ne 55 dX13_ruleLine_48 (by decide) rfl (fun c31 => ?_) (fun c31 => ?_)
        · refine wq_iconst dX13_ruleLine_51 ?_
          refine wq_goto 56 dX13_ruleLine_52 (by decide) ?_
          exact WQ.top (if_pos c31) hj30
        · refine wq_iconst dX13_ruleLine_55 ?_
          exact WQ.top (if_neg c31) hj30
      · exact wq_vret rfl rfl dX13_ruleLine_22) (fun hj33 => ?_)
  refine WQ.both ((w32 (I 26 0 30)) = 40) ?_
  refine wq_icmp_ne 14 dX13_ruleLine_7 (by decide) rfl rfl (fun c34 => ?_) (fun c34 => ?_)
  · refine wq_iconst dX13_ruleLine_10 ?_
    refine wq_goto 15 dX13_ruleLine_11 (by decide) ?_
    exact WQ.top (if_pos c34) hj33
  · refine wq_iconst dX13_ruleLine_14 ?_
    exact WQ.top (if_neg c34) hj33
