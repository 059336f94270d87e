theorem ln_RX6_90 : Cond.fieldLinkNest RX6 90 RX11 "orders" "Z" RX12 ∈ lw_nw := nw_in 2321 (by decide +kernel) (by decide +kernel)
theorem ln_RX6_48 : Cond.fieldLink RX6 48 RX6 "orders" "I" ∈ lw_good := li_2 9 (by decide +kernel) (by decide +kernel)
theorem ln_RX6_93 : Cond.fieldLink RX6 93 RX0 "$SwitchMap$PairRules$Word" "[I" ∈ lw_good := li_3 211 (by decide +kernel) (by decide +kernel)
theorem ln_RX6_98 : Cond.methodLink RX6 98 yWordOrd ∈ lw_good := li_3 212 (by decide +kernel) (by decide +kernel)
theorem M_Scr_readLetters : MwV yX6_readLetters cX6_readLetters 2 (some .boolean) 1 := ⟨li_3 216 (by decide +kernel) (by decide +kernel), li_3 215 (by decide +kernel) (by decide +kernel), lw_in 17 (by decide +kernel) (by decide +kernel), li_1 9 (by decide +kernel) (by decide +kernel), by decide +kernel⟩
theorem ln_RX6_102 : Cond.methodLink RX6 102 yX6_readLetters ∈ lw_good := li_3 213 (by decide +kernel) (by decide +kernel)
theorem M_Scr_readNumber : MwV yX6_readNumber cX6_readNumber 2 (some .boolean) 1 := ⟨li_3 224 (by decide +kernel) (by decide +kernel), li_3 223 (by decide +kernel) (by decide +kernel), lw_in 18 (by decide +kernel) (by decide +kernel), li_1 9 (by decide +kernel) (by decide +kernel), by decide +kernel⟩
theorem ln_RX6_105 : Cond.methodLink RX6 105 yX6_readNumber ∈ lw_good := li_3 221 (by decide +kernel) (by decide +kernel)
theorem M_Scr_readOpen : MwV yX6_readOpen cX6_readOpen 2 (some .boolean) 1 := ⟨li_3 230 (by decide +kernel) (by decide +kernel), li_3 229 (by decide +kernel) (by decide +kernel), lw_in 19 (by decide +kernel) (by decide +kernel), li_1 9 (by decide +kernel) (by decide +kernel), by decide +kernel⟩
theorem ln_RX6_108 : Cond.methodLink RX6 108 yX6_readOpen ∈ lw_good := li_3 227 (by decide +kernel) (by decide +kernel)
theorem ln_RX6_86 : Cond.methodLink RX6 86 yX8_word ∈ lw_good := li_3 209 (by decide +kernel) (by decide +kernel)
noncomputable def f_Scr_readOrder  (I : Mem) : Option ((Int) × Mem) :=
bnd (f_Src_word I) fun x3 J2 =>
if x3 < 15 then
if (w32 (wOrd x3)) = 0 then
bnd (f_Src_fail 1 J2) fun x106 J105 =>
if x106 = 0 ∨ x106 = 1 then
some (x106, J105)
else none
else
if (w32 (J2 8 0 9)) < 30 then
ltI (sI J2 8 0 9 ((J2 8 0 9) + 1)) fun J5 =>
bnd (f_Scr_addEntry x3 J5) fun x8 J7 =>
bnd (f_Src_advance J7) fun _ J10 =>
if 0 ≤ (w32 ((x3 : Nat) : Int)) ∧ (w32 ((x3 : Nat) : Int)) < 15 then
if (w32 (wSm.getD (w32 ((x3 : Nat) : Int)).toNat 0)) = 2 then
bnd (f_Src_pass 3 J10) fun x16 J15 =>
if x16 = 0 ∨ x16 = 1 then
some (x16, J15)
else none
else if (w32 (wSm.getD (w32 ((x3 : Nat) : Int)).toNat 0)) = 3 then
bnd (f_Scr_readLetters x8 J10) fun x21 J20 =>
if (w32 x21) = 0 then
some (0, J20)
else
bnd (f_Src_pass 3 J20) fun x24 J23 =>
if (w32 x24) = 0 then
some (0, J23)
else
some (1, J23)
else if (w32 (wSm.getD (w32 ((x3 : Nat) : Int)).toNat 0)) = 4 then
bnd (f_Scr_readNumber x8 J10) fun x30 J29 =>
if (w32 x30) = 0 then
some (0, J29)
else
bnd (f_Src_pass 3 J29) fun x33 J32 =>
if (w32 x33) = 0 then
some (0, J32)
else
some (1, J32)
else if (w32 (wSm.getD (w32 ((x3 : Nat) : Int)).toNat 0)) = 5 then
bnd (f_Scr_readLetters x8 J10) fun x39 J38 =>
if (w32 x39) = 0 then
some (0, J38)
else
bnd (f_Src_pass 3 J38) fun x42 J41 =>
if (w32 x42) = 0 then
some (0, J41)
else
some (1, J41)
else if (w32 (wSm.getD (w32 ((x3 : Nat) : Int)).toNat 0)) = 6 then
bnd (f_Scr_readNumber x8 J10) fun x48 J47 =>
if (w32 x48) = 0 then
some (0, J47)
else
bnd (f_Src_pass 3 J47) fun x51 J50 =>
if (w32 x51) = 0 then
some (0, J50)
else
some (1, J50)
else if (w32 (wSm.getD (w32 ((x3 : Nat) : Int)).toNat 0)) = 7 then
bnd (f_Scr_readNumber x8 J10) fun x57 J56 =>
if (w32 x57) = 0 then
some (0, J56)
else
bnd (f_Src_pass 3 J56) fun x60 J59 =>
if (w32 x60) = 0 then
some (0, J59)
else
some (1, J59)
else if (w32 (wSm.getD (w32 ((x3 : Nat) : Int)).toNat 0)) = 8 then
bnd (f_Scr_readNumber x8 J10) fun x66 J65 =>
if (w32 x66) = 0 then
some (0, J65)
else
bnd (f_Src_pass 3 J65) fun x69 J68 =>
if (w32 x69) = 0 then
some (0, J68)
else
some (1, J68)
else if (w32 (wSm.getD (w32 ((x3 : Nat) : Int)).toNat 0)) = 9 then
bnd (f_Scr_readNumber x8 J10) fun x75 J74 =>
if (w32 x75) = 0 then
some (0, J74)
else
bnd (f_Src_pass 3 J74) fun x78 J77 =>
if (w32 x78) = 0 then
some (0, J77)
else
some (1, J77)
else if (w32 (wSm.getD (w32 ((x3 : Nat) : Int)).toNat 0)) = 10 then
bnd (f_Scr_readNumber x8 J10) fun x84 J83 =>
if (w32 x84) = 0 then
some (0, J83)
else
bnd (f_Scr_readOpen x8 J83) fun x87 J86 =>
if (w32 x87) = 0 then
some (0, J86)
else
some (1, J86)
else bnd (f_Scr_readNumber x8 J10) fun x93 J92 =>
if (w32 x93) = 0 then
some (0, J92)
else
bnd (f_Src_pass 3 J92) fun x96 J95 =>
if (w32 x96) = 0 then
some (0, J95)
else
some (1, J95)
else none
else
bnd (f_Src_fail 5 J2) fun x101 J100 =>
if x101 = 0 ∨ x101 = 1 then
some (x101, J100)
else none
else none
set_option maxRecDepth 20000 in
theorem R_Scr_readOrder (Z : ZT)  (I : Mem) (r : Int) (J : Mem) (hf : f_Scr_readOrder I = some (r, J)) : Runs Z yX6_readOrder cX6_readOrder 3 (some .boolean) 7 [vr Z 8 0] I (some (vi r), J) := by
  refine Runs.of (rv := fun x => some (vi x)) (by decide +kernel) (Nat.le_of_ble_eq_true rfl) hf (fun gr => ?_)
  unfold f_Scr_readOrder
  refine WQ.loc [0] (lv' := [(0, vr Z 8 0)]) rfl ?_
  refine wq_aload_n dX6_readOrder_0 0 rfl rfl ?_
  refine g_8_0 ln_RX6_36 dX6_readOrder_1 ?_
  refine wq_cVr 11 M_Src_word (R_Src_word Z _) ob_6 rfl rfl (by decide) (by decide) (Nat.le_of_ble_eq_true rfl) ln_RX6_86 dX6_readOrder_4 (fun gr1 x3 J2 => ?_)
  refine wq_grd (fun g4 => ?_)
  refine wq_astore_n (lv' := [(1, vr Z 11 x3), (0, vr Z 8 0)]) dX6_readOrder_7 rfl (by decide) rfl ?_
  refine wq_aload_n dX6_readOrder_8 0 rfl rfl ?_
  refine wq_wordOrders g4 ln_RX6_90 dX6_readOrder_9 ?_
  refine wq_if_ne 24 dX6_readOrder_12 (by decide) rfl (fun c108 => ?_) (fun c108 => ?_)
  · refine wq_aload_n dX6_readOrder_15 1 rfl rfl ?_
    refine g_8_0 ln_RX6_36 dX6_readOrder_16 ?_
    refine wq_iconst dX6_readOrder_19 ?_
    refine wq_cVi M_Src_fail (R_Src_fail Z 1 _) ob_6 rfl rfl (by decide) (by decide) (Nat.le_of_ble_eq_true rfl) ln_RX6_70 dX6_readOrder_20 (fun gr104 x106 J105 => ?_)
    refine wq_grd (fun g107 => ?_)
    exact wq_zret rfl g107 rfl dX6_readOrder_23
  · refine wq_aload_n dX6_readOrder_24 1 rfl rfl ?_
    refine g_8_9 ln_RX6_48 dX6_readOrder_25 ?_
    refine wq_bipush dX6_readOrder_28 (by decide) ?_
    refine wq_icmp_lt 42 dX6_readOrder_30 (by decide) rfl rfl (fun c103 => ?_) (fun c103 => ?_)
    · refine wq_aload_n dX6_readOrder_42 1 rfl rfl ?_
      refine wq_dup dX6_readOrder_43 rfl ?_
      refine g_8_9 ln_RX6_48 dX6_readOrder_44 ?_
      refine wq_iconst dX6_readOrder_47 ?_
      refine wq_iadd dX6_readOrder_48 ?_
      refine p_8_9 ln_RX6_48 dX6_readOrder_49 (fun J5 => ?_)
      refine wq_aload_n dX6_readOrder_52 1 rfl rfl ?_
      refine wq_aload_n dX6_readOrder_53 0 rfl rfl ?_
      refine wq_cVi M_Scr_addEntry (R_Scr_addEntry Z x3 _) ob_8 rfl rfl (by decide) (by decide) (Nat.le_of_ble_eq_true rfl) ln_RX6_76 dX6_readOrder_54 (fun gr6 x8 J7 => ?_)
      refine wq_istore_n (lv' := [(2, vi x8), (1, vr Z 11 x3), (0, vr Z 8 0)]) dX6_readOrder_57 rfl (by decide) rfl ?_
      refine wq_aload_n dX6_readOrder_58 2 rfl rfl ?_
      refine g_8_0 ln_RX6_36 dX6_readOrder_59 ?_
      refine wq_cVv M_Src_advance (R_Src_advance Z _) ob_6 rfl rfl (by decide) (by decide) (Nat.le_of_ble_eq_true rfl) ln_RX6_80 dX6_readOrder_62 (fun gr9 _ J10 => ?_)
      refine wq_gets sta_smap ln_RX6_93 dX6_readOrder_65 ?_
      refine wq_aload_n dX6_readOrder_68 1 rfl rfl ?_
      refine wq_ordinal g4 (by decide) (Nat.le_of_ble_eq_true rfl) ln_RX6_98 dX6_readOrder_69 (fun gr12 => ?_)
      refine wq_grd (fun g13 => ?_)
      refine wq_smap rfl g13 dX6_readOrder_72 ?_
      refine WQ.split (fun c18 => ?_) (fun c18 => ?_)
      · refine wq_tin (n := 2) 124 dX6_readOrder_73 rfl c18 (by decide) (by decide) rfl (by decide) ?_
        refine wq_aload_n dX6_readOrder_124 2 rfl rfl ?_
        refine g_8_0 ln_RX6_36 dX6_readOrder_125 ?_
        refine wq_iconst dX6_readOrder_128 ?_
        refine wq_cVi M_Src_pass (R_Src_pass Z 3 _) ob_6 rfl rfl (by decide) (by decide) (Nat.le_of_ble_eq_true rfl) ln_RX6_83 dX6_readOrder_129 (fun gr14 x16 J15 => ?_)
        refine wq_grd (fun g17 => ?_)
        exact wq_zret rfl g17 rfl dX6_readOrder_132
      · skip
        refine WQ.split (fun c27 => ?_) (fun c27 => ?_)
        · refine wq_tin (n := 3) 133 dX6_readOrder_73 rfl c27 (by decide) (by decide) rfl (by decide) ?_
          refine wq_aload_n dX6_readOrder_133 2 rfl rfl ?_
          refine wq_iload_n dX6_readOrder_134 0 rfl rfl ?_
          refine wq_cVi M_Scr_readLetters (R_Scr_readLetters Z x8 _) ob_8 rfl rfl (by decide) (by decide) (Nat.le_of_ble_eq_true rfl) ln_RX6_102 dX6_readOrder_135 (fun gr19 x21 J20 => ?_)
          refine wq_if_eq 156 dX6_readOrder_138 (by decide) rfl (fun c26 => ?_) (fun c26 => ?_)
          · refine wq_iconst dX6_readOrder_156 ?_
            exact wq_zret rfl (by decide) rfl dX6_readOrder_157
          · refine wq_aload_n dX6_readOrder_141 2 rfl rfl ?_
            refine g_8_0 ln_RX6_36 dX6_readOrder_142 ?_
            refine wq_iconst dX6_readOrder_145 ?_
            refine wq_cVi M_Src_pass (R_Src_pass Z 3 _) ob_6 rfl rfl (by decide) (by decide) (Nat.le_of_ble_eq_true rfl) ln_RX6_83 dX6_readOrder_146 (fun gr22 x24 J23 => ?_)
            refine wq_if_eq 156 dX6_readOrder_149 (by decide) rfl (fun c25 => ?_) (fun c25 => ?_)
            · refine wq_iconst dX6_readOrder_156 ?_
              exact wq_zret rfl (by decide) rfl dX6_readOrder_157
            · refine wq_iconst dX6_readOrder_152 ?_
              refine wq_goto 157 dX6_readOrder_153 (by decide) ?_
              exact wq_zret rfl (by decide) rfl dX6_readOrder_157
        · skip
          refine WQ.split (fun c36 => ?_) (fun c36 => ?_)
          · refine wq_tin (n := 4) 180 dX6_readOrder_73 rfl c36 (by decide) (by decide) rfl (by decide) ?_
            refine wq_aload_n dX6_readOrder_180 2 rfl rfl ?_
            refine wq_iload_n dX6_readOrder_181 0 rfl rfl ?_
            refine wq_cVi M_Scr_readNumber (R_Scr_readNumber Z x8 _) ob_8 rfl rfl (by decide) (by decide) (Nat.le_of_ble_eq_true rfl) ln_RX6_105 dX6_readOrder_182 (fun gr28 x30 J29 => ?_)
            refine wq_if_eq 203 dX6_readOrder_185 (by decide) rfl (fun c35 => ?_) (fun c35 => ?_)
            · refine wq_iconst dX6_readOrder_203 ?_
              exact wq_zret rfl (by decide) rfl dX6_readOrder_204
            · refine wq_aload_n dX6_readOrder_188 2 rfl rfl ?_
              refine g_8_0 ln_RX6_36 dX6_readOrder_189 ?_
              refine wq_iconst dX6_readOrder_192 ?_
              refine wq_cVi M_Src_pass (R_Src_pass Z 3 _) ob_6 rfl rfl (by decide) (by decide) (Nat.le_of_ble_eq_true rfl) ln_RX6_83 dX6_readOrder_193 (fun gr31 x33 J32 => ?_)
              refine wq_if_eq 203 dX6_readOrder_196 (by decide) rfl (fun c34 => ?_) (fun c34 => ?_)
              · refine wq_iconst dX6_readOrder_203 ?_
                exact wq_zret rfl (by decide) rfl dX6_readOrder_204
              · refine wq_iconst dX6_readOrder_199 ?_
                refine wq_goto 204 dX6_readOrder_200 (by decide) ?_
                exact wq_zret rfl (by decide) rfl dX6_readOrder_204
          · skip
            refine WQ.split (fun c45 => ?_) (fun c45 => ?_)
            · refine wq_tin (n := 5) 133 dX6_readOrder_73 rfl c45 (by decide) (by decide) rfl (by decide) ?_
              refine wq_aload_n dX6_readOrder_133 2 rfl rfl ?_
              refine wq_iload_n dX6_readOrder_134 0 rfl rfl ?_
              refine wq_cVi M_Scr_readLetters (R_Scr_readLetters Z x8 _) ob_8 rfl rfl (by decide) (by decide) (Nat.le_of_ble_eq_true rfl) ln_RX6_102 dX6_readOrder_135 (fun gr37 x39 J38 => ?_)
              refine wq_if_eq 156 dX6_readOrder_138 (by decide) rfl (fun c44 => ?_) (fun c44 => ?_)
              · refine wq_iconst dX6_readOrder_156 ?_
                exact wq_zret rfl (by decide) rfl dX6_readOrder_157
              · refine wq_aload_n dX6_readOrder_141 2 rfl rfl ?_
                refine g_8_0 ln_RX6_36 dX6_readOrder_142 ?_
                refine wq_iconst dX6_readOrder_145 ?_
                refine wq_cVi M_Src_pass (R_Src_pass Z 3 _) ob_6 rfl rfl (by decide) (by decide) (Nat.le_of_ble_eq_true rfl) ln_RX6_83 dX6_readOrder_146 (fun gr40 x42 J41 => ?_)
                refine wq_if_eq 156 dX6_readOrder_149 (by decide) rfl (fun c43 => ?_) (fun c43 => ?_)
                · refine wq_iconst dX6_readOrder_156 ?_
                  exact wq_zret rfl (by decide) rfl dX6_readOrder_157
                · refine wq_iconst dX6_readOrder_152 ?_
                  refine wq_goto 157 dX6_readOrder_153 (by decide) ?_
                  exact wq_zret rfl (by decide) rfl dX6_readOrder_157
            · skip
              refine WQ.split (fun c54 => ?_) (fun c54 => ?_)
              · refine wq_tin (n := 6) 180 dX6_readOrder_73 rfl c54 (by decide) (by decide) rfl (by decide) ?_
                refine wq_aload_n dX6_readOrder_180 2 rfl rfl ?_
                refine wq_iload_n dX6_readOrder_181 0 rfl rfl ?_
                refine wq_cVi M_Scr_readNumber (R_Scr_readNumber Z x8 _) ob_8 rfl rfl (by decide) (by decide) (Nat.le_of_ble_eq_true rfl) ln_RX6_105 dX6_readOrder_182 (fun gr46 x48 J47 => ?_)
                refine wq_if_eq 203 dX6_readOrder_185 (by decide) rfl (fun c53 => ?_) (fun c53 => ?_)
                · refine wq_iconst dX6_readOrder_203 ?_
                  exact wq_zret rfl (by decide) rfl dX6_readOrder_204
                · refine wq_aload_n dX6_readOrder_188 2 rfl rfl ?_
                  refine g_8_0 ln_RX6_36 dX6_readOrder_189 ?_
                  refine wq_iconst dX6_readOrder_192 ?_
                  refine wq_cVi M_Src_pass (R_Src_pass Z 3 _) ob_6 rfl rfl (by decide) (by decide) (Nat.le_of_ble_eq_true rfl) ln_RX6_83 dX6_readOrder_193 (fun gr49 x51 J50 => ?_)
                  refine wq_if_eq 203 dX6_readOrder_196 (by decide) rfl (fun c52 => ?_) (fun c52 => ?_)
                  · refine wq_iconst dX6_readOrder_203 ?_
                    exact wq_zret rfl (by decide) rfl dX6_readOrder_204
                  · refine wq_iconst dX6_readOrder_199 ?_
                    refine wq_goto 204 dX6_readOrder_200 (by decide) ?_
                    exact wq_zret rfl (by decide) rfl dX6_readOrder_204
              · skip
                refine WQ.split (fun c63 => ?_) (fun c63 => ?_)
                · refine wq_tin (n := 7) 180 dX6_readOrder_73 rfl c63 (by decide) (by decide) rfl (by decide) ?_
                  refine wq_aload_n dX6_readOrder_180 2 rfl rfl ?_
                  refine wq_iload_n dX6_readOrder_181 0 rfl rfl ?_
                  refine wq_cVi M_Scr_readNumber (R_Scr_readNumber Z x8 _) ob_8 rfl rfl (by decide) (by decide) (Nat.le_of_ble_eq_true rfl) ln_RX6_105 dX6_readOrder_182 (fun gr55 x57 J56 => ?_)
                  refine wq_if_eq 203 dX6_readOrder_185 (by decide) rfl (fun c62 => ?_) (fun c62 => ?_)
                  · refine wq_iconst dX6_readOrder_203 ?_
                    exact wq_zret rfl (by decide) rfl dX6_readOrder_204
                  · refine wq_aload_n dX6_readOrder_188 2 rfl rfl ?_
                    refine g_8_0 ln_RX6_36 dX6_readOrder_189 ?_
                    refine wq_iconst dX6_readOrder_192 ?_
                    refine wq_cVi M_Src_pass (R_Src_pass Z 3 _) ob_6 rfl rfl (by decide) (by decide) (Nat.le_of_ble_eq_true rfl) ln_RX6_83 dX6_readOrder_193 (fun gr58 x60 J59 => ?_)
                    refine wq_if_eq 203 dX6_readOrder_196 (by decide) rfl (fun c61 => ?_) (fun c61 => ?_)
                    · refine wq_iconst dX6_readOrder_203 ?_
                      exact wq_zret rfl (by decide) rfl dX6_readOrder_204
                    · refine wq_iconst dX6_readOrder_199 ?_
                      refine wq_goto 204 dX6_readOrder_200 (by decide) ?_
                      exact wq_zret rfl (by decide) rfl dX6_readOrder_204
                · skip
                  refine WQ.split (fun c72 => ?_) (fun c72 => ?_)
                  · refine wq_tin (n := 8) 180 dX6_readOrder_73 rfl c72 (by decide) (by decide) rfl (by decide) ?_
                    refine wq_aload_n dX6_readOrder_180 2 rfl rfl ?_
                    refine wq_iload_n dX6_readOrder_181 0 rfl rfl ?_
                    refine wq_cVi M_Scr_readNumber (R_Scr_readNumber Z x8 _) ob_8 rfl rfl (by decide) (by decide) (Nat.le_of_ble_eq_true rfl) ln_RX6_105 dX6_readOrder_182 (fun gr64 x66 J65 => ?_)
                    refine wq_if_eq 203 dX6_readOrder_185 (by decide) rfl (fun c71 => ?_) (fun c71 => ?_)
                    · refine wq_iconst dX6_readOrder_203 ?_
                      exact wq_zret rfl (by decide) rfl dX6_readOrder_204
                    · refine wq_aload_n dX6_readOrder_188 2 rfl rfl ?_
                      refine g_8_0 ln_RX6_36 dX6_readOrder_189 ?_
                      refine wq_iconst dX6_readOrder_192 ?_
                      refine wq_cVi M_Src_pass (R_Src_pass Z 3 _) ob_6 rfl rfl (by decide) (by decide) (Nat.le_of_ble_eq_true rfl) ln_RX6_83 dX6_readOrder_193 (fun gr67 x69 J68 => ?_)
                      refine wq_if_eq 203 dX6_readOrder_196 (by decide) rfl (fun c70 => ?_) (fun c70 => ?_)
                      · refine wq_iconst dX6_readOrder_203 ?_
                        exact wq_zret rfl (by decide) rfl dX6_readOrder_204
                      · refine wq_iconst dX6_readOrder_199 ?_
                        refine wq_goto 204 dX6_readOrder_200 (by decide) ?_
                        exact wq_zret rfl (by decide) rfl dX6_readOrder_204
                  · skip
                    refine WQ.split (fun c81 => ?_) (fun c81 => ?_)
                    · refine wq_tin (n := 9) 180 dX6_readOrder_73 rfl c81 (by decide) (by decide) rfl (by decide) ?_
                      refine wq_aload_n dX6_readOrder_180 2 rfl rfl ?_
                      refine wq_iload_n dX6_readOrder_181 0 rfl rfl ?_
                      refine wq_cVi M_Scr_readNumber (R_Scr_readNumber Z x8 _) ob_8 rfl rfl (by decide) (by decide) (Nat.le_of_ble_eq_true rfl) ln_RX6_105 dX6_readOrder_182 (fun gr73 x75 J74 => ?_)
                      refine wq_if_eq 203 dX6_readOrder_185 (by decide) rfl (fun c80 => ?_) (fun c80 => ?_)
                      · refine wq_iconst dX6_readOrder_203 ?_
                        exact wq_zret rfl (by decide) rfl dX6_readOrder_204
                      · refine wq_aload_n dX6_readOrder_188 2 rfl rfl ?_
                        refine g_8_0 ln_RX6_36 dX6_readOrder_189 ?_
                        refine wq_iconst dX6_readOrder_192 ?_
                        refine wq_cVi M_Src_pass (R_Src_pass Z 3 _) ob_6 rfl rfl (by decide) (by decide) (Nat.le_of_ble_eq_true rfl) ln_RX6_83 dX6_readOrder_193 (fun gr76 x78 J77 => ?_)
                        refine wq_if_eq 203 dX6_readOrder_196 (by decide) rfl (fun c79 => ?_) (fun c79 => ?_)
                        · refine wq_iconst dX6_readOrder_203 ?_
                          exact wq_zret rfl (by decide) rfl dX6_readOrder_204
                        · refine wq_iconst dX6_readOrder_199 ?_
                          refine wq_goto 204 dX6_readOrder_200 (by decide) ?_
                          exact wq_zret rfl (by decide) rfl dX6_readOrder_204
                    · skip
                      refine WQ.split (fun c90 => ?_) (fun c90 => ?_)
                      · refine wq_tin (n := 10) 158 dX6_readOrder_73 rfl c90 (by decide) (by decide) rfl (by decide) ?_
                        refine wq_aload_n dX6_readOrder_158 2 rfl rfl ?_
                        refine wq_iload_n dX6_readOrder_159 0 rfl rfl ?_
                        refine wq_cVi M_Scr_readNumber (R_Scr_readNumber Z x8 _) ob_8 rfl rfl (by decide) (by decide) (Nat.le_of_ble_eq_true rfl) ln_RX6_105 dX6_readOrder_160 (fun gr82 x84 J83 => ?_)
                        refine wq_if_eq 178 dX6_readOrder_163 (by decide) rfl (fun c89 => ?_) (fun c89 => ?_)
                        · refine wq_iconst dX6_readOrder_178 ?_
                          exact wq_zret rfl (by decide) rfl dX6_readOrder_179
                        · refine wq_aload_n dX6_readOrder_166 2 rfl rfl ?_
                          refine wq_iload_n dX6_readOrder_167 0 rfl rfl ?_
                          refine wq_cVi M_Scr_readOpen (R_Scr_readOpen Z x8 _) ob_8 rfl rfl (by decide) (by decide) (Nat.le_of_ble_eq_true rfl) ln_RX6_108 dX6_readOrder_168 (fun gr85 x87 J86 => ?_)
                          refine wq_if_eq 178 dX6_readOrder_171 (by decide) rfl (fun c88 => ?_) (fun c88 => ?_)
                          · refine wq_iconst dX6_readOrder_178 ?_
                            exact wq_zret rfl (by decide) rfl dX6_readOrder_179
                          · refine wq_iconst dX6_readOrder_174 ?_
                            refine wq_goto 179 dX6_readOrder_175 (by decide) ?_
                            exact wq_zret rfl (by decide) rfl dX6_readOrder_179
                      · skip
                        refine wq_tout 180 dX6_readOrder_73 rfl (by omega) (by decide) ?_
                        refine wq_aload_n dX6_readOrder_180 2 rfl rfl ?_
                        refine wq_iload_n dX6_readOrder_181 0 rfl rfl ?_
                        refine wq_cVi M_Scr_readNumber (R_Scr_readNumber Z x8 _) ob_8 rfl rfl (by decide) (by decide) (Nat.le_of_ble_eq_true rfl) ln_RX6_105 dX6_readOrder_182 (fun gr91 x93 J92 => ?_)
                        refine wq_if_eq 203 dX6_readOrder_185 (by decide) rfl (fun c98 => ?_) (fun c98 => ?_)
                        · refine wq_iconst dX6_readOrder_203 ?_
                          exact wq_zret rfl (by decide) rfl dX6_readOrder_204
                        · refine wq_aload_n dX6_readOrder_188 2 rfl rfl ?_
                          refine g_8_0 ln_RX6_36 dX6_readOrder_189 ?_
                          refine wq_iconst dX6_readOrder_192 ?_
                          refine wq_cVi M_Src_pass (R_Src_pass Z 3 _) ob_6 rfl rfl (by decide) (by decide) (Nat.le_of_ble_eq_true rfl) ln_RX6_83 dX6_readOrder_193 (fun gr94 x96 J95 => ?_)
                          refine wq_if_eq 203 dX6_readOrder_196 (by decide) rfl (fun c97 => ?_) (fun c97 => ?_)
                          · refine wq_iconst dX6_readOrder_203 ?_
                            exact wq_zret rfl (by decide) rfl dX6_readOrder_204
                          · refine wq_iconst dX6_readOrder_199 ?_
                            refine wq_goto 204 dX6_readOrder_200 (by decide) ?_
                            exact wq_zret rfl (by decide) rfl dX6_readOrder_204
    · refine wq_aload_n dX6_readOrder_33 1 rfl rfl ?_
      refine g_8_0 ln_RX6_36 dX6_readOrder_34 ?_
      refine wq_iconst dX6_readOrder_37 ?_
      refine wq_cVi M_Src_fail (R_Src_fail Z 5 _) ob_6 rfl rfl (by decide) (by decide) (Nat.le_of_ble_eq_true rfl) ln_RX6_70 dX6_readOrder_38 (fun gr99 x101 J100 => ?_)
      refine wq_grd (fun g102 => ?_)
      exact wq_zret rfl g102 rfl dX6_readOrder_41

theorem ln_RX4_19 : Cond.methodLink RX4 19 yX1_startRow ∈ lw_good := li_5 103 (by decide +kernel) (by decide +kernel)
theorem M_Rep_putRow : MwV yX4_putRow cX4_putRow 4 (none) 1 := ⟨li_5 107 (by decide +kernel) (by decide +kernel), li_5 106 (by decide +kernel) (by decide +kernel), lw_in 41 (by decide +kernel) (by decide +kernel), li_1 13 (by decide +kernel) (by decide +kernel), by decide +kernel⟩
theorem ln_RX4_25 : Cond.methodLink RX4 25 yX4_putRow ∈ lw_good := li_5 104 (by decide +kernel) (by decide +kernel)
theorem ln_RX4_40 : Cond.methodLink RX4 40 yX1_body ∈ lw_good := li_5 121 (by decide +kernel) (by decide +kernel)
theorem ln_RX4_29 : Cond.methodLink RX4 29 yX1_hasRule ∈ lw_good := li_5 120 (by decide +kernel) (by decide +kernel)
noncomputable def f_Rep_writeOf_w15 (v1 : Nat) (s : Int) (I : Mem) : Option (((Int) ⊕ (Unit)) × Mem) :=
if (w32 s) < 40 then
bnd (f_G_hasRule v1 s I) fun x8 J7 =>
if (w32 x8) = 0 then
some (.inl (s + 1), J7)
else
bnd (f_Rep_put 32 J7) fun _ J10 =>
bnd (f_Rep_putNumber s J10) fun _ J13 =>
bnd (f_Rep_put 61 J13) fun _ J16 =>
bnd (f_G_body v1 s J16) fun x20 J19 =>
if x20 < 516 then
bnd (f_Rep_putRow x20 J19) fun _ J23 =>
some (.inl (s + 1), J23)
else none
else
some (.inr (), I)

noncomputable def f_Rep_writeOf (a1 : Nat) (I : Mem) : Option ((Unit) × Mem) :=
if a1 < 12 then
ltI (sI I 10 0 1 0) fun J1 =>
bnd (f_Rep_putRow (43 * a1) J1) fun _ J4 =>
bnd (whl (f_Rep_writeOf_w15 a1) 0 J4) fun r55 J56 =>
some ((), J56)
else none
set_option maxRecDepth 20000 in
theorem R_Rep_writeOf (Z : ZT) (a1 : Nat) (I : Mem) (r : Unit) (J : Mem) (hf : f_Rep_writeOf a1 I = some (r, J)) : Runs Z yX4_writeOf cX4_writeOf 3 (none) 4 [vr Z 10 0, vr Z 1 a1] I (none, J) := by
  refine Runs.of (rv := fun _ => none) (by decide +kernel) (Nat.le_of_ble_eq_true rfl) hf (fun gr => ?_)
  unfold f_Rep_writeOf
  refine WQ.loc [0, 1] (lv' := [(0, vr Z 10 0), (1, vr Z 1 a1)]) rfl ?_
  refine wq_grd (fun h1 => ?_)
  refine wq_aload_n dX4_writeOf_0 0 rfl rfl ?_
  refine wq_iconst dX4_writeOf_1 ?_
  refine p_10_1 ln_RX4_15 dX4_writeOf_2 (fun J1 => ?_)
  refine wq_aload_n dX4_writeOf_5 0 rfl rfl ?_
  refine wq_aload_n dX4_writeOf_6 1 rfl rfl ?_
  refine wq_pV (v := vr Z 2 (43 * a1)) M_G_startRow (R_G_startRow Z a1 _ _ _ (if_pos h1)) (ob_1 h1) rfl rfl (by decide) (by decide) (Nat.le_of_ble_eq_true rfl) ln_RX4_19 dX4_writeOf_7 (fun gr2 => ?_)
  refine wq_cVv M_Rep_putRow (R_Rep_putRow Z (43 * a1) _) ob_10 rfl rfl (by decide) (by decide) (Nat.le_of_ble_eq_true rfl) ln_RX4_25 dX4_writeOf_10 (fun gr3 _ J4 => ?_)
  refine wq_iconst dX4_writeOf_13 ?_
  refine wq_istore_n (lv' := [(2, vi 0), (0, vr Z 10 0), (1, vr Z 1 a1)]) dX4_writeOf_14 rfl (by decide) rfl ?_
  refine WQ.loc [1, 2, 0] (lv' := [(0, vr Z 10 0), (1, vr Z 1 a1), (2, vi 0)]) rfl ?_
  refine wq_loopS (fun s33 => [(0, vr Z 10 0), (1, vr Z 1 a1), (2, vi s33)]) 61 (fun _ => []) (fun κ27 bk28 ex29 gr32 s33 J31 => ?_) (fun gr57 r55 J56 => ?_) gr3 _ rfl
  · unfold f_Rep_writeOf_w15
    refine wq_iload_n dX4_writeOf_15 2 rfl rfl ?_
    refine wq_bipush dX4_writeOf_16 (by decide) ?_
    refine wq_icmp_ge 61 dX4_writeOf_18 (by decide) rfl rfl (fun c54 => ?_) (fun c54 => ?_)
    · refine wq_aload_n dX4_writeOf_21 1 rfl rfl ?_
      refine wq_iload_n dX4_writeOf_22 2 rfl rfl ?_
      refine wq_cVi M_G_hasRule (R_G_hasRule Z a1 s33 _) (ob_1 h1) rfl rfl (by decide) (by decide) (Nat.le_of_ble_eq_true rfl) ln_RX4_29 dX4_writeOf_23 (fun gr34 x36 J35 => ?_)
      refine wq_if_eq 55 dX4_writeOf_26 (by decide) rfl (fun c53 => ?_) (fun c53 => ?_)
      · refine wq_iinc (lv' := [(2, vi (s33 + 1)), (0, vr Z 10 0), (1, vr Z 1 a1)]) dX4_writeOf_55 2 rfl (by decide) rfl ?_
        refine wq_goto 15 dX4_writeOf_58 (by decide) ?_
        exact WQ.loc [1, 2, 0] rfl (bk28 _ _ _)
      · refine wq_aload_n dX4_writeOf_29 0 rfl rfl ?_
        refine wq_bipush dX4_writeOf_30 (by decide) ?_
        refine wq_cVv M_Rep_put (R_Rep_put Z 32 _) ob_10 rfl rfl (by decide) (by decide) (Nat.le_of_ble_eq_true rfl) ln_RX4_33 dX4_writeOf_32 (fun gr37 _ J38 => ?_)
        refine wq_aload_n dX4_writeOf_35 0 rfl rfl ?_
        refine wq_iload_n dX4_writeOf_36 2 rfl rfl ?_
        refine wq_cVv M_Rep_putNumber (R_Rep_putNumber Z s33 _) ob_10 rfl rfl (by decide) (by decide) (Nat.le_of_ble_eq_true rfl) ln_RX4_37 dX4_writeOf_37 (fun gr40 _ J41 => ?_)
        refine wq_aload_n dX4_writeOf_40 0 rfl rfl ?_
        refine wq_bipush dX4_writeOf_41 (by decide) ?_
        refine wq_cVv M_Rep_put (R_Rep_put Z 61 _) ob_10 rfl rfl (by decide) (by decide) (Nat.le_of_ble_eq_true rfl) ln_RX4_33 dX4_writeOf_43 (fun gr43 _ J44 => ?_)
        refine wq_aload_n dX4_writeOf_46 0 rfl rfl ?_
        refine wq_aload_n dX4_writeOf_47 1 rfl rfl ?_
        refine wq_iload_n dX4_writeOf_48 2 rfl rfl ?_
        refine wq_cVr 2 M_G_body (R_G_body Z a1 s33 _) (ob_1 h1) rfl rfl (by decide) (by decide) (Nat.le_of_ble_eq_true rfl) ln_RX4_40 dX4_writeOf_49 (fun gr46 x48 J47 => ?_)
        refine wq_grd (fun g49 => ?_)
        refine wq_cVv M_Rep_putRow (R_Rep_putRow Z x48 _) ob_10 rfl rfl (by decide) (by decide) (Nat.le_of_ble_eq_true rfl) ln_RX4_25 dX4_writeOf_52 (fun gr50 _ J51 => ?_)
        refine wq_iinc (lv' := [(2, vi (s33 + 1)), (0, vr Z 10 0), (1, vr Z 1 a1)]) dX4_writeOf_55 2 rfl (by decide) rfl ?_
        refine wq_goto 15 dX4_writeOf_58 (by decide) ?_
        exact WQ.loc [1, 2, 0] rfl (bk28 _ _ _)
    · exact WQ.loc [] rfl (ex29 _ _ _)
  · exact wq_vret rfl rfl dX4_writeOf_61

theorem ln_RX12_271 : Cond.constant RX12 271 (Int32.ofInt 1000000) ∈ lw_good := li_5 68 (by decide +kernel) (by decide +kernel)
theorem M_Stp_makeSteps : MwV yX9_makeSteps cX9_makeSteps 5 (some .int) 2 := ⟨li_4 33 (by decide +kernel) (by decide +kernel), li_4 31 (by decide +kernel) (by decide +kernel), li_4 32 (by decide +kernel) (by decide +kernel), li_1 4 (by decide +kernel) (by decide +kernel), by decide +kernel⟩
theorem ln_RX12_272 : Cond.methodLink RX12 272 yX9_makeSteps ∈ lw_good := li_4 30 (by decide +kernel) (by decide +kernel)
noncomputable def f_PR_stepsLeft  (I : Mem) : Option ((Int) × Mem) :=
bnd (f_G_takeFrom 1 0 I) fun _ J2 =>
bnd (f_Stp_makeSteps 1 1000000 J2) fun x6 J5 =>
some (x6, J5)
set_option maxRecDepth 20000 in
theorem R_PR_stepsLeft (Z : ZT)  (I : Mem) (r : Int) (J : Mem) (hf : f_PR_stepsLeft I = some (r, J)) : Runs Z yX12_stepsLeft cX12_stepsLeft 1 (some .int) 6 [vr Z 0 0] I (some (vi r), J) := by
  refine Runs.of (rv := fun x => some (vi x)) (by decide +kernel) (Nat.le_of_ble_eq_true rfl) hf (fun gr => ?_)
  unfold f_PR_stepsLeft
  refine WQ.loc [0] (lv' := [(0, vr Z 0 0)]) rfl ?_
  refine wq_aload_n dX12_stepsLeft_0 0 rfl rfl ?_
  refine g_0_1 ln_RX12_16 dX12_stepsLeft_1 ?_
  refine wq_aload_n dX12_stepsLeft_4 0 rfl rfl ?_
  refine g_0_0 ln_RX12_12 dX12_stepsLeft_5 ?_
  refine wq_cVv M_G_takeFrom (R_G_takeFrom Z 1 0 _) (ob_1 (by decide)) rfl rfl (by decide) (by decide) (Nat.le_of_ble_eq_true rfl) ln_RX12_113 dX12_stepsLeft_8 (fun gr1 _ J2 => ?_)
  refine wq_aload_n dX12_stepsLeft_11 0 rfl rfl ?_
  refine g_0_2 ln_RX12_22 dX12_stepsLeft_12 ?_
  refine wq_aload_n dX12_stepsLeft_15 0 rfl rfl ?_
  refine g_0_1 ln_RX12_16 dX12_stepsLeft_16 ?_
  refine wq_ldc_w ln_RX12_271 dX12_stepsLeft_19 ?_
  refine wq_cVi M_Stp_makeSteps (R_Stp_makeSteps Z 1 1000000 _) ob_3 rfl rfl (by decide) (by decide) (Nat.le_of_ble_eq_true rfl) ln_RX12_272 dX12_stepsLeft_22 (fun gr4 x6 J5 => ?_)
  exact wq_iret rfl rfl dX12_stepsLeft_25

noncomputable def f_PR_sizeIn (a1 : Int) (I : Mem) : Option ((Int ⊕ String) × Mem) :=
if (w32 a1) < 0 then
ltI (thrw I) fun J1 =>
some (.inr xIA, J1)
else
if 100 < (w32 a1) then
ltI (thrw I) fun J11 =>
some (.inr xIA, J11)
else
bnd (f_G_takeFrom 1 0 I) fun _ J3 =>
bnd (f_Stp_makeSteps 1 a1 J3) fun x7 J6 =>
bnd (f_G_totalSize 1 J6) fun x10 J9 =>
some (.inl x10, J9)
set_option maxRecDepth 20000 in
theorem R_PR_sizeIn (Z : ZT) (a1 : Int) (I : Mem) : RX Z yX12_sizeIn cX12_sizeIn 2 (some .int) 6 [vr Z 0 0, vi a1] I (fun x => some (vi x)) (f_PR_sizeIn a1 I) := by
  refine RX.of (by decide +kernel) (Nat.le_of_ble_eq_true rfl) (fun gr => ?_)
  unfold f_PR_sizeIn
  refine WQ.loc [0, 1] (lv' := [(0, vr Z 0 0), (1, vi a1)]) rfl ?_
  refine wq_iload_n dX12_sizeIn_0 1 rfl rfl ?_
  refine wq_if_lt 10 dX12_sizeIn_1 (by decide) rfl (fun c13 => ?_) (fun c13 => ?_)
  · exact wq_throw thr_IA (Nat.le_of_ble_eq_true rfl) (by decide +kernel) rfl dX12_sizeIn_10 dX12_sizeIn_13 dX12_sizeIn_14 dX12_sizeIn_17
  · refine wq_iload_n dX12_sizeIn_4 1 rfl rfl ?_
    refine wq_bipush dX12_sizeIn_5 (by decide) ?_
    refine wq_icmp_le 18 dX12_sizeIn_7 (by decide) rfl rfl (fun c12 => ?_) (fun c12 => ?_)
    · exact wq_throw thr_IA (Nat.le_of_ble_eq_true rfl) (by decide +kernel) rfl dX12_sizeIn_10 dX12_sizeIn_13 dX12_sizeIn_14 dX12_sizeIn_17
    · refine wq_aload_n dX12_sizeIn_18 0 rfl rfl ?_
      refine g_0_1 ln_RX12_16 dX12_sizeIn_19 ?_
      refine wq_aload_n dX12_sizeIn_22 0 rfl rfl ?_
      refine g_0_0 ln_RX12_12 dX12_sizeIn_23 ?_
      refine wq_cVv M_G_takeFrom (R_G_takeFrom Z 1 0 _) (ob_1 (by decide)) rfl rfl (by decide) (by decide) (Nat.le_of_ble_eq_true rfl) ln_RX12_113 dX12_sizeIn_26 (fun gr2 _ J3 => ?_)
      refine wq_aload_n dX12_sizeIn_29 0 rfl rfl ?_
      refine g_0_2 ln_RX12_22 dX12_sizeIn_30 ?_
      refine wq_aload_n dX12_sizeIn_33 0 rfl rfl ?_
      refine g_0_1 ln_RX12_16 dX12_sizeIn_34 ?_
      refine wq_iload_n dX12_sizeIn_37 1 rfl rfl ?_
      refine wq_cVi M_Stp_makeSteps (R_Stp_makeSteps Z 1 a1 _) ob_3 rfl rfl (by decide) (by decide) (Nat.le_of_ble_eq_true rfl) ln_RX12_272 dX12_sizeIn_38 (fun gr5 x7 J6 => ?_)
      refine wq_pop dX12_sizeIn_41 rfl ?_
      refine wq_aload_n dX12_sizeIn_42 0 rfl rfl ?_
      refine g_0_1 ln_RX12_16 dX12_sizeIn_43 ?_
      refine wq_cVi M_G_totalSize (R_G_totalSize Z 1 _) (ob_1 (by decide)) rfl rfl (by decide) (by decide) (Nat.le_of_ble_eq_true rfl) ln_RX12_148 dX12_sizeIn_46 (fun gr8 x10 J9 => ?_)
      exact wq_iret rfl rfl dX12_sizeIn_49

noncomputable def f_PR_step (a1 : Int) (I : Mem) : Option ((Int ⊕ String) × Mem) :=
if (w32 a1) < 1 then
ltI (thrw I) fun J1 =>
some (.inr xIA, J1)
else
if 50 < (w32 a1) then
ltI (thrw I) fun J8 =>
some (.inr xIA, J8)
else
bnd (f_His_remember 0 I) fun _ J3 =>
bnd (f_Stp_makeSteps 0 a1 J3) fun x7 J6 =>
some (.inl x7, J6)
set_option maxRecDepth 20000 in
theorem R_PR_step (Z : ZT) (a1 : Int) (I : Mem) : RX Z yX12_step cX12_step 2 (some .int) 6 [vr Z 0 0, vi a1] I (fun x => some (vi x)) (f_PR_step a1 I) := by
  refine RX.of (by decide +kernel) (Nat.le_of_ble_eq_true rfl) (fun gr => ?_)
  unfold f_PR_step
  refine WQ.loc [0, 1] (lv' := [(0, vr Z 0 0), (1, vi a1)]) rfl ?_
  refine wq_iload_n dX12_step_0 1 rfl rfl ?_
  refine wq_iconst dX12_step_1 ?_
  refine wq_icmp_lt 11 dX12_step_2 (by decide) rfl rfl (fun c10 => ?_) (fun c10 => ?_)
  · exact wq_throw thr_IA (Nat.le_of_ble_eq_true rfl) (by decide +kernel) rfl dX12_step_11 dX12_step_14 dX12_step_15 dX12_step_18
  · refine wq_iload_n dX12_step_5 1 rfl rfl ?_
    refine wq_bipush dX12_step_6 (by decide) ?_
    refine wq_icmp_le 19 dX12_step_8 (by decide) rfl rfl (fun c9 => ?_) (fun c9 => ?_)
    · exact wq_throw thr_IA (Nat.le_of_ble_eq_true rfl) (by decide +kernel) rfl dX12_step_11 dX12_step_14 dX12_step_15 dX12_step_18
    · refine wq_aload_n dX12_step_19 0 rfl rfl ?_
      refine g_0_7 ln_RX12_61 dX12_step_20 ?_
      refine wq_aload_n dX12_step_23 0 rfl rfl ?_
      refine g_0_0 ln_RX12_12 dX12_step_24 ?_
      refine wq_cVv M_His_remember (R_His_remember Z 0 _) ob_9 rfl rfl (by decide) (by decide) (Nat.le_of_ble_eq_true rfl) ln_RX12_126 dX12_step_27 (fun gr2 _ J3 => ?_)
      refine wq_aload_n dX12_step_30 0 rfl rfl ?_
      refine g_0_2 ln_RX12_22 dX12_step_31 ?_
      refine wq_aload_n dX12_step_34 0 rfl rfl ?_
      refine g_0_0 ln_RX12_12 dX12_step_35 ?_
      refine wq_iload_n dX12_step_38 1 rfl rfl ?_
      refine wq_cVi M_Stp_makeSteps (R_Stp_makeSteps Z 0 a1 _) ob_3 rfl rfl (by decide) (by decide) (Nat.le_of_ble_eq_true rfl) ln_RX12_272 dX12_step_39 (fun gr5 x7 J6 => ?_)
      exact wq_iret rfl rfl dX12_step_42

noncomputable def f_PR_make (a1 : Int) (a2 : Int) (I : Mem) : Option ((Int ⊕ String) × Mem) :=
bnd (f_PR_isSymbol a1 I) fun x3 J2 =>
if (w32 x3) = 0 then
ltI (thrw J2) fun J4 =>
some (.inr xIA, J4)
else
bnd (f_PR_isSymbol a2 J2) fun x7 J6 =>
if (w32 x7) = 0 then
ltI (thrw J6) fun J18 =>
some (.inr xIA, J18)
else
bnd (f_PR_refusalOfMake a1 a2 J6) fun x10 J9 =>
if (w32 x10) < 0 then
some (.inl x10, J9)
else
bnd (f_His_remember 0 J9) fun _ J12 =>
bnd (f_G_join 0 a1 a2 J12) fun x16 J15 =>
some (.inl x16, J15)
set_option maxRecDepth 20000 in
theorem R_PR_make (Z : ZT) (a1 : Int) (a2 : Int) (I : Mem) : RX Z yX12_make cX12_make 4 (some .int) 6 [vr Z 0 0, vi a1, vi a2] I (fun x => some (vi x)) (f_PR_make a1 a2 I) := by
  refine RX.of (by decide +kernel) (Nat.le_of_ble_eq_true rfl) (fun gr => ?_)
  unfold f_PR_make
  refine WQ.loc [0, 1, 2] (lv' := [(0, vr Z 0 0), (1, vi a1), (2, vi a2)]) rfl ?_
  refine wq_iload_n dX12_make_0 1 rfl rfl ?_
  refine wq_cSi M_PR_isSymbol (R_PR_isSymbol Z a1 _) rfl rfl rfl (by decide) (by decide) (Nat.le_of_ble_eq_true rfl) ln_RX12_243 dX12_make_1 (fun gr1 x3 J2 => ?_)
  refine wq_if_eq 14 dX12_make_4 (by decide) rfl (fun c20 => ?_) (fun c20 => ?_)
  · exact wq_throw thr_IA (Nat.le_of_ble_eq_true rfl) (by decide +kernel) rfl dX12_make_14 dX12_make_17 dX12_make_18 dX12_make_21
  · refine wq_iload_n dX12_make_7 2 rfl rfl ?_
    refine wq_cSi M_PR_isSymbol (R_PR_isSymbol Z a2 _) rfl rfl rfl (by decide) (by decide) (Nat.le_of_ble_eq_true rfl) ln_RX12_243 dX12_make_8 (fun gr5 x7 J6 => ?_)
    refine wq_if_ne 22 dX12_make_11 (by decide) rfl (fun c19 => ?_) (fun c19 => ?_)
    · exact wq_throw thr_IA (Nat.le_of_ble_eq_true rfl) (by decide +kernel) rfl dX12_make_14 dX12_make_17 dX12_make_18 dX12_make_21
    · refine wq_aload_n dX12_make_22 0 rfl rfl ?_
      refine wq_iload_n dX12_make_23 1 rfl rfl ?_
      refine wq_iload_n dX12_make_24 2 rfl rfl ?_
      refine wq_cVi M_PR_refusalOfMake (R_PR_refusalOfMake Z a1 a2 _) ob_0 rfl rfl (by decide) (by decide) (Nat.le_of_ble_eq_true rfl) ln_RX12_283 dX12_make_25 (fun gr8 x10 J9 => ?_)
      refine wq_istore_n (lv' := [(3, vi x10), (0, vr Z 0 0), (1, vi a1), (2, vi a2)]) dX12_make_28 rfl (by decide) rfl ?_
      refine wq_iload_n dX12_make_29 0 rfl rfl ?_
      refine wq_if_ge 35 dX12_make_30 (by decide) rfl (fun c17 => ?_) (fun c17 => ?_)
      · refine wq_iload_n dX12_make_33 0 rfl rfl ?_
        exact wq_iret rfl rfl dX12_make_34
      · refine wq_aload_n dX12_make_35 1 rfl rfl ?_
        refine g_0_7 ln_RX12_61 dX12_make_36 ?_
        refine wq_aload_n dX12_make_39 1 rfl rfl ?_
        refine g_0_0 ln_RX12_12 dX12_make_40 ?_
        refine wq_cVv M_His_remember (R_His_remember Z 0 _) ob_9 rfl rfl (by decide) (by decide) (Nat.le_of_ble_eq_true rfl) ln_RX12_126 dX12_make_43 (fun gr11 _ J12 => ?_)
        refine wq_aload_n dX12_make_46 1 rfl rfl ?_
        refine g_0_0 ln_RX12_12 dX12_make_47 ?_
        refine wq_iload_n dX12_make_50 2 rfl rfl ?_
        refine wq_iload_n dX12_make_51 3 rfl rfl ?_
        refine wq_cVi M_G_join (R_G_join Z 0 a1 a2 _) (ob_1 (by decide)) rfl rfl (by decide) (by decide) (Nat.le_of_ble_eq_true rfl) ln_RX12_286 dX12_make_52 (fun gr14 x16 J15 => ?_)
        exact wq_iret rfl rfl dX12_make_55

theorem M_Rep_writeOf : MwV yX4_writeOf cX4_writeOf 3 (none) 1 := ⟨li_5 102 (by decide +kernel) (by decide +kernel), li_5 100 (by decide +kernel) (by decide +kernel), li_5 101 (by decide +kernel) (by decide +kernel), li_1 13 (by decide +kernel) (by decide +kernel), by decide +kernel⟩
theorem M_Rep_many : MwV yX4_many cX4_many 1 (some .int) 0 := ⟨li_5 125 (by decide +kernel) (by decide +kernel), li_5 123 (by decide +kernel) (by decide +kernel), li_5 124 (by decide +kernel) (by decide +kernel), li_1 13 (by decide +kernel) (by decide +kernel), by decide +kernel⟩
theorem ln_RX12_311 : Cond.methodLink RX12 311 yX4_many ∈ lw_good := li_5 122 (by decide +kernel) (by decide +kernel)
theorem ln_RX12_308 : Cond.methodLink RX12 308 yX4_writeOf ∈ lw_good := li_5 99 (by decide +kernel) (by decide +kernel)
noncomputable def f_PR_report  (I : Mem) : Option ((Int) × Mem) :=
bnd (f_Rep_writeOf 0 I) fun _ J2 =>
some ((J2 10 0 1), J2)
set_option maxRecDepth 20000 in
theorem R_PR_report (Z : ZT)  (I : Mem) (r : Int) (J : Mem) (hf : f_PR_report I = some (r, J)) : Runs Z yX12_report cX12_report 1 (some .int) 5 [vr Z 0 0] I (some (vi r), J) := by
  refine Runs.of (rv := fun x => some (vi x)) (by decide +kernel) (Nat.le_of_ble_eq_true rfl) hf (fun gr => ?_)
  unfold f_PR_report
  refine WQ.loc [0] (lv' := [(0, vr Z 0 0)]) rfl ?_
  refine wq_aload_n dX12_report_0 0 rfl rfl ?_
  refine g_0_8 ln_RX12_68 dX12_report_1 ?_
  refine wq_aload_n dX12_report_4 0 rfl rfl ?_
  refine g_0_0 ln_RX12_12 dX12_report_5 ?_
  refine wq_cVv M_Rep_writeOf (R_Rep_writeOf Z 0 _) ob_10 rfl rfl (by decide) (by decide) (Nat.le_of_ble_eq_true rfl) ln_RX12_308 dX12_report_8 (fun gr1 _ J2 => ?_)
  refine wq_aload_n dX12_report_11 0 rfl rfl ?_
  refine g_0_8 ln_RX12_68 dX12_report_12 ?_
  refine wq_pV (v := vi (J2 10 0 1)) M_Rep_many (R_Rep_many Z  _ _ _ rfl) ob_10 rfl rfl (by decide) (by decide) (Nat.le_of_ble_eq_true rfl) ln_RX12_311 dX12_report_15 (fun gr4 => ?_)
  exact wq_iret rfl rfl dX12_report_18

noncomputable def f_PR_bestNumber_w10 (v1 : Int) (s : Int × Int × Int) (I : Mem) : Option (((Int × Int × Int) ⊕ (Int)) × Mem) :=
bnd (f_PR_highest v1 I) fun x6 J5 =>
if (w32 x6) < (w32 s.2.2) then
some (.inr s.1, J5)
else
bnd (f_G_takeFrom 1 0 J5) fun _ J8 =>
bnd (f_G_putNumber 1 v1 s.2.2 J8) fun _ J11 =>
bnd (f_Stp_makeSteps 1 1000000 J11) fun x15 J14 =>
bnd (f_G_totalSize 1 J14) fun x18 J17 =>
if (w32 s.1) = (-1) then
some (.inl (s.2.2, x18, (s.2.2 + 1)), J17)
else
if (w32 x18) < (w32 s.2.1) then
some (.inl (s.2.2, x18, (s.2.2 + 1)), J17)
else
some (.inl (s.1, s.2.1, (s.2.2 + 1)), J17)

noncomputable def f_PR_bestNumber (a1 : Int) (I : Mem) : Option ((Int) × Mem) :=
bnd (f_PR_lowest a1 I) fun x3 J2 =>
bnd (whl (f_PR_bestNumber_w10 a1) ((-1), 0, x3) J2) fun r47 J48 =>
some (r47, J48)
set_option maxRecDepth 20000 in
theorem R_PR_bestNumber (Z : ZT) (a1 : Int) (I : Mem) (r : Int) (J : Mem) (hf : f_PR_bestNumber a1 I = some (r, J)) : Runs Z yX12_bestNumber cX12_bestNumber 6 (some .int) 6 [vr Z 0 0, vi a1] I (some (vi r), J) := by
  refine Runs.of (rv := fun x => some (vi x)) (by decide +kernel) (Nat.le_of_ble_eq_true rfl) hf (fun gr => ?_)
  unfold f_PR_bestNumber
  refine WQ.loc [0, 1] (lv' := [(0, vr Z 0 0), (1, vi a1)]) rfl ?_
  refine wq_iconst dX12_bestNumber_0 ?_
  refine wq_istore_n (lv' := [(2, vi (-1)), (0, vr Z 0 0), (1, vi a1)]) dX12_bestNumber_1 rfl (by decide) rfl ?_
  refine wq_iconst dX12_bestNumber_2 ?_
  refine wq_istore_n (lv' := [(3, vi 0), (2, vi (-1)), (0, vr Z 0 0), (1, vi a1)]) dX12_bestNumber_3 rfl (by decide) rfl ?_
  refine wq_iload_n dX12_bestNumber_4 3 rfl rfl ?_
  refine wq_cSi M_PR_lowest (R_PR_lowest Z a1 _) rfl rfl rfl (by decide) (by decide) (Nat.le_of_ble_eq_true rfl) ln_RX12_298 dX12_bestNumber_5 (fun gr1 x3 J2 => ?_)
  refine wq_istore (lv' := [(4, vi x3), (3, vi 0), (2, vi (-1)), (0, vr Z 0 0), (1, vi a1)]) dX12_bestNumber_8 (by decide) rfl ?_
  refine WQ.loc [3, 4, 2, 1, 0] (lv' := [(0, vr Z 0 0), (1, vi a1), (2, vi (-1)), (3, vi 0), (4, vi x3)]) rfl ?_
  refine wq_loopS (fun s28 => [(0, vr Z 0 0), (1, vi a1), (2, vi s28.1), (3, vi s28.2.1), (4, vi s28.2.2)]) 87 (fun r47 => [(2, vi r47)]) (fun κ22 bk23 ex24 gr27 s28 J26 => ?_) (fun gr49 r47 J48 => ?_) gr1 _ rfl
  · unfold f_PR_bestNumber_w10
    refine wq_iload dX12_bestNumber_10 4 rfl ?_
    refine wq_iload_n dX12_bestNumber_12 1 rfl rfl ?_
    refine wq_cSi M_PR_highest (R_PR_highest Z a1 _) rfl rfl rfl (by decide) (by decide) (Nat.le_of_ble_eq_true rfl) ln_RX12_301 dX12_bestNumber_13 (fun gr29 x31 J30 => ?_)
    refine wq_icmp_gt 87 dX12_bestNumber_16 (by decide) rfl rfl (fun c46 => ?_) (fun c46 => ?_)
    · exact WQ.loc [2] rfl (ex24 _ _ _)
    · refine wq_aload_n dX12_bestNumber_19 0 rfl rfl ?_
      refine g_0_1 ln_RX12_16 dX12_bestNumber_20 ?_
      refine wq_aload_n dX12_bestNumber_23 0 rfl rfl ?_
      refine g_0_0 ln_RX12_12 dX12_bestNumber_24 ?_
      refine wq_cVv M_G_takeFrom (R_G_takeFrom Z 1 0 _) (ob_1 (by decide)) rfl rfl (by decide) (by decide) (Nat.le_of_ble_eq_true rfl) ln_RX12_113 dX12_bestNumber_27 (fun gr32 _ J33 => ?_)
      refine wq_aload_n dX12_bestNumber_30 0 rfl rfl ?_
      refine g_0_1 ln_RX12_16 dX12_bestNumber_31 ?_
      refine wq_iload_n dX12_bestNumber_34 1 rfl rfl ?_
      refine wq_iload dX12_bestNumber_35 4 rfl ?_
      refine wq_cVv M_G_putNumber (R_G_putNumber Z 1 a1 s28.2.2 _) (ob_1 (by decide)) rfl rfl (by decide) (by decide) (Nat.le_of_ble_eq_true rfl) ln_RX12_304 dX12_bestNumber_37 (fun gr35 _ J36 => ?_)
      refine wq_aload_n dX12_bestNumber_40 0 rfl rfl ?_
      refine g_0_2 ln_RX12_22 dX12_bestNumber_41 ?_
      refine wq_aload_n dX12_bestNumber_44 0 rfl rfl ?_
      refine g_0_1 ln_RX12_16 dX12_bestNumber_45 ?_
      refine wq_ldc_w ln_RX12_271 dX12_bestNumber_48 ?_
      refine wq_cVi M_Stp_makeSteps (R_Stp_makeSteps Z 1 1000000 _) ob_3 rfl rfl (by decide) (by decide) (Nat.le_of_ble_eq_true rfl) ln_RX12_272 dX12_bestNumber_51 (fun gr38 x40 J39 => ?_)
      refine wq_pop dX12_bestNumber_54 rfl ?_
      refine wq_aload_n dX12_bestNumber_55 0 rfl rfl ?_
      refine g_0_1 ln_RX12_16 dX12_bestNumber_56 ?_
      refine wq_cVi M_G_totalSize (R_G_totalSize Z 1 _) (ob_1 (by decide)) rfl rfl (by decide) (by decide) (Nat.le_of_ble_eq_true rfl) ln_RX12_148 dX12_bestNumber_59 (fun gr41 x43 J42 => ?_)
      refine wq_istore (lv' := [(5, vi x43), (0, vr Z 0 0), (1, vi a1), (2, vi s28.1), (3, vi s28.2.1), (4, vi s28.2.2)]) dX12_bestNumber_62 (by decide) rfl ?_
      refine wq_iload_n dX12_bestNumber_64 3 rfl rfl ?_
      refine wq_iconst dX12_bestNumber_65 ?_
      refine wq_icmp_eq 75 dX12_bestNumber_66 (by decide) rfl rfl (fun c45 => ?_) (fun c45 => ?_)
      · refine wq_iload dX12_bestNumber_75 0 rfl ?_
        refine wq_istore_n (lv' := [(3, vi x43), (5, vi x43), (0, vr Z 0 0), (1, vi a1), (2, vi s28.1), (4, vi s28.2.2)]) dX12_bestNumber_77 rfl (by decide) rfl ?_
        refine wq_iload dX12_bestNumber_78 5 rfl ?_
        refine wq_istore_n (lv' := [(2, vi s28.2.2), (3, vi x43), (5, vi x43), (0, vr Z 0 0), (1, vi a1), (4, vi s28.2.2)]) dX12_bestNumber_80 rfl (by decide) rfl ?_
        refine wq_iinc (lv' := [(4, vi (s28.2.2 + 1)), (2, vi s28.2.2), (3, vi x43), (5, vi x43), (0, vr Z 0 0), (1, vi a1)]) dX12_bestNumber_81 5 rfl (by decide) rfl ?_
        refine wq_goto 10 dX12_bestNumber_84 (by decide) ?_
        exact WQ.loc [4, 5, 1, 2, 0] rfl (bk23 _ _ _)
      · refine wq_iload dX12_bestNumber_69 0 rfl ?_
        refine wq_iload_n dX12_bestNumber_71 4 rfl rfl ?_
        refine wq_icmp_ge 81 dX12_bestNumber_72 (by decide) rfl rfl (fun c44 => ?_) (fun c44 => ?_)
        · refine wq_iload dX12_bestNumber_75 0 rfl ?_
          refine wq_istore_n (lv' := [(3, vi x43), (5, vi x43), (0, vr Z 0 0), (1, vi a1), (2, vi s28.1), (4, vi s28.2.2)]) dX12_bestNumber_77 rfl (by decide) rfl ?_
          refine wq_iload dX12_bestNumber_78 5 rfl ?_
          refine wq_istore_n (lv' := [(2, vi s28.2.2), (3, vi x43), (5, vi x43), (0, vr Z 0 0), (1, vi a1), (4, vi s28.2.2)]) dX12_bestNumber_80 rfl (by decide) rfl ?_
          refine wq_iinc (lv' := [(4, vi (s28.2.2 + 1)), (2, vi s28.2.2), (3, vi x43), (5, vi x43), (0, vr Z 0 0), (1, vi a1)]) dX12_bestNumber_81 5 rfl (by decide) rfl ?_
          refine wq_goto 10 dX12_bestNumber_84 (by decide) ?_
          exact WQ.loc [4, 5, 1, 2, 0] rfl (bk23 _ _ _)
        · refine wq_iinc (lv' := [(4, vi (s28.2.2 + 1)), (5, vi x43), (0, vr Z 0 0), (1, vi a1), (2, vi s28.1), (3, vi s28.2.1)]) dX12_bestNumber_81 5 rfl (by decide) rfl ?_
          refine wq_goto 10 dX12_bestNumber_84 (by decide) ?_
          exact WQ.loc [2, 3, 4, 5, 0] rfl (bk23 _ _ _)
  · refine wq_iload_n dX12_bestNumber_87 0 rfl rfl ?_
    exact wq_iret rfl rfl dX12_bestNumber_88

theorem M_Scr_number : MwV yX6_number cX6_number 2 (some .int) 1 := ⟨li_4 23 (by decide +kernel) (by decide +kernel), li_4 21 (by decide +kernel) (by decide +kernel), li_4 22 (by decide +kernel) (by decide +kernel), li_1 9 (by decide +kernel) (by decide +kernel), by decide +kernel⟩
theorem ln_RX12_343 : Cond.fieldLink RX12 343 RX0 "$SwitchMap$PairRules$Word" "[I" ∈ lw_good := li_4 24 (by decide +kernel) (by decide +kernel)
theorem M_Scr_word : MwV yX6_word cX6_word 2 (some (.object RX11)) 1 := ⟨li_4 28 (by decide +kernel) (by decide +kernel), li_4 26 (by decide +kernel) (by decide +kernel), li_4 27 (by decide +kernel) (by decide +kernel), li_1 9 (by decide +kernel) (by decide +kernel), by decide +kernel⟩
theorem ln_RX12_353 : Cond.methodLink RX12 353 yWordOrd ∈ lw_good := li_4 29 (by decide +kernel) (by decide +kernel)
theorem M_PR_doMake : MwV yX12_doMake cX12_doMake 3 (some .boolean) 2 := ⟨li_4 182 (by decide +kernel) (by decide +kernel), li_4 181 (by decide +kernel) (by decide +kernel), lw_in 35 (by decide +kernel) (by decide +kernel), li_1 1 (by decide +kernel) (by decide +kernel), by decide +kernel⟩
theorem ln_RX12_361 : Cond.methodLink RX12 361 yX12_doMake ∈ lw_good := li_4 179 (by decide +kernel) (by decide +kernel)
theorem M_PR_doExpand : MwV yX12_doExpand cX12_doExpand 2 (some .boolean) 1 := ⟨li_4 208 (by decide +kernel) (by decide +kernel), li_4 207 (by decide +kernel) (by decide +kernel), lw_in 37 (by decide +kernel) (by decide +kernel), li_1 1 (by decide +kernel) (by decide +kernel), by decide +kernel⟩
theorem ln_RX12_365 : Cond.methodLink RX12 365 yX12_doExpand ∈ lw_good := li_4 205 (by decide +kernel) (by decide +kernel)
theorem M_PR_doAppend : MwV yX12_doAppend cX12_doAppend 3 (some .boolean) 1 := ⟨li_4 214 (by decide +kernel) (by decide +kernel), li_4 213 (by decide +kernel) (by decide +kernel), lw_in 38 (by decide +kernel) (by decide +kernel), li_1 1 (by decide +kernel) (by decide +kernel), by decide +kernel⟩
theorem ln_RX12_368 : Cond.methodLink RX12 368 yX12_doAppend ∈ lw_good := li_4 211 (by decide +kernel) (by decide +kernel)
theorem M_PR_doCut : MwV yX12_doCut cX12_doCut 2 (some .boolean) 1 := ⟨li_4 226 (by decide +kernel) (by decide +kernel), li_4 225 (by decide +kernel) (by decide +kernel), lw_in 39 (by decide +kernel) (by decide +kernel), li_1 1 (by decide +kernel) (by decide +kernel), by decide +kernel⟩
theorem ln_RX12_371 : Cond.methodLink RX12 371 yX12_doCut ∈ lw_good := li_4 223 (by decide +kernel) (by decide +kernel)
theorem ln_RX12_349 : Cond.methodLink RX12 349 yX6_word ∈ lw_good := li_4 25 (by decide +kernel) (by decide +kernel)
theorem ln_RX12_342 : Cond.methodLink RX12 342 yX6_number ∈ lw_good := li_4 20 (by decide +kernel) (by decide +kernel)
noncomputable def f_PR_doOrder (a1 : Int) (I : Mem) : Option ((Int) × Mem) :=
bnd (f_Scr_number a1 I) fun x3 J2 =>
bnd (f_Scr_word a1 J2) fun x6 J5 =>
if x6 < 15 then
if 0 ≤ (w32 ((x6 : Nat) : Int)) ∧ (w32 ((x6 : Nat) : Int)) < 15 then
if (w32 (wSm.getD (w32 ((x6 : Nat) : Int)).toNat 0)) = 1 then
bnd (f_Stp_makeSteps 0 x3 J5) fun x12 J11 =>
some (1, J11)
else if (w32 (wSm.getD (w32 ((x6 : Nat) : Int)).toNat 0)) = 2 then
bnd (f_Stp_inlineAll 0 J5) fun x16 J15 =>
some (1, J15)
else if (w32 (wSm.getD (w32 ((x6 : Nat) : Int)).toNat 0)) = 3 then
bnd (f_Scr_letter a1 0 J5) fun x20 J19 =>
bnd (f_Scr_letter a1 1 J19) fun x23 J22 =>
bnd (f_PR_doMake x20 x23 J22) fun x26 J25 =>
if x26 = 0 ∨ x26 = 1 then
some (x26, J25)
else none
else if (w32 (wSm.getD (w32 ((x6 : Nat) : Int)).toNat 0)) = 4 then
bnd (f_PR_doExpand x3 J5) fun x31 J30 =>
if x31 = 0 ∨ x31 = 1 then
some (x31, J30)
else none
else if (w32 (wSm.getD (w32 ((x6 : Nat) : Int)).toNat 0)) = 5 then
bnd (f_PR_doAppend a1 J5) fun x36 J35 =>
if x36 = 0 ∨ x36 = 1 then
some (x36, J35)
else none
else if (w32 (wSm.getD (w32 ((x6 : Nat) : Int)).toNat 0)) = 6 then
bnd (f_PR_doCut x3 J5) fun x41 J40 =>
if x41 = 0 ∨ x41 = 1 then
some (x41, J40)
else none
else if (w32 (wSm.getD (w32 ((x6 : Nat) : Int)).toNat 0)) = 7 then
bnd (f_G_putNumber 0 4 x3 J5) fun _ J45 =>
some (1, J45)
else if (w32 (wSm.getD (w32 ((x6 : Nat) : Int)).toNat 0)) = 8 then
bnd (f_G_putNumber 0 5 x3 J5) fun _ J49 =>
some (1, J49)
else if (w32 (wSm.getD (w32 ((x6 : Nat) : Int)).toNat 0)) = 9 then
bnd (f_G_putNumber 0 6 x3 J5) fun _ J53 =>
some (1, J53)
else some (0, J5)
else none
else none
set_option maxRecDepth 20000 in
theorem R_PR_doOrder (Z : ZT) (a1 : Int) (I : Mem) (r : Int) (J : Mem) (hf : f_PR_doOrder a1 I = some (r, J)) : Runs Z yX12_doOrder cX12_doOrder 3 (some .boolean) 7 [vr Z 0 0, vi a1] I (some (vi r), J) := by
  refine Runs.of (rv := fun x => some (vi x)) (by decide +kernel) (Nat.le_of_ble_eq_true rfl) hf (fun gr => ?_)
  unfold f_PR_doOrder
  refine WQ.loc [0, 1] (lv' := [(0, vr Z 0 0), (1, vi a1)]) rfl ?_
  refine wq_aload_n dX12_doOrder_0 0 rfl rfl ?_
  refine g_0_6 ln_RX12_54 dX12_doOrder_1 ?_
  refine wq_iload_n dX12_doOrder_4 1 rfl rfl ?_
  refine wq_cVi M_Scr_number (R_Scr_number Z a1 _) ob_8 rfl rfl (by decide) (by decide) (Nat.le_of_ble_eq_true rfl) ln_RX12_342 dX12_doOrder_5 (fun gr1 x3 J2 => ?_)
  refine wq_istore_n (lv' := [(2, vi x3), (0, vr Z 0 0), (1, vi a1)]) dX12_doOrder_8 rfl (by decide) rfl ?_
  refine wq_gets sta_smap ln_RX12_343 dX12_doOrder_9 ?_
  refine wq_aload_n dX12_doOrder_12 1 rfl rfl ?_
  refine g_0_6 ln_RX12_54 dX12_doOrder_13 ?_
  refine wq_iload_n dX12_doOrder_16 2 rfl rfl ?_
  refine wq_cVr 11 M_Scr_word (R_Scr_word Z a1 _) ob_8 rfl rfl (by decide) (by decide) (Nat.le_of_ble_eq_true rfl) ln_RX12_349 dX12_doOrder_17 (fun gr4 x6 J5 => ?_)
  refine wq_grd (fun g7 => ?_)
  refine wq_ordinal g7 (by decide) (Nat.le_of_ble_eq_true rfl) ln_RX12_353 dX12_doOrder_20 (fun gr8 => ?_)
  refine wq_grd (fun g9 => ?_)
  refine wq_smap rfl g9 dX12_doOrder_23 ?_
  refine WQ.split (fun c13 => ?_) (fun c13 => ?_)
  · refine wq_tin (n := 1) 76 dX12_doOrder_24 rfl c13 (by decide) (by decide) rfl (by decide) ?_
    refine wq_aload_n dX12_doOrder_76 1 rfl rfl ?_
    refine g_0_2 ln_RX12_22 dX12_doOrder_77 ?_
    refine wq_aload_n dX12_doOrder_80 1 rfl rfl ?_
    refine g_0_0 ln_RX12_12 dX12_doOrder_81 ?_
    refine wq_iload_n dX12_doOrder_84 0 rfl rfl ?_
    refine wq_cVi M_Stp_makeSteps (R_Stp_makeSteps Z 0 x3 _) ob_3 rfl rfl (by decide) (by decide) (Nat.le_of_ble_eq_true rfl) ln_RX12_272 dX12_doOrder_85 (fun gr10 x12 J11 => ?_)
    refine wq_pop dX12_doOrder_88 rfl ?_
    refine wq_iconst dX12_doOrder_89 ?_
    exact wq_zret rfl (by decide) rfl dX12_doOrder_90
  · skip
    refine WQ.split (fun c17 => ?_) (fun c17 => ?_)
    · refine wq_tin (n := 2) 91 dX12_doOrder_24 rfl c17 (by decide) (by decide) rfl (by decide) ?_
      refine wq_aload_n dX12_doOrder_91 1 rfl rfl ?_
      refine g_0_2 ln_RX12_22 dX12_doOrder_92 ?_
      refine wq_aload_n dX12_doOrder_95 1 rfl rfl ?_
      refine g_0_0 ln_RX12_12 dX12_doOrder_96 ?_
      refine wq_cVi M_Stp_inlineAll (R_Stp_inlineAll Z 0 _) ob_3 rfl rfl (by decide) (by decide) (Nat.le_of_ble_eq_true rfl) ln_RX12_279 dX12_doOrder_99 (fun gr14 x16 J15 => ?_)
      refine wq_pop dX12_doOrder_102 rfl ?_
      refine wq_iconst dX12_doOrder_103 ?_
      exact wq_zret rfl (by decide) rfl dX12_doOrder_104
    · skip
      refine WQ.split (fun c28 => ?_) (fun c28 => ?_)
      · refine wq_tin (n := 3) 105 dX12_doOrder_24 rfl c28 (by decide) (by decide) rfl (by decide) ?_
        refine wq_aload_n dX12_doOrder_105 1 rfl rfl ?_
        refine wq_aload_n dX12_doOrder_106 1 rfl rfl ?_
        refine g_0_6 ln_RX12_54 dX12_doOrder_107 ?_
        refine wq_iload_n dX12_doOrder_110 2 rfl rfl ?_
        refine wq_iconst dX12_doOrder_111 ?_
        refine wq_cVi M_Scr_letter (R_Scr_letter Z a1 0 _) ob_8 rfl rfl (by decide) (by decide) (Nat.le_of_ble_eq_true rfl) ln_RX12_358 dX12_doOrder_112 (fun gr18 x20 J19 => ?_)
        refine wq_aload_n dX12_doOrder_115 1 rfl rfl ?_
        refine g_0_6 ln_RX12_54 dX12_doOrder_116 ?_
        refine wq_iload_n dX12_doOrder_119 2 rfl rfl ?_
        refine wq_iconst dX12_doOrder_120 ?_
        refine wq_cVi M_Scr_letter (R_Scr_letter Z a1 1 _) ob_8 rfl rfl (by decide) (by decide) (Nat.le_of_ble_eq_true rfl) ln_RX12_358 dX12_doOrder_121 (fun gr21 x23 J22 => ?_)
        refine wq_cVi M_PR_doMake (R_PR_doMake Z x20 x23 _) ob_0 rfl rfl (by decide) (by decide) (Nat.le_of_ble_eq_true rfl) ln_RX12_361 dX12_doOrder_124 (fun gr24 x26 J25 => ?_)
        refine wq_grd (fun g27 => ?_)
        exact wq_zret rfl g27 rfl dX12_doOrder_127
      · skip
        refine WQ.split (fun c33 => ?_) (fun c33 => ?_)
        · refine wq_tin (n := 4) 128 dX12_doOrder_24 rfl c33 (by decide) (by decide) rfl (by decide) ?_
          refine wq_aload_n dX12_doOrder_128 1 rfl rfl ?_
          refine wq_iload_n dX12_doOrder_129 0 rfl rfl ?_
          refine wq_cVi M_PR_doExpand (R_PR_doExpand Z x3 _) ob_0 rfl rfl (by decide) (by decide) (Nat.le_of_ble_eq_true rfl) ln_RX12_365 dX12_doOrder_130 (fun gr29 x31 J30 => ?_)
          refine wq_grd (fun g32 => ?_)
          exact wq_zret rfl g32 rfl dX12_doOrder_133
        · skip
          refine WQ.split (fun c38 => ?_) (fun c38 => ?_)
          · refine wq_tin (n := 5) 134 dX12_doOrder_24 rfl c38 (by decide) (by decide) rfl (by decide) ?_
            refine wq_aload_n dX12_doOrder_134 1 rfl rfl ?_
            refine wq_iload_n dX12_doOrder_135 2 rfl rfl ?_
            refine wq_cVi M_PR_doAppend (R_PR_doAppend Z a1 _) ob_0 rfl rfl (by decide) (by decide) (Nat.le_of_ble_eq_true rfl) ln_RX12_368 dX12_doOrder_136 (fun gr34 x36 J35 => ?_)
            refine wq_grd (fun g37 => ?_)
            exact wq_zret rfl g37 rfl dX12_doOrder_139
          · skip
            refine WQ.split (fun c43 => ?_) (fun c43 => ?_)
            · refine wq_tin (n := 6) 140 dX12_doOrder_24 rfl c43 (by decide) (by decide) rfl (by decide) ?_
              refine wq_aload_n dX12_doOrder_140 1 rfl rfl ?_
              refine wq_iload_n dX12_doOrder_141 0 rfl rfl ?_
              refine wq_cVi M_PR_doCut (R_PR_doCut Z x3 _) ob_0 rfl rfl (by decide) (by decide) (Nat.le_of_ble_eq_true rfl) ln_RX12_371 dX12_doOrder_142 (fun gr39 x41 J40 => ?_)
              refine wq_grd (fun g42 => ?_)
              exact wq_zret rfl g42 rfl dX12_doOrder_145
            · skip
              refine WQ.split (fun c47 => ?_) (fun c47 => ?_)
              · refine wq_tin (n := 7) 146 dX12_doOrder_24 rfl c47 (by decide) (by decide) rfl (by decide) ?_
                refine wq_aload_n dX12_doOrder_146 1 rfl rfl ?_
                refine g_0_0 ln_RX12_12 dX12_doOrder_147 ?_
                refine wq_iconst dX12_doOrder_150 ?_
                refine wq_iload_n dX12_doOrder_151 0 rfl rfl ?_
                refine wq_cVv M_G_putNumber (R_G_putNumber Z 0 4 x3 _) (ob_1 (by decide)) rfl rfl (by decide) (by decide) (Nat.le_of_ble_eq_true rfl) ln_RX12_304 dX12_doOrder_152 (fun gr44 _ J45 => ?_)
                refine wq_iconst dX12_doOrder_155 ?_
                exact wq_zret rfl (by decide) rfl dX12_doOrder_156
              · skip
                refine WQ.split (fun c51 => ?_) (fun c51 => ?_)
                · refine wq_tin (n := 8) 157 dX12_doOrder_24 rfl c51 (by decide) (by decide) rfl (by decide) ?_
                  refine wq_aload_n dX12_doOrder_157 1 rfl rfl ?_
                  refine g_0_0 ln_RX12_12 dX12_doOrder_158 ?_
                  refine wq_iconst dX12_doOrder_161 ?_
                  refine wq_iload_n dX12_doOrder_162 0 rfl rfl ?_
                  refine wq_cVv M_G_putNumber (R_G_putNumber Z 0 5 x3 _) (ob_1 (by decide)) rfl rfl (by decide) (by decide) (Nat.le_of_ble_eq_true rfl) ln_RX12_304 dX12_doOrder_163 (fun gr48 _ J49 => ?_)
                  refine wq_iconst dX12_doOrder_166 ?_
                  exact wq_zret rfl (by decide) rfl dX12_doOrder_167
                · skip
                  refine WQ.split (fun c55 => ?_) (fun c55 => ?_)
                  · refine wq_tin (n := 9) 168 dX12_doOrder_24 rfl c55 (by decide) (by decide) rfl (by decide) ?_
                    refine wq_aload_n dX12_doOrder_168 1 rfl rfl ?_
                    refine g_0_0 ln_RX12_12 dX12_doOrder_169 ?_
                    refine wq_bipush dX12_doOrder_172 (by decide) ?_
                    refine wq_iload_n dX12_doOrder_174 0 rfl rfl ?_
                    refine wq_cVv M_G_putNumber (R_G_putNumber Z 0 6 x3 _) (ob_1 (by decide)) rfl rfl (by decide) (by decide) (Nat.le_of_ble_eq_true rfl) ln_RX12_304 dX12_doOrder_175 (fun gr52 _ J53 => ?_)
                    refine wq_iconst dX12_doOrder_178 ?_
                    exact wq_zret rfl (by decide) rfl dX12_doOrder_179
                  · skip
                    refine wq_tout 180 dX12_doOrder_24 rfl (by omega) (by decide) ?_
                    refine wq_iconst dX12_doOrder_180 ?_
                    exact wq_zret rfl (by decide) rfl dX12_doOrder_181

theorem M_Set_readItems : MwV yX7_readItems cX7_readItems 4 (some .boolean) 1 := ⟨li_3 17 (by decide +kernel) (by decide +kernel), li_3 16 (by decide +kernel) (by decide +kernel), lw_in 4 (by decide +kernel) (by decide +kernel), li_1 8 (by decide +kernel) (by decide +kernel), by decide +kernel⟩
theorem ln_RX7_70 : Cond.methodLink RX7 70 yX1_body ∈ lw_good := li_3 10 (by decide +kernel) (by decide +kernel)
theorem ln_RX7_93 : Cond.methodLink RX7 93 yX1_putLength ∈ lw_good := li_3 62 (by decide +kernel) (by decide +kernel)
theorem ln_RX7_74 : Cond.methodLink RX7 74 yX7_readItems ∈ lw_good := li_3 14 (by decide +kernel) (by decide +kernel)
noncomputable def f_Set_readRules_j95 (v1 : Int)   (I : Mem) : Option (((Int) ⊕ (Int)) × Mem) :=
bnd (f_Src_pass 3 I) fun x32 J31 =>
if (w32 x32) = 0 then
some (.inr (0), J31)
else
bnd (f_G_putLength 1 v1 (J31 7 0 3) J31) fun _ J34 =>
ltI (sI J34 7 0 2 (v1 + 1)) fun J36 =>
some (.inl (v1 + 1), J36)

noncomputable def f_Set_readRules_w2  (s : Int) (I : Mem) : Option (((Int) ⊕ (Int)) × Mem) :=
if 40 < (w32 s) then
some (.inr (1), I)
else
bnd (f_Src_word I) fun x3 J2 =>
if x3 < 15 then
if x3 = 0 then
if (w32 s) = 40 then
bnd (f_Src_fail 5 J2) fun x51 J50 =>
if x51 = 0 ∨ x51 = 1 then
some (.inr (x51), J50)
else none
else
bnd (f_Src_advance J2) fun _ J6 =>
bnd (f_G_body 1 s J6) fun x10 J9 =>
if x10 < 516 then
bnd (f_Set_readItems x10 J9) fun x14 J13 =>
if (w32 x14) = 0 then
some (.inr (0), J13)
else
bnd (f_Src_is 3 J13) fun x17 J16 =>
if (w32 x17) = 0 then
f_Set_readRules_j95 s J16
else
bnd (f_G_body 1 s J16) fun x21 J20 =>
if x21 < 516 then
if (w32 (J20 2 x21 1)) < 2 then
bnd (f_Src_fail 3 J20) fun x26 J25 =>
if x26 = 0 ∨ x26 = 1 then
some (.inr (x26), J25)
else none
else
f_Set_readRules_j95 s J20
else none
else none
else
some (.inr (1), J2)
else none

noncomputable def f_Set_readRules  (I : Mem) : Option ((Int) × Mem) :=
whl (f_Set_readRules_w2) 0 I
set_option maxRecDepth 20000 in
theorem R_Set_readRules (Z : ZT)  (I : Mem) (r : Int) (J : Mem) (hf : f_Set_readRules I = some (r, J)) : Runs Z yX7_readRules cX7_readRules 2 (some .boolean) 7 [vr Z 7 0] I (some (vi r), J) := by
  refine Runs.of (rv := fun x => some (vi x)) (by decide +kernel) (Nat.le_of_ble_eq_true rfl) hf (fun gr => ?_)
  unfold f_Set_readRules
  refine WQ.loc [0] (lv' := [(0, vr Z 7 0)]) rfl ?_
  refine wq_iconst dX7_readRules_0 ?_
  refine wq_istore_n (lv' := [(1, vi 0), (0, vr Z 7 0)]) dX7_readRules_1 rfl (by decide) rfl ?_
  refine WQ.loc [1, 0] (lv' := [(0, vr Z 7 0), (1, vi 0)]) rfl ?_
  refine wq_loop (fun s62 => [(0, vr Z 7 0), (1, vi s62)]) (fun κ56 bk57 hr59 gr61 s62 J60 => ?_) gr _ rfl
  unfold f_Set_readRules_w2
  refine wq_iload_n dX7_readRules_2 1 rfl rfl ?_
  refine wq_bipush dX7_readRules_3 (by decide) ?_
  refine wq_icmp_gt 133 dX7_readRules_5 (by decide) rfl rfl (fun c109 => ?_) (fun c109 => ?_)
  · refine wq_iconst dX7_readRules_133 ?_
    exact wq_zret rfl (by decide) ((hr59 _ _).trans rfl) dX7_readRules_134
  · refine wq_aload_n dX7_readRules_8 0 rfl rfl ?_
    refine g_7_0 ln_RX7_9 dX7_readRules_9 ?_
    refine wq_cVr 11 M_Src_word (R_Src_word Z _) ob_6 rfl rfl (by decide) (by decide) (Nat.le_of_ble_eq_true rfl) ln_RX7_53 dX7_readRules_12 (fun gr63 x65 J64 => ?_)
    refine wq_grd (fun g66 => ?_)
    refine wq_gets (sta_word 0 (by decide)) ln_RX7_57 dX7_readRules_15 ?_
    refine wq_acmp_ne 133 dX7_readRules_18 (by decide) g66 (by decide) (fun c108 => ?_) (fun c108 => ?_)
    · refine wq_iload_n dX7_readRules_21 1 rfl rfl ?_
      refine wq_bipush dX7_readRules_22 (by decide) ?_
      refine wq_icmp_ne 36 dX7_readRules_24 (by decide) rfl rfl (fun c107 => ?_) (fun c107 => ?_)
      · refine wq_aload_n dX7_readRules_27 0 rfl rfl ?_
        refine g_7_0 ln_RX7_9 dX7_readRules_28 ?_
        refine wq_iconst dX7_readRules_31 ?_
        refine wq_cVi M_Src_fail (R_Src_fail Z 5 _) ob_6 rfl rfl (by decide) (by decide) (Nat.le_of_ble_eq_true rfl) ln_RX7_63 dX7_readRules_32 (fun gr103 x105 J104 => ?_)
        refine wq_grd (fun g106 => ?_)
        exact wq_zret rfl g106 ((hr59 _ _).trans rfl) dX7_readRules_35
      · refine wq_aload_n dX7_readRules_36 0 rfl rfl ?_
        refine g_7_0 ln_RX7_9 dX7_readRules_37 ?_
        refine wq_cVv M_Src_advance (R_Src_advance Z _) ob_6 rfl rfl (by decide) (by decide) (Nat.le_of_ble_eq_true rfl) ln_RX7_67 dX7_readRules_40 (fun gr67 _ J68 => ?_)
        refine wq_aload_n dX7_readRules_43 0 rfl rfl ?_
        refine wq_aload_n dX7_readRules_44 0 rfl rfl ?_
        refine g_7_1 ln_RX7_15 dX7_readRules_45 ?_
        refine wq_iload_n dX7_readRules_48 1 rfl rfl ?_
        refine wq_cVr 2 M_G_body (R_G_body Z 1 s62 _) (ob_1 (by decide)) rfl rfl (by decide) (by decide) (Nat.le_of_ble_eq_true rfl) ln_RX7_70 dX7_readRules_49 (fun gr70 x72 J71 => ?_)
        refine wq_grd (fun g73 => ?_)
        refine wq_cVi M_Set_readItems (R_Set_readItems Z x72 _) ob_7 rfl rfl (by decide) (by decide) (Nat.le_of_ble_eq_true rfl) ln_RX7_74 dX7_readRules_52 (fun gr74 x76 J75 => ?_)
        refine wq_if_ne 60 dX7_readRules_55 (by decide) rfl (fun c102 => ?_) (fun c102 => ?_)
        · refine wq_iconst dX7_readRules_58 ?_
          exact wq_zret rfl (by decide) ((hr59 _ _).trans rfl) dX7_readRules_59
        · refine wq_aload_n dX7_readRules_60 0 rfl rfl ?_
          refine g_7_0 ln_RX7_9 dX7_readRules_61 ?_
          refine wq_iconst dX7_readRules_64 ?_
          refine wq_cVi M_Src_is (R_Src_is Z 3 _) ob_6 rfl rfl (by decide) (by decide) (Nat.le_of_ble_eq_true rfl) ln_RX7_78 dX7_readRules_65 (fun gr77 x79 J78 => ?_)
          have hj80 : ∀ (gr93 : Nat → Nat)   (J92 : Mem), WQ Z (yX7_readRules, cX7_readRules, 2, some .boolean, 7) I gr93 95 [(0, vr Z 7 0), (1, vi s62)] [] J92 (f_Set_readRules_j95 s62 J92) κ56 := by
            intro gr93 J92
            unfold f_Set_readRules_j95
            refine wq_aload_n dX7_readRules_95 0 rfl rfl ?_
            refine g_7_0 ln_RX7_9 dX7_readRules_96 ?_
            refine wq_iconst dX7_readRules_99 ?_
            refine wq_cVi M_Src_pass (R_Src_pass Z 3 _) ob_6 rfl rfl (by decide) (by decide) (Nat.le_of_ble_eq_true rfl) ln_RX7_87 dX7_readRules_100 (fun gr94 x96 J95 => ?_)
            refine wq_if_ne 108 dX7_readRules_103 (by decide) rfl (fun c101 => ?_) (fun c101 => ?_)
            · refine wq_iconst dX7_readRules_106 ?_
              exact wq_zret rfl (by decide) ((hr59 _ _).trans rfl) dX7_readRules_107
            · refine wq_aload_n dX7_readRules_108 0 rfl rfl ?_
              refine g_7_1 ln_RX7_15 dX7_readRules_109 ?_
              refine wq_iload_n dX7_readRules_112 1 rfl rfl ?_
              refine wq_aload_n dX7_readRules_113 0 rfl rfl ?_
              refine g_7_3 ln_RX7_90 dX7_readRules_114 ?_
              refine wq_cVv M_G_putLength (R_G_putLength Z 1 s62 (J95 7 0 3) _) (ob_1 (by decide)) rfl rfl (by decide) (by decide) (Nat.le_of_ble_eq_true rfl) ln_RX7_93 dX7_readRules_117 (fun gr97 _ J98 => ?_)
              refine wq_aload_n dX7_readRules_120 0 rfl rfl ?_
              refine wq_iload_n dX7_readRules_121 1 rfl rfl ?_
              refine wq_iconst dX7_readRules_122 ?_
              refine wq_iadd dX7_readRules_123 ?_
              refine p_7_2 ln_RX7_24 dX7_readRules_124 (fun J100 => ?_)
              refine wq_iinc (lv' := [(1, vi (s62 + 1)), (0, vr Z 7 0)]) dX7_readRules_127 1 rfl (by decide) rfl ?_
              refine wq_goto 2 dX7_readRules_130 (by decide) ?_
              exact WQ.loc [1, 0] rfl (bk57 _ _ _)
          refine wq_if_eq 95 dX7_readRules_68 (by decide) rfl (fun c91 => ?_) (fun c91 => ?_)
          · exact WQ.loc [0, 1] rfl (hj80 _   _)
          · refine wq_aload_n dX7_readRules_71 0 rfl rfl ?_
            refine g_7_1 ln_RX7_15 dX7_readRules_72 ?_
            refine wq_iload_n dX7_readRules_75 1 rfl rfl ?_
            refine wq_cVr 2 M_G_body (R_G_body Z 1 s62 _) (ob_1 (by decide)) rfl rfl (by decide) (by decide) (Nat.le_of_ble_eq_true rfl) ln_RX7_70 dX7_readRules_76 (fun gr81 x83 J82 => ?_)
            refine wq_grd (fun g84 => ?_)
            refine wq_pV (v := vi (J82 2 x83 1)) M_Row_many (R_Row_many Z x83 _ _ _ (if_pos g84)) (ob_2 g84) rfl rfl (by decide) (by decide) (Nat.le_of_ble_eq_true rfl) ln_RX7_81 dX7_readRules_79 (fun gr85 => ?_)
            refine wq_iconst dX7_readRules_82 ?_
            refine wq_icmp_ge 95 dX7_readRules_83 (by decide) rfl rfl (fun c90 => ?_) (fun c90 => ?_)
            · refine wq_aload_n dX7_readRules_86 0 rfl rfl ?_
              refine g_7_0 ln_RX7_9 dX7_readRules_87 ?_
              refine wq_iconst dX7_readRules_90 ?_
              refine wq_cVi M_Src_fail (R_Src_fail Z 3 _) ob_6 rfl rfl (by decide) (by decide) (Nat.le_of_ble_eq_true rfl) ln_RX7_63 dX7_readRules_91 (fun gr86 x88 J87 => ?_)
              refine wq_grd (fun g89 => ?_)
              exact wq_zret rfl g89 ((hr59 _ _).trans rfl) dX7_readRules_94
            · exact WQ.loc [0, 1] rfl (hj80 _   _)
    · refine wq_iconst dX7_readRules_133 ?_
      exact wq_zret rfl (by decide) ((hr59 _ _).trans rfl) dX7_readRules_134

theorem ln_RX7_97 : Cond.fieldLink RX7 97 RX11 "START" "LPairRules$Word;" ∈ lw_good := li_3 70 (by decide +kernel) (by decide +kernel)
theorem ln_RX7_100 : Cond.methodLink RX7 100 yX1_startRow ∈ lw_good := li_3 72 (by decide +kernel) (by decide +kernel)
noncomputable def f_Set_readStart  (I : Mem) : Option ((Int) × Mem) :=
bnd (f_Src_word I) fun x3 J2 =>
if x3 < 15 then
if x3 = 1 then
bnd (f_Src_advance J2) fun _ J6 =>
bnd (f_Set_readItems (43 * 1) J6) fun x11 J10 =>
if x11 = 0 ∨ x11 = 1 then
some (x11, J10)
else none
else
bnd (f_Src_fail 1 J2) fun x15 J14 =>
if x15 = 0 ∨ x15 = 1 then
some (x15, J14)
else none
else none
set_option maxRecDepth 20000 in
theorem R_Set_readStart (Z : ZT)  (I : Mem) (r : Int) (J : Mem) (hf : f_Set_readStart I = some (r, J)) : Runs Z yX7_readStart cX7_readStart 1 (some .boolean) 7 [vr Z 7 0] I (some (vi r), J) := by
  refine Runs.of (rv := fun x => some (vi x)) (by decide +kernel) (Nat.le_of_ble_eq_true rfl) hf (fun gr => ?_)
  unfold f_Set_readStart
  refine WQ.loc [0] (lv' := [(0, vr Z 7 0)]) rfl ?_
  refine wq_aload_n dX7_readStart_0 0 rfl rfl ?_
  refine g_7_0 ln_RX7_9 dX7_readStart_1 ?_
  refine wq_cVr 11 M_Src_word (R_Src_word Z _) ob_6 rfl rfl (by decide) (by decide) (Nat.le_of_ble_eq_true rfl) ln_RX7_53 dX7_readStart_4 (fun gr1 x3 J2 => ?_)
  refine wq_grd (fun g4 => ?_)
  refine wq_gets (sta_word 1 (by decide)) ln_RX7_97 dX7_readStart_7 ?_
  refine wq_acmp_eq 22 dX7_readStart_10 (by decide) g4 (by decide) (fun c17 => ?_) (fun c17 => ?_)
  · refine wq_aload_n dX7_readStart_22 0 rfl rfl ?_
    refine g_7_0 ln_RX7_9 dX7_readStart_23 ?_
    refine wq_cVv M_Src_advance (R_Src_advance Z _) ob_6 rfl rfl (by decide) (by decide) (Nat.le_of_ble_eq_true rfl) ln_RX7_67 dX7_readStart_26 (fun gr5 _ J6 => ?_)
    refine wq_aload_n dX7_readStart_29 0 rfl rfl ?_
    refine wq_aload_n dX7_readStart_30 0 rfl rfl ?_
    refine g_7_1 ln_RX7_15 dX7_readStart_31 ?_
    refine wq_pV (v := vr Z 2 (43 * 1)) M_G_startRow (R_G_startRow Z 1 _ _ _ (if_pos (by decide))) (ob_1 (by decide)) rfl rfl (by decide) (by decide) (Nat.le_of_ble_eq_true rfl) ln_RX7_100 dX7_readStart_34 (fun gr8 => ?_)
    refine wq_cVi M_Set_readItems (R_Set_readItems Z (43 * 1) _) ob_7 rfl rfl (by decide) (by decide) (Nat.le_of_ble_eq_true rfl) ln_RX7_74 dX7_readStart_37 (fun gr9 x11 J10 => ?_)
    refine wq_grd (fun g12 => ?_)
    exact wq_zret rfl g12 rfl dX7_readStart_40
  · refine wq_aload_n dX7_readStart_13 0 rfl rfl ?_
    refine g_7_0 ln_RX7_9 dX7_readStart_14 ?_
    refine wq_iconst dX7_readStart_17 ?_
    refine wq_cVi M_Src_fail (R_Src_fail Z 1 _) ob_6 rfl rfl (by decide) (by decide) (Nat.le_of_ble_eq_true rfl) ln_RX7_63 dX7_readStart_18 (fun gr13 x15 J14 => ?_)
    refine wq_grd (fun g16 => ?_)
    exact wq_zret rfl g16 rfl dX7_readStart_21

theorem M_Src_rewind : MwV yX8_rewind cX8_rewind 1 (none) 0 := ⟨li_2 163 (by decide +kernel) (by decide +kernel), li_2 161 (by decide +kernel) (by decide +kernel), li_2 162 (by decide +kernel) (by decide +kernel), li_1 7 (by decide +kernel) (by decide +kernel), by decide +kernel⟩
theorem M_Scr_readOrder : MwV yX6_readOrder cX6_readOrder 3 (some .boolean) 0 := ⟨li_3 208 (by decide +kernel) (by decide +kernel), li_3 207 (by decide +kernel) (by decide +kernel), lw_in 16 (by decide +kernel) (by decide +kernel), li_1 9 (by decide +kernel) (by decide +kernel), by decide +kernel⟩
theorem ln_RX6_67 : Cond.methodLink RX6 67 yX6_readOrder ∈ lw_good := li_3 205 (by decide +kernel) (by decide +kernel)
theorem M_Scr_readClose : MwV yX6_readClose cX6_readClose 3 (some .boolean) 0 := ⟨li_3 195 (by decide +kernel) (by decide +kernel), li_3 194 (by decide +kernel) (by decide +kernel), lw_in 14 (by decide +kernel) (by decide +kernel), li_1 9 (by decide +kernel) (by decide +kernel), by decide +kernel⟩
theorem ln_RX6_63 : Cond.methodLink RX6 63 yX6_readClose ∈ lw_good := li_3 192 (by decide +kernel) (by decide +kernel)
theorem ln_RX6_54 : Cond.methodLink RX6 54 yX8_rewind ∈ lw_good := li_3 190 (by decide +kernel) (by decide +kernel)
noncomputable def f_Scr_read_j74 (v1 : Int)  (e0 : Int) (I : Mem) : Option (((Int) ⊕ (Int)) × Mem) :=
if (w32 e0) = 0 then
bnd (f_Scr_readOrder I) fun x26 J25 =>
if (w32 x26) = 0 then
some (.inr (0), J25)
else
some (.inl (v1 + 1), J25)
else
bnd (f_Scr_readClose I) fun x30 J29 =>
if (w32 x30) = 0 then
some (.inr (0), J29)
else
some (.inl (v1 + 1), J29)

noncomputable def f_Scr_read_j73 (v1 : Int)   (I : Mem) : Option (((Int) ⊕ (Int)) × Mem) :=
f_Scr_read_j74 v1 0 I

noncomputable def f_Scr_read_j51 (v1 : Int)   (I : Mem) : Option (((Int) ⊕ (Int)) × Mem) :=
if 0 < (w32 (I 8 0 10)) then
bnd (f_Src_is 5 I) fun x21 J20 =>
if (w32 x21) = 0 then
f_Scr_read_j73 v1 J20
else
f_Scr_read_j74 v1 1 J20
else
f_Scr_read_j73 v1 I

noncomputable def f_Scr_read_w24  (s : Int) (I : Mem) : Option (((Int) ⊕ (Int)) × Mem) :=
if 600 < (w32 s) then
bnd (f_Src_fail 1 I) fun x9 J8 =>
if x9 = 0 ∨ x9 = 1 then
some (.inr (x9), J8)
else none
else
if (w32 (I 8 0 10)) = 0 then
bnd (f_Src_is 0 I) fun x14 J13 =>
if (w32 x14) = 0 then
f_Scr_read_j51 s J13
else
some (.inr (1), J13)
else
f_Scr_read_j51 s I

noncomputable def f_Scr_read  (I : Mem) : Option ((Int) × Mem) :=
ltI (sI I 8 0 8 0) fun J1 =>
ltI (sI J1 8 0 9 0) fun J2 =>
ltI (sI J2 8 0 10 0) fun J3 =>
bnd (f_Src_rewind J3) fun _ J5 =>
whl (f_Scr_read_w24) 0 J5
set_option maxRecDepth 20000 in
theorem R_Scr_read (Z : ZT)  (I : Mem) (r : Int) (J : Mem) (hf : f_Scr_read I = some (r, J)) : Runs Z yX6_read cX6_read 3 (some .boolean) 8 [vr Z 8 0] I (some (vi r), J) := by
  refine Runs.of (rv := fun x => some (vi x)) (by decide +kernel) (Nat.le_of_ble_eq_true rfl) hf (fun gr => ?_)
  unfold f_Scr_read
  refine WQ.loc [0] (lv' := [(0, vr Z 8 0)]) rfl ?_
  refine wq_aload_n dX6_read_0 0 rfl rfl ?_
  refine wq_iconst dX6_read_1 ?_
  refine p_8_8 ln_RX6_44 dX6_read_2 (fun J1 => ?_)
  refine wq_aload_n dX6_read_5 0 rfl rfl ?_
  refine wq_iconst dX6_read_6 ?_
  refine p_8_9 ln_RX6_48 dX6_read_7 (fun J2 => ?_)
  refine wq_aload_n dX6_read_10 0 rfl rfl ?_
  refine wq_iconst dX6_read_11 ?_
  refine p_8_10 ln_RX6_51 dX6_read_12 (fun J3 => ?_)
  refine wq_aload_n dX6_read_15 0 rfl rfl ?_
  refine g_8_0 ln_RX6_36 dX6_read_16 ?_
  refine wq_cVv M_Src_rewind (R_Src_rewind Z _) ob_6 rfl rfl (by decide) (by decide) (Nat.le_of_ble_eq_true rfl) ln_RX6_54 dX6_read_19 (fun gr4 _ J5 => ?_)
  refine wq_iconst dX6_read_22 ?_
  refine wq_istore_n (lv' := [(1, vi 0), (0, vr Z 8 0)]) dX6_read_23 rfl (by decide) rfl ?_
  refine WQ.loc [1, 0] (lv' := [(0, vr Z 8 0), (1, vi 0)]) rfl ?_
  refine wq_loop (fun s75 => [(0, vr Z 8 0), (1, vi s75)]) (fun κ69 bk70 hr72 gr74 s75 J73 => ?_) gr4 _ rfl
  unfold f_Scr_read_w24
  refine wq_iload_n dX6_read_24 1 rfl rfl ?_
  refine wq_sipush dX6_read_25 (by decide) ?_
  refine wq_icmp_gt 104 dX6_read_28 (by decide) rfl rfl (fun c108 => ?_) (fun c108 => ?_)
  · refine wq_aload_n dX6_read_104 0 rfl rfl ?_
    refine g_8_0 ln_RX6_36 dX6_read_105 ?_
    refine wq_iconst dX6_read_108 ?_
    refine wq_cVi M_Src_fail (R_Src_fail Z 1 _) ob_6 rfl rfl (by decide) (by decide) (Nat.le_of_ble_eq_true rfl) ln_RX6_70 dX6_read_109 (fun gr76 x78 J77 => ?_)
    refine wq_grd (fun g79 => ?_)
    exact wq_zret rfl g79 ((hr72 _ _).trans rfl) dX6_read_112
  · refine wq_aload_n dX6_read_31 0 rfl rfl ?_
    refine g_8_10 ln_RX6_51 dX6_read_32 ?_
    have hj80 : ∀ (gr87 : Nat → Nat)   (J86 : Mem), WQ Z (yX6_read, cX6_read, 3, some .boolean, 8) I gr87 51 [(0, vr Z 8 0), (1, vi s75)] [] J86 (f_Scr_read_j51 s75 J86) κ69 := by
      intro gr87 J86
      unfold f_Scr_read_j51
      refine wq_aload_n dX6_read_51 0 rfl rfl ?_
      refine g_8_10 ln_RX6_51 dX6_read_52 ?_
      have hj88 : ∀ (gr96 : Nat → Nat)  (hj88e0 : Int) (J95 : Mem), WQ Z (yX6_read, cX6_read, 3, some .boolean, 8) I gr96 74 [(0, vr Z 8 0), (1, vi s75)] [vi hj88e0] J95 (f_Scr_read_j74 s75 hj88e0 J95) κ69 := by
        intro gr96 hj88e0 J95
        unfold f_Scr_read_j74
        refine wq_istore_n (lv' := [(2, vi hj88e0), (0, vr Z 8 0), (1, vi s75)]) dX6_read_74 rfl (by decide) rfl ?_
        refine wq_iload_n dX6_read_75 0 rfl rfl ?_
        refine wq_if_eq 89 dX6_read_76 (by decide) rfl (fun c105 => ?_) (fun c105 => ?_)
        · refine wq_aload_n dX6_read_89 1 rfl rfl ?_
          refine wq_cVi M_Scr_readOrder (R_Scr_readOrder Z _) ob_8 rfl rfl (by decide) (by decide) (Nat.le_of_ble_eq_true rfl) ln_RX6_67 dX6_read_90 (fun gr97 x99 J98 => ?_)
          refine wq_if_ne 98 dX6_read_93 (by decide) rfl (fun c100 => ?_) (fun c100 => ?_)
          · refine wq_iconst dX6_read_96 ?_
            exact wq_zret rfl (by decide) ((hr72 _ _).trans rfl) dX6_read_97
          · refine wq_iinc (lv' := [(1, vi (s75 + 1)), (2, vi hj88e0), (0, vr Z 8 0)]) dX6_read_98 2 rfl (by decide) rfl ?_
            refine wq_goto 24 dX6_read_101 (by decide) ?_
            exact WQ.loc [2, 0] rfl (bk70 _ _ _)
        · refine wq_aload_n dX6_read_79 1 rfl rfl ?_
          refine wq_cVi M_Scr_readClose (R_Scr_readClose Z _) ob_8 rfl rfl (by decide) (by decide) (Nat.le_of_ble_eq_true rfl) ln_RX6_63 dX6_read_80 (fun gr101 x103 J102 => ?_)
          refine wq_if_eq 96 dX6_read_83 (by decide) rfl (fun c104 => ?_) (fun c104 => ?_)
          · refine wq_iconst dX6_read_96 ?_
            exact wq_zret rfl (by decide) ((hr72 _ _).trans rfl) dX6_read_97
          · refine wq_goto 98 dX6_read_86 (by decide) ?_
            refine wq_iinc (lv' := [(1, vi (s75 + 1)), (2, vi hj88e0), (0, vr Z 8 0)]) dX6_read_98 2 rfl (by decide) rfl ?_
            refine wq_goto 24 dX6_read_101 (by decide) ?_
            exact WQ.loc [2, 0] rfl (bk70 _ _ _)
      have hj89 : ∀ (gr107 : Nat → Nat)   (J106 : Mem), WQ Z (yX6_read, cX6_read, 3, some .boolean, 8) I gr107 73 [(0, vr Z 8 0), (1, vi s75)] [] J106 (f_Scr_read_j73 s75 J106) κ69 := by
        intro gr107 J106
        unfold f_Scr_read_j73
        refine wq_iconst dX6_read_73 ?_
        exact WQ.loc [0, 1] rfl (hj88 _  _ _)
      refine wq_if_le 73 dX6_read_55 (by decide) rfl (fun c94 => ?_) (fun c94 => ?_)
      · refine wq_aload_n dX6_read_58 0 rfl rfl ?_
        refine g_8_0 ln_RX6_36 dX6_read_59 ?_
        refine wq_iconst dX6_read_62 ?_
        refine wq_cVi M_Src_is (R_Src_is Z 5 _) ob_6 rfl rfl (by decide) (by decide) (Nat.le_of_ble_eq_true rfl) ln_RX6_59 dX6_read_63 (fun gr90 x92 J91 => ?_)
        refine wq_if_eq 73 dX6_read_66 (by decide) rfl (fun c93 => ?_) (fun c93 => ?_)
        · exact WQ.loc [0, 1] rfl (hj89 _   _)
        · refine wq_iconst dX6_read_69 ?_
          refine wq_goto 74 dX6_read_70 (by decide) ?_
          exact WQ.loc [0, 1] rfl (hj88 _  _ _)
      · exact WQ.loc [0, 1] rfl (hj89 _   _)
    refine wq_if_ne 51 dX6_read_35 (by decide) rfl (fun c85 => ?_) (fun c85 => ?_)
    · refine wq_aload_n dX6_read_38 0 rfl rfl ?_
      refine g_8_0 ln_RX6_36 dX6_read_39 ?_
      refine wq_iconst dX6_read_42 ?_
      refine wq_cVi M_Src_is (R_Src_is Z 0 _) ob_6 rfl rfl (by decide) (by decide) (Nat.le_of_ble_eq_true rfl) ln_RX6_59 dX6_read_43 (fun gr81 x83 J82 => ?_)
      refine wq_if_eq 51 dX6_read_46 (by decide) rfl (fun c84 => ?_) (fun c84 => ?_)
      · exact WQ.loc [0, 1] rfl (hj80 _   _)
      · refine wq_iconst dX6_read_49 ?_
        exact wq_zret rfl (by decide) ((hr72 _ _).trans rfl) dX6_read_50
    · exact WQ.loc [0, 1] rfl (hj80 _   _)

theorem M_Scr_read : MwV yX6_read cX6_read 3 (some .boolean) 0 := ⟨li_3 189 (by decide +kernel) (by decide +kernel), li_3 187 (by decide +kernel) (by decide +kernel), li_3 188 (by decide +kernel) (by decide +kernel), li_1 9 (by decide +kernel) (by decide +kernel), by decide +kernel⟩
theorem M_Scr_firstOrder : MwV yX6_firstOrder cX6_firstOrder 1 (some .int) 0 := ⟨li_4 0 (by decide +kernel) (by decide +kernel), li_3 238 (by decide +kernel) (by decide +kernel), li_3 239 (by decide +kernel) (by decide +kernel), li_1 9 (by decide +kernel) (by decide +kernel), by decide +kernel⟩
theorem M_PR_doOrder : MwV yX12_doOrder cX12_doOrder 3 (some .boolean) 1 := ⟨li_4 19 (by decide +kernel) (by decide +kernel), li_4 18 (by decide +kernel) (by decide +kernel), lw_in 23 (by decide +kernel) (by decide +kernel), li_1 1 (by decide +kernel) (by decide +kernel), by decide +kernel⟩
theorem M_Scr_orderBehind : MwV yX6_orderBehind cX6_orderBehind 2 (some .int) 1 := ⟨li_5 1 (by decide +kernel) (by decide +kernel), li_4 239 (by decide +kernel) (by decide +kernel), li_5 0 (by decide +kernel) (by decide +kernel), li_1 9 (by decide +kernel) (by decide +kernel), by decide +kernel⟩
theorem ln_RX12_135 : Cond.methodLink RX12 135 yX6_orderBehind ∈ lw_good := li_4 238 (by decide +kernel) (by decide +kernel)
theorem ln_RX12_132 : Cond.methodLink RX12 132 yX12_doOrder ∈ lw_good := li_4 16 (by decide +kernel) (by decide +kernel)
theorem M_Src_dropAll : MwV yX8_dropAll cX8_dropAll 1 (none) 0 := ⟨li_3 113 (by decide +kernel) (by decide +kernel), li_3 111 (by decide +kernel) (by decide +kernel), li_3 112 (by decide +kernel) (by decide +kernel), li_1 7 (by decide +kernel) (by decide +kernel), by decide +kernel⟩
theorem ln_RX12_99 : Cond.methodLink RX12 99 yX8_dropAll ∈ lw_good := li_3 110 (by decide +kernel) (by decide +kernel)
theorem ln_RX12_129 : Cond.methodLink RX12 129 yX6_firstOrder ∈ lw_good := li_3 237 (by decide +kernel) (by decide +kernel)
theorem M_PR_failure : MwV yX12_failure cX12_failure 1 (some .int) 0 := ⟨li_3 117 (by decide +kernel) (by decide +kernel), li_3 116 (by decide +kernel) (by decide +kernel), lw_in 12 (by decide +kernel) (by decide +kernel), li_1 1 (by decide +kernel) (by decide +kernel), by decide +kernel⟩
theorem ln_RX12_102 : Cond.methodLink RX12 102 yX12_failure ∈ lw_good := li_3 114 (by decide +kernel) (by decide +kernel)
theorem ln_RX12_125 : Cond.methodLink RX12 125 yX6_read ∈ lw_good := li_3 186 (by decide +kernel) (by decide +kernel)
noncomputable def f_PR_play_w50  (s : Int × Int) (I : Mem) : Option (((Int × Int) ⊕ (Int)) × Mem) :=
if (w32 s.1) < 40 then
if (w32 s.2) = (-1) then
some (.inr s.1, I)
else
bnd (f_PR_doOrder s.2 I) fun x13 J12 =>
if (w32 x13) = 0 then
some (.inr s.1, J12)
else
bnd (f_Scr_orderBehind s.2 J12) fun x16 J15 =>
some (.inl ((s.1 + 1), x16), J15)
else
some (.inr s.1, I)

noncomputable def f_PR_play  (I : Mem) : Option ((Int) × Mem) :=
bnd (f_Scr_read I) fun x3 J2 =>
if (w32 x3) = 0 then
bnd (f_Src_dropAll J2) fun _ J43 =>
bnd (f_PR_failure J43) fun x47 J46 =>
some (x47, J46)
else
ltI (sI J2 0 0 9 (-1)) fun J4 =>
bnd (f_His_remember 0 J4) fun _ J6 =>
bnd (f_Scr_firstOrder J6) fun x10 J9 =>
bnd (whl (f_PR_play_w50) (0, x10) J9) fun r36 J37 =>
bnd (f_Src_dropAll J37) fun _ J40 =>
some (r36, J40)
set_option maxRecDepth 20000 in
theorem R_PR_play (Z : ZT)  (I : Mem) (r : Int) (J : Mem) (hf : f_PR_play I = some (r, J)) : Runs Z yX12_play cX12_play 4 (some .int) 9 [vr Z 0 0] I (some (vi r), J) := by
  refine Runs.of (rv := fun x => some (vi x)) (by decide +kernel) (Nat.le_of_ble_eq_true rfl) hf (fun gr => ?_)
  unfold f_PR_play
  refine WQ.loc [0] (lv' := [(0, vr Z 0 0)]) rfl ?_
  refine wq_aload_n dX12_play_0 0 rfl rfl ?_
  refine g_0_6 ln_RX12_54 dX12_play_1 ?_
  refine wq_cVi M_Scr_read (R_Scr_read Z _) ob_8 rfl rfl (by decide) (by decide) (Nat.le_of_ble_eq_true rfl) ln_RX12_125 dX12_play_4 (fun gr1 x3 J2 => ?_)
  refine wq_istore_n (lv' := [(1, vi x3), (0, vr Z 0 0)]) dX12_play_7 rfl (by decide) rfl ?_
  refine wq_iload_n dX12_play_8 0 rfl rfl ?_
  refine wq_if_ne 24 dX12_play_9 (by decide) rfl (fun c48 => ?_) (fun c48 => ?_)
  · refine wq_aload_n dX12_play_12 1 rfl rfl ?_
    refine g_0_4 ln_RX12_36 dX12_play_13 ?_
    refine wq_cVv M_Src_dropAll (R_Src_dropAll Z _) ob_6 rfl rfl (by decide) (by decide) (Nat.le_of_ble_eq_true rfl) ln_RX12_99 dX12_play_16 (fun gr42 _ J43 => ?_)
    refine wq_aload_n dX12_play_19 1 rfl rfl ?_
    refine wq_cVi M_PR_failure (R_PR_failure Z _) ob_0 rfl rfl (by decide) (by decide) (Nat.le_of_ble_eq_true rfl) ln_RX12_102 dX12_play_20 (fun gr45 x47 J46 => ?_)
    exact wq_iret rfl rfl dX12_play_23
  · refine wq_aload_n dX12_play_24 1 rfl rfl ?_
    refine wq_iconst dX12_play_25 ?_
    refine p_0_9 ln_RX12_72 dX12_play_26 (fun J4 => ?_)
    refine wq_aload_n dX12_play_29 1 rfl rfl ?_
    refine g_0_7 ln_RX12_61 dX12_play_30 ?_
    refine wq_aload_n dX12_play_33 1 rfl rfl ?_
    refine g_0_0 ln_RX12_12 dX12_play_34 ?_
    refine wq_cVv M_His_remember (R_His_remember Z 0 _) ob_9 rfl rfl (by decide) (by decide) (Nat.le_of_ble_eq_true rfl) ln_RX12_126 dX12_play_37 (fun gr5 _ J6 => ?_)
    refine wq_iconst dX12_play_40 ?_
    refine wq_istore_n (lv' := [(2, vi 0), (1, vi x3), (0, vr Z 0 0)]) dX12_play_41 rfl (by decide) rfl ?_
    refine wq_aload_n dX12_play_42 2 rfl rfl ?_
    refine g_0_6 ln_RX12_54 dX12_play_43 ?_
    refine wq_cVi M_Scr_firstOrder (R_Scr_firstOrder Z _) ob_8 rfl rfl (by decide) (by decide) (Nat.le_of_ble_eq_true rfl) ln_RX12_129 dX12_play_46 (fun gr8 x10 J9 => ?_)
    refine wq_istore_n (lv' := [(3, vi x10), (2, vi 0), (1, vi x3), (0, vr Z 0 0)]) dX12_play_49 rfl (by decide) rfl ?_
    refine WQ.loc [3, 1, 0] (lv' := [(0, vr Z 0 0), (2, vi 0), (3, vi x10)]) rfl ?_
    refine wq_loopS (fun s26 => [(0, vr Z 0 0), (2, vi s26.1), (3, vi s26.2)]) 84 (fun r36 => [(0, vr Z 0 0), (2, vi r36)]) (fun κ20 bk21 ex22 gr25 s26 J24 => ?_) (fun gr38 r36 J37 => ?_) gr8 _ rfl
    · unfold f_PR_play_w50
      refine wq_iload_n dX12_play_50 1 rfl rfl ?_
      refine wq_bipush dX12_play_51 (by decide) ?_
      refine wq_icmp_ge 84 dX12_play_53 (by decide) rfl rfl (fun c35 => ?_) (fun c35 => ?_)
      · refine wq_iload_n dX12_play_56 2 rfl rfl ?_
        refine wq_iconst dX12_play_57 ?_
        refine wq_icmp_eq 84 dX12_play_58 (by decide) rfl rfl (fun c34 => ?_) (fun c34 => ?_)
        · exact WQ.loc [0, 1] rfl (ex22 _ _ _)
        · refine wq_aload_n dX12_play_61 0 rfl rfl ?_
          refine wq_iload_n dX12_play_62 2 rfl rfl ?_
          refine wq_cVi M_PR_doOrder (R_PR_doOrder Z s26.2 _) ob_0 rfl rfl (by decide) (by decide) (Nat.le_of_ble_eq_true rfl) ln_RX12_132 dX12_play_63 (fun gr27 x29 J28 => ?_)
          refine wq_if_eq 84 dX12_play_66 (by decide) rfl (fun c33 => ?_) (fun c33 => ?_)
          · exact WQ.loc [0, 1] rfl (ex22 _ _ _)
          · refine wq_iinc (lv' := [(2, vi (s26.1 + 1)), (0, vr Z 0 0), (3, vi s26.2)]) dX12_play_69 1 rfl (by decide) rfl ?_
            refine wq_aload_n dX12_play_72 1 rfl rfl ?_
            refine g_0_6 ln_RX12_54 dX12_play_73 ?_
            refine wq_iload_n dX12_play_76 2 rfl rfl ?_
            refine wq_cVi M_Scr_orderBehind (R_Scr_orderBehind Z s26.2 _) ob_8 rfl rfl (by decide) (by decide) (Nat.le_of_ble_eq_true rfl) ln_RX12_135 dX12_play_77 (fun gr30 x32 J31 => ?_)
            refine wq_istore_n (lv' := [(3, vi x32), (2, vi (s26.1 + 1)), (0, vr Z 0 0)]) dX12_play_80 rfl (by decide) rfl ?_
            refine wq_goto 50 dX12_play_81 (by decide) ?_
            exact WQ.loc [2, 1, 0] rfl (bk21 _ _ _)
      · exact WQ.loc [0, 1] rfl (ex22 _ _ _)
    · refine wq_aload_n dX12_play_84 0 rfl rfl ?_
      refine g_0_4 ln_RX12_36 dX12_play_85 ?_
      refine wq_cVv M_Src_dropAll (R_Src_dropAll Z _) ob_6 rfl rfl (by decide) (by decide) (Nat.le_of_ble_eq_true rfl) ln_RX12_99 dX12_play_88 (fun gr39 _ J40 => ?_)
      refine wq_iload_n dX12_play_91 1 rfl rfl ?_
      exact wq_iret rfl rfl dX12_play_92

theorem M_PR_bestNumber : MwV yX12_bestNumber cX12_bestNumber 6 (some .int) 1 := ⟨li_5 76 (by decide +kernel) (by decide +kernel), li_5 75 (by decide +kernel) (by decide +kernel), lw_in 40 (by decide +kernel) (by decide +kernel), li_1 1 (by decide +kernel) (by decide +kernel), by decide +kernel⟩
theorem ln_RX12_276 : Cond.methodLink RX12 276 yX12_bestNumber ∈ lw_good := li_5 73 (by decide +kernel) (by decide +kernel)
noncomputable def f_PR_bestTie  (I : Mem) : Option ((Int) × Mem) :=
bnd (f_PR_bestNumber 5 I) fun x3 J2 =>
some (x3, J2)
set_option maxRecDepth 20000 in
theorem R_PR_bestTie (Z : ZT)  (I : Mem) (r : Int) (J : Mem) (hf : f_PR_bestTie I = some (r, J)) : Runs Z yX12_bestTie cX12_bestTie 1 (some .int) 7 [vr Z 0 0] I (some (vi r), J) := by
  refine Runs.of (rv := fun x => some (vi x)) (by decide +kernel) (Nat.le_of_ble_eq_true rfl) hf (fun gr => ?_)
  unfold f_PR_bestTie
  refine WQ.loc [0] (lv' := [(0, vr Z 0 0)]) rfl ?_
  refine wq_aload_n dX12_bestTie_0 0 rfl rfl ?_
  refine wq_iconst dX12_bestTie_1 ?_
  refine wq_cVi M_PR_bestNumber (R_PR_bestNumber Z 5 _) ob_0 rfl rfl (by decide) (by decide) (Nat.le_of_ble_eq_true rfl) ln_RX12_276 dX12_bestTie_2 (fun gr1 x3 J2 => ?_)
  exact wq_iret rfl rfl dX12_bestTie_5

noncomputable def f_PR_bestLeast  (I : Mem) : Option ((Int) × Mem) :=
bnd (f_PR_bestNumber 4 I) fun x3 J2 =>
some (x3, J2)
set_option maxRecDepth 20000 in
theorem R_PR_bestLeast (Z : ZT)  (I : Mem) (r : Int) (J : Mem) (hf : f_PR_bestLeast I = some (r, J)) : Runs Z yX12_bestLeast cX12_bestLeast 1 (some .int) 7 [vr Z 0 0] I (some (vi r), J) := by
  refine Runs.of (rv := fun x => some (vi x)) (by decide +kernel) (Nat.le_of_ble_eq_true rfl) hf (fun gr => ?_)
  unfold f_PR_bestLeast
  refine WQ.loc [0] (lv' := [(0, vr Z 0 0)]) rfl ?_
  refine wq_aload_n dX12_bestLeast_0 0 rfl rfl ?_
  refine wq_iconst dX12_bestLeast_1 ?_
  refine wq_cVi M_PR_bestNumber (R_PR_bestNumber Z 4 _) ob_0 rfl rfl (by decide) (by decide) (Nat.le_of_ble_eq_true rfl) ln_RX12_276 dX12_bestLeast_2 (fun gr1 x3 J2 => ?_)
  exact wq_iret rfl rfl dX12_bestLeast_5

theorem M_Set_readRules : MwV yX7_readRules cX7_readRules 2 (some .boolean) 0 := ⟨li_2 175 (by decide +kernel) (by decide +kernel), li_2 174 (by decide +kernel) (by decide +kernel), lw_in 2 (by decide +kernel) (by decide +kernel), li_1 8 (by decide +kernel) (by decide +kernel), by decide +kernel⟩
theorem M_Set_readStart : MwV yX7_readStart cX7_readStart 1 (some .boolean) 0 := ⟨li_3 69 (by decide +kernel) (by decide +kernel), li_3 68 (by decide +kernel) (by decide +kernel), lw_in 7 (by decide +kernel) (by decide +kernel), li_1 8 (by decide +kernel) (by decide +kernel), by decide +kernel⟩
theorem M_Set_readStatements : MwV yX7_readStatements cX7_readStatements 2 (some .boolean) 0 := ⟨li_3 79 (by decide +kernel) (by decide +kernel), li_3 78 (by decide +kernel) (by decide +kernel), lw_in 8 (by decide +kernel) (by decide +kernel), li_1 8 (by decide +kernel) (by decide +kernel), by decide +kernel⟩
theorem ln_RX7_50 : Cond.methodLink RX7 50 yX7_readStatements ∈ lw_good := li_3 76 (by decide +kernel) (by decide +kernel)
theorem ln_RX7_47 : Cond.methodLink RX7 47 yX7_readStart ∈ lw_good := li_3 66 (by decide +kernel) (by decide +kernel)
theorem ln_RX7_43 : Cond.methodLink RX7 43 yX7_readRules ∈ lw_good := li_2 172 (by decide +kernel) (by decide +kernel)
theorem ln_RX7_38 : Cond.methodLink RX7 38 yX8_rewind ∈ lw_good := li_2 160 (by decide +kernel) (by decide +kernel)
theorem ln_RX7_19 : Cond.methodLink RX7 19 yX1_clear ∈ lw_good := li_2 159 (by decide +kernel) (by decide +kernel)
noncomputable def f_Set_read  (I : Mem) : Option ((Int) × Mem) :=
bnd (f_G_clear 1 I) fun _ J2 =>
ltI (sI J2 7 0 2 0) fun J4 =>
ltI (sI J4 7 0 4 0) fun J5 =>
ltI (sI J5 7 0 5 0) fun J6 =>
ltI (sI J6 7 0 6 0) fun J7 =>
bnd (f_Src_rewind J7) fun _ J9 =>
bnd (f_Set_readRules J9) fun x13 J12 =>
if (w32 x13) = 0 then
some (0, J12)
else
bnd (f_Set_readStart J12) fun x16 J15 =>
if (w32 x16) = 0 then
some (0, J15)
else
bnd (f_Set_readStatements J15) fun x19 J18 =>
if (w32 x19) = 0 then
some (0, J18)
else
some (1, J18)
set_option maxRecDepth 20000 in
theorem R_Set_read (Z : ZT)  (I : Mem) (r : Int) (J : Mem) (hf : f_Set_read I = some (r, J)) : Runs Z yX7_read cX7_read 1 (some .boolean) 9 [vr Z 7 0] I (some (vi r), J) := by
  refine Runs.of (rv := fun x => some (vi x)) (by decide +kernel) (Nat.le_of_ble_eq_true rfl) hf (fun gr => ?_)
  unfold f_Set_read
  refine WQ.loc [0] (lv' := [(0, vr Z 7 0)]) rfl ?_
  refine wq_aload_n dX7_read_0 0 rfl rfl ?_
  refine g_7_1 ln_RX7_15 dX7_read_1 ?_
  refine wq_cVv M_G_clear (R_G_clear Z 1 _) (ob_1 (by decide)) rfl rfl (by decide) (by decide) (Nat.le_of_ble_eq_true rfl) ln_RX7_19 dX7_read_4 (fun gr1 _ J2 => ?_)
  refine wq_aload_n dX7_read_7 0 rfl rfl ?_
  refine wq_iconst dX7_read_8 ?_
  refine p_7_2 ln_RX7_24 dX7_read_9 (fun J4 => ?_)
  refine wq_aload_n dX7_read_12 0 rfl rfl ?_
  refine wq_iconst dX7_read_13 ?_
  refine p_7_4 (by decide) ln_RX7_28 dX7_read_14 (fun J5 => ?_)
  refine wq_aload_n dX7_read_17 0 rfl rfl ?_
  refine wq_iconst dX7_read_18 ?_
  refine p_7_5 (by decide) ln_RX7_32 dX7_read_19 (fun J6 => ?_)
  refine wq_aload_n dX7_read_22 0 rfl rfl ?_
  refine wq_iconst dX7_read_23 ?_
  refine p_7_6 (by decide) ln_RX7_35 dX7_read_24 (fun J7 => ?_)
  refine wq_aload_n dX7_read_27 0 rfl rfl ?_
  refine g_7_0 ln_RX7_9 dX7_read_28 ?_
  refine wq_cVv M_Src_rewind (R_Src_rewind Z _) ob_6 rfl rfl (by decide) (by decide) (Nat.le_of_ble_eq_true rfl) ln_RX7_38 dX7_read_31 (fun gr8 _ J9 => ?_)
  refine wq_aload_n dX7_read_34 0 rfl rfl ?_
  refine wq_cVi M_Set_readRules (R_Set_readRules Z _) ob_7 rfl rfl (by decide) (by decide) (Nat.le_of_ble_eq_true rfl) ln_RX7_43 dX7_read_35 (fun gr11 x13 J12 => ?_)
  refine wq_if_eq 59 dX7_read_38 (by decide) rfl (fun c22 => ?_) (fun c22 => ?_)
  · refine wq_iconst dX7_read_59 ?_
    exact wq_zret rfl (by decide) rfl dX7_read_60
  · refine wq_aload_n dX7_read_41 0 rfl rfl ?_
    refine wq_cVi M_Set_readStart (R_Set_readStart Z _) ob_7 rfl rfl (by decide) (by decide) (Nat.le_of_ble_eq_true rfl) ln_RX7_47 dX7_read_42 (fun gr14 x16 J15 => ?_)
    refine wq_if_eq 59 dX7_read_45 (by decide) rfl (fun c21 => ?_) (fun c21 => ?_)
    · refine wq_iconst dX7_read_59 ?_
      exact wq_zret rfl (by decide) rfl dX7_read_60
    · refine wq_aload_n dX7_read_48 0 rfl rfl ?_
      refine wq_cVi M_Set_readStatements (R_Set_readStatements Z _) ob_7 rfl rfl (by decide) (by decide) (Nat.le_of_ble_eq_true rfl) ln_RX7_50 dX7_read_49 (fun gr17 x19 J18 => ?_)
      refine wq_if_eq 59 dX7_read_52 (by decide) rfl (fun c20 => ?_) (fun c20 => ?_)
      · refine wq_iconst dX7_read_59 ?_
        exact wq_zret rfl (by decide) rfl dX7_read_60
      · refine wq_iconst dX7_read_55 ?_
        refine wq_goto 60 dX7_read_56 (by decide) ?_
        exact wq_zret rfl (by decide) rfl dX7_read_60

theorem ln_RX12_45 : Cond.fieldLink RX12 45 RX12 "setup" "LPairRules$Setup;" ∈ lw_good := li_2 105 (by decide +kernel) (by decide +kernel)
theorem M_Set_read : MwV yX7_read cX7_read 1 (some .boolean) 0 := ⟨li_2 158 (by decide +kernel) (by decide +kernel), li_2 156 (by decide +kernel) (by decide +kernel), li_2 157 (by decide +kernel) (by decide +kernel), li_1 8 (by decide +kernel) (by decide +kernel), by decide +kernel⟩
theorem M_G_beginWith : MwV yX1_beginWith cX1_beginWith 2 (none) 1 := ⟨li_3 144 (by decide +kernel) (by decide +kernel), li_3 142 (by decide +kernel) (by decide +kernel), li_3 143 (by decide +kernel) (by decide +kernel), li_1 2 (by decide +kernel) (by decide +kernel), by decide +kernel⟩
theorem M_His_forgetSaved : MwV yX2_forgetSaved cX2_forgetSaved 2 (none) 0 := ⟨li_3 175 (by decide +kernel) (by decide +kernel), li_3 173 (by decide +kernel) (by decide +kernel), li_3 174 (by decide +kernel) (by decide +kernel), li_1 12 (by decide +kernel) (by decide +kernel), by decide +kernel⟩
theorem ln_RX12_119 : Cond.methodLink RX12 119 yX2_forgetSaved ∈ lw_good := li_3 172 (by decide +kernel) (by decide +kernel)
theorem ln_RX12_109 : Cond.methodLink RX12 109 yX1_beginWith ∈ lw_good := li_3 141 (by decide +kernel) (by decide +kernel)
theorem ln_RX12_95 : Cond.methodLink RX12 95 yX7_read ∈ lw_good := li_2 155 (by decide +kernel) (by decide +kernel)
noncomputable def f_PR_load  (I : Mem) : Option ((Int) × Mem) :=
bnd (f_Set_read I) fun x3 J2 =>
bnd (f_Src_dropAll J2) fun _ J5 =>
if (w32 x3) = 0 then
bnd (f_PR_failure J5) fun x28 J27 =>
some (x28, J27)
else
ltI (sI J5 0 0 9 (-1)) fun J7 =>
bnd (f_Sv_unfold 1 J7) fun _ J9 =>
bnd (f_G_beginWith 1 J9) fun _ J12 =>
bnd (f_G_takeFrom 0 1 J12) fun _ J15 =>
bnd (f_His_forgetPast J15) fun _ J18 =>
bnd (f_His_forgetSaved J18) fun _ J21 =>
bnd (f_G_textLength 0 J21) fun x25 J24 =>
some (x25, J24)
set_option maxRecDepth 20000 in
theorem R_PR_load (Z : ZT)  (I : Mem) (r : Int) (J : Mem) (hf : f_PR_load I = some (r, J)) : Runs Z yX12_load cX12_load 2 (some .int) 10 [vr Z 0 0] I (some (vi r), J) := by
  refine Runs.of (rv := fun x => some (vi x)) (by decide +kernel) (Nat.le_of_ble_eq_true rfl) hf (fun gr => ?_)
  unfold f_PR_load
  refine WQ.loc [0] (lv' := [(0, vr Z 0 0)]) rfl ?_
  refine wq_aload_n dX12_load_0 0 rfl rfl ?_
  refine g_0_5 ln_RX12_45 dX12_load_1 ?_
  refine wq_cVi M_Set_read (R_Set_read Z _) ob_7 rfl rfl (by decide) (by decide) (Nat.le_of_ble_eq_true rfl) ln_RX12_95 dX12_load_4 (fun gr1 x3 J2 => ?_)
  refine wq_istore_n (lv' := [(1, vi x3), (0, vr Z 0 0)]) dX12_load_7 rfl (by decide) rfl ?_
  refine wq_aload_n dX12_load_8 1 rfl rfl ?_
  refine g_0_4 ln_RX12_36 dX12_load_9 ?_
  refine wq_cVv M_Src_dropAll (R_Src_dropAll Z _) ob_6 rfl rfl (by decide) (by decide) (Nat.le_of_ble_eq_true rfl) ln_RX12_99 dX12_load_12 (fun gr4 _ J5 => ?_)
  refine wq_iload_n dX12_load_15 0 rfl rfl ?_
  refine wq_if_ne 24 dX12_load_16 (by decide) rfl (fun c29 => ?_) (fun c29 => ?_)
  · refine wq_aload_n dX12_load_19 1 rfl rfl ?_
    refine wq_cVi M_PR_failure (R_PR_failure Z _) ob_0 rfl rfl (by decide) (by decide) (Nat.le_of_ble_eq_true rfl) ln_RX12_102 dX12_load_20 (fun gr26 x28 J27 => ?_)
    exact wq_iret rfl rfl dX12_load_23
  · refine wq_aload_n dX12_load_24 1 rfl rfl ?_
    refine wq_iconst dX12_load_25 ?_
    refine p_0_9 ln_RX12_72 dX12_load_26 (fun J7 => ?_)
    refine wq_aload_n dX12_load_29 1 rfl rfl ?_
    refine g_0_3 ln_RX12_29 dX12_load_30 ?_
    refine wq_aload_n dX12_load_33 1 rfl rfl ?_
    refine g_0_1 ln_RX12_16 dX12_load_34 ?_
    refine wq_cVv M_Sv_unfold (R_Sv_unfold Z 1 _) ob_5 rfl rfl (by decide) (by decide) (Nat.le_of_ble_eq_true rfl) ln_RX12_105 dX12_load_37 (fun gr8 _ J9 => ?_)
    refine wq_aload_n dX12_load_40 1 rfl rfl ?_
    refine g_0_1 ln_RX12_16 dX12_load_41 ?_
    refine wq_aload_n dX12_load_44 1 rfl rfl ?_
    refine g_0_3 ln_RX12_29 dX12_load_45 ?_
    refine wq_cVv M_G_beginWith (R_G_beginWith Z 1 _) (ob_1 (by decide)) rfl rfl (by decide) (by decide) (Nat.le_of_ble_eq_true rfl) ln_RX12_109 dX12_load_48 (fun gr11 _ J12 => ?_)
    refine wq_aload_n dX12_load_51 1 rfl rfl ?_
    refine g_0_0 ln_RX12_12 dX12_load_52 ?_
    refine wq_aload_n dX12_load_55 1 rfl rfl ?_
    refine g_0_1 ln_RX12_16 dX12_load_56 ?_
    refine wq_cVv M_G_takeFrom (R_G_takeFrom Z 0 1 _) (ob_1 (by decide)) rfl rfl (by decide) (by decide) (Nat.le_of_ble_eq_true rfl) ln_RX12_113 dX12_load_59 (fun gr14 _ J15 => ?_)
    refine wq_aload_n dX12_load_62 1 rfl rfl ?_
    refine g_0_7 ln_RX12_61 dX12_load_63 ?_
    refine wq_cVv M_His_forgetPast (R_His_forgetPast Z _) ob_9 rfl rfl (by decide) (by decide) (Nat.le_of_ble_eq_true rfl) ln_RX12_116 dX12_load_66 (fun gr17 _ J18 => ?_)
    refine wq_aload_n dX12_load_69 1 rfl rfl ?_
    refine g_0_7 ln_RX12_61 dX12_load_70 ?_
    refine wq_cVv M_His_forgetSaved (R_His_forgetSaved Z _) ob_9 rfl rfl (by decide) (by decide) (Nat.le_of_ble_eq_true rfl) ln_RX12_119 dX12_load_73 (fun gr20 _ J21 => ?_)
    refine wq_aload_n dX12_load_76 1 rfl rfl ?_
    refine g_0_0 ln_RX12_12 dX12_load_77 ?_
    refine wq_cVi M_G_textLength (R_G_textLength Z 0 _) (ob_1 (by decide)) rfl rfl (by decide) (by decide) (Nat.le_of_ble_eq_true rfl) ln_RX12_122 dX12_load_80 (fun gr23 x25 J24 => ?_)
    exact wq_iret rfl rfl dX12_load_83
