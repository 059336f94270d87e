theorem M_M_begins : MwV yX13_begins cX13_begins 2 (none) 0 := ⟨li_7 18 (by decide +kernel) (by decide +kernel), li_7 17 (by decide +kernel) (by decide +kernel), lw_in 47 (by decide +kernel) (by decide +kernel), li_1 16 (by decide +kernel) (by decide +kernel), by decide +kernel⟩
theorem M_M_ruleLine : MwV yX13_ruleLine cX13_ruleLine 1 (none) 0 := ⟨li_8 7 (by decide +kernel) (by decide +kernel), li_8 6 (by decide +kernel) (by decide +kernel), lw_in 65 (by decide +kernel) (by decide +kernel), li_1 16 (by decide +kernel) (by decide +kernel), by decide +kernel⟩
theorem ln_RX13_318 : Cond.methodLink RX13 318 yX13_ruleLine ∈ lw_good := li_8 4 (by decide +kernel) (by decide +kernel)
theorem M_M_statement : MwV yX13_statement cX13_statement 2 (none) 0 := ⟨li_8 45 (by decide +kernel) (by decide +kernel), li_8 44 (by decide +kernel) (by decide +kernel), lw_in 74 (by decide +kernel) (by decide +kernel), li_1 16 (by decide +kernel) (by decide +kernel), by decide +kernel⟩
theorem ln_RX13_323 : Cond.methodLink RX13 323 yX13_statement ∈ lw_good := li_8 42 (by decide +kernel) (by decide +kernel)
theorem ln_RX13_326 : Cond.fieldLink RX13 326 RX13 "ends" "Z" ∈ lw_good := li_7 85 (by decide +kernel) (by decide +kernel)
theorem M_M_tellsText : MwV yX13_tellsText cX13_tellsText 2 (none) 0 := ⟨li_7 34 (by decide +kernel) (by decide +kernel), li_7 33 (by decide +kernel) (by decide +kernel), lw_in 51 (by decide +kernel) (by decide +kernel), li_1 16 (by decide +kernel) (by decide +kernel), by decide +kernel⟩
theorem ln_RX13_97 : Cond.methodLink RX13 97 yX13_tellsText ∈ lw_good := li_7 31 (by decide +kernel) (by decide +kernel)
theorem ln_RX13_90 : Cond.methodLink RX13 90 yX13_begins ∈ lw_good := li_7 15 (by decide +kernel) (by decide +kernel)
noncomputable def f_M_setup_w28  (s : Unit) (I : Mem) : Option (((Unit) ⊕ (Unit)) × Mem) :=
bnd (f_M_isKey 0 I) fun x13 J12 =>
if (w32 x13) = 0 then
some (.inr (), J12)
else
bnd (f_M_ruleLine J12) fun _ J15 =>
some (.inl (), J15)

noncomputable def f_M_setup_w89  (s : Unit) (I : Mem) : Option (((Unit) ⊕ (Unit)) × Mem) :=
bnd (f_M_isSign 59 I) fun x49 J48 =>
if (w32 x49) = 0 then
some (.inr (), J48)
else
bnd (f_M_advance J48) fun _ J51 =>
bnd (f_M_statement J51) fun _ J54 =>
some (.inl (), J54)

noncomputable def f_M_setup  (I : Mem) : Option ((Unit) × Mem) :=
ltI (sI I 26 0 22 0) fun J1 =>
ltI (sI J1 26 0 25 0) fun J2 =>
ltI (sI J2 26 0 28 0) fun J3 =>
ltI (sI J3 26 0 30 0) fun J4 =>
bnd (f_M_begins J4) fun _ J6 =>
bnd (f_M_advance J6) fun _ J9 =>
bnd (whl (f_M_setup_w28) () J9) fun r32 J33 =>
if (w32 (J33 26 0 25)) = 0 then
bnd (f_M_isKey 1 J33) fun x37 J36 =>
bnd (f_M_faulty (if (w32 x37) = 0 then 1 else 0) 1 J36) fun x40 J39 =>
if (w32 x40) = 0 then
bnd (f_M_advance J39) fun _ J42 =>
bnd (f_M_items 0 (J42 26 0 30) J42) fun _ J45 =>
bnd (whl (f_M_setup_w89) () J45) fun r74 J75 =>
bnd (f_M_faulty (if (w32 (J75 26 0 23)) = 0 then 0 else 1) 1 J75) fun x79 J78 =>
if x79 = 0 ∨ x79 = 1 then
ltI (sI J78 26 0 31 x79) fun J80 =>
if (w32 (J80 26 0 25)) = 0 then
bnd (f_M_tellsText J80) fun _ J83 =>
some ((), J83)
else
some ((), J80)
else none
else
some ((), J39)
else
some ((), J33)
set_option maxRecDepth 20000 in
theorem R_M_setup (Z : ZT)  (I : Mem) (r : Unit) (J : Mem) (hf : f_M_setup I = some (r, J)) : Runs Z yX13_setup cX13_setup 1 (none) 8 [vr Z 26 0] I (none, J) := by
  refine Runs.of (rv := fun _ => none) (by decide +kernel) (Nat.le_of_ble_eq_true rfl) hf (fun gr => ?_)
  unfold f_M_setup
  refine WQ.loc [0] (lv' := [(0, vr Z 26 0)]) rfl ?_
  refine wq_aload_n dX13_setup_0 0 rfl rfl ?_
  refine wq_iconst dX13_setup_1 ?_
  refine p_26_22 ln_RX13_228 dX13_setup_2 (fun J1 => ?_)
  refine wq_aload_n dX13_setup_5 0 rfl rfl ?_
  refine wq_iconst dX13_setup_6 ?_
  refine p_26_25 ln_RX13_247 dX13_setup_7 (fun J2 => ?_)
  refine wq_aload_n dX13_setup_10 0 rfl rfl ?_
  refine wq_iconst dX13_setup_11 ?_
  refine p_26_28 ln_RX13_285 dX13_setup_12 (fun J3 => ?_)
  refine wq_aload_n dX13_setup_15 0 rfl rfl ?_
  refine wq_iconst dX13_setup_16 ?_
  refine p_26_30 ln_RX13_310 dX13_setup_17 (fun J4 => ?_)
  refine wq_aload_n dX13_setup_20 0 rfl rfl ?_
  refine wq_cVv M_M_begins (R_M_begins Z _) ob_26 rfl rfl (by decide) (by decide) (Nat.le_of_ble_eq_true rfl) ln_RX13_90 dX13_setup_21 (fun gr5 _ J6 => ?_)
  refine wq_aload_n dX13_setup_24 0 rfl rfl ?_
  refine wq_cVv M_M_advance (R_M_advance Z _) ob_26 rfl rfl (by decide) (by decide) (Nat.le_of_ble_eq_true rfl) ln_RX13_270 dX13_setup_25 (fun gr8 _ J9 => ?_)
  refine wq_loopS (fun _ => [(0, vr Z 26 0)]) 45 (fun _ => [(0, vr Z 26 0)]) (fun κ18 bk19 ex20 gr23 s24 J22 => ?_) (fun gr34 r32 J33 => ?_) gr8 _ rfl
  · unfold f_M_setup_w28
    refine wq_aload_n dX13_setup_28 0 rfl rfl ?_
    refine wq_ldc_ws (q := (316, "rule", 0)) (by decide) rfl dX13_setup_29 ?_
    refine wq_cVi M_M_isKey (R_M_isKey Z 0 _) ob_26 rfl rfl (by decide) (by decide) (Nat.le_of_ble_eq_true rfl) ln_RX13_290 dX13_setup_32 (fun gr25 x27 J26 => ?_)
    refine wq_if_eq 45 dX13_setup_35 (by decide) rfl (fun c31 => ?_) (fun c31 => ?_)
    · exact WQ.loc [0] rfl (ex20 _ _ _)
    · refine wq_aload_n dX13_setup_38 0 rfl rfl ?_
      refine wq_cVv M_M_ruleLine (R_M_ruleLine Z _) ob_26 rfl rfl (by decide) (by decide) (Nat.le_of_ble_eq_true rfl) ln_RX13_318 dX13_setup_39 (fun gr28 _ J29 => ?_)
      refine wq_goto 28 dX13_setup_42 (by decide) ?_
      exact WQ.loc [0] rfl (bk19 _ _ _)
  · refine wq_aload_n dX13_setup_45 0 rfl rfl ?_
    refine g_26_25 ln_RX13_247 dX13_setup_46 ?_
    refine wq_if_ne 75 dX13_setup_49 (by decide) rfl (fun c91 => ?_) (fun c91 => ?_)
    · refine wq_aload_n dX13_setup_52 0 rfl rfl ?_
      refine wq_aload_n dX13_setup_53 0 rfl rfl ?_
      refine wq_ldc_ws (q := (321, "start", 1)) (by decide) rfl dX13_setup_54 ?_
      refine wq_cVi M_M_isKey (R_M_isKey Z 1 _) ob_26 rfl rfl (by decide) (by decide) (Nat.le_of_ble_eq_true rfl) ln_RX13_290 dX13_setup_57 (fun gr35 x37 J36 => ?_)
      refine WQ.via 68 [vi (if (w32 x37) = 0 then 1 else 0), vr Z 26 0] (by
          refine wq_iconst dX13_setup_68 ?_
          refine wq_cVi M_M_faulty (R_M_faulty Z (if (w32 x37) = 0 then 1 else 0) 1 _) ob_26 rfl rfl (by decide) (by decide) (Nat.le_of_ble_eq_true rfl) ln_RX13_266 dX13_setup_69 (fun gr38 x40 J39 => ?_)
          refine wq_if_eq 76 dX13_setup_72 (by decide) rfl (fun c88 => ?_) (fun c88 => ?_)
          · refine wq_aload_n dX13_setup_76 0 rfl rfl ?_
            refine wq_cVv M_M_advance (R_M_advance Z _) ob_26 rfl rfl (by decide) (by decide) (Nat.le_of_ble_eq_true rfl) ln_RX13_270 dX13_setup_77 (fun gr41 _ J42 => ?_)
            refine wq_aload_n dX13_setup_80 0 rfl rfl ?_
            refine wq_iconst dX13_setup_81 ?_
            refine wq_aload_n dX13_setup_82 0 rfl rfl ?_
            refine g_26_30 ln_RX13_310 dX13_setup_83 ?_
            refine wq_cVv M_M_items (R_M_items Z 0 (J42 26 0 30) _) ob_26 rfl rfl (by decide) (by decide) (Nat.le_of_ble_eq_true rfl) ln_RX13_313 dX13_setup_86 (fun gr44 _ J45 => ?_)
            refine wq_loopS (fun _ => [(0, vr Z 26 0)]) 109 (fun _ => [(0, vr Z 26 0)]) (fun κ57 bk58 ex59 gr62 s63 J61 => ?_) (fun gr76 r74 J75 => ?_) gr44 _ rfl
            · unfold f_M_setup_w89
              refine wq_aload_n dX13_setup_89 0 rfl rfl ?_
              refine wq_bipush dX13_setup_90 (by decide) ?_
              refine wq_cVi M_M_isSign (R_M_isSign Z 59 _) ob_26 rfl rfl (by decide) (by decide) (Nat.le_of_ble_eq_true rfl) ln_RX13_263 dX13_setup_92 (fun gr64 x66 J65 => ?_)
              refine wq_if_eq 109 dX13_setup_95 (by decide) rfl (fun c73 => ?_) (fun c73 => ?_)
              · exact WQ.loc [0] rfl (ex59 _ _ _)
              · refine wq_aload_n dX13_setup_98 0 rfl rfl ?_
                refine wq_cVv M_M_advance (R_M_advance Z _) ob_26 rfl rfl (by decide) (by decide) (Nat.le_of_ble_eq_true rfl) ln_RX13_270 dX13_setup_99 (fun gr67 _ J68 => ?_)
                refine wq_aload_n dX13_setup_102 0 rfl rfl ?_
                refine wq_cVv M_M_statement (R_M_statement Z _) ob_26 rfl rfl (by decide) (by decide) (Nat.le_of_ble_eq_true rfl) ln_RX13_323 dX13_setup_103 (fun gr70 _ J71 => ?_)
                refine wq_goto 89 dX13_setup_106 (by decide) ?_
                exact WQ.loc [0] rfl (bk58 _ _ _)
            · refine wq_aload_n dX13_setup_109 0 rfl rfl ?_
              refine wq_aload_n dX13_setup_110 0 rfl rfl ?_
              refine wq_aload_n dX13_setup_111 0 rfl rfl ?_
              refine g_26_23 ln_RX13_237 dX13_setup_112 ?_
              refine WQ.via 123 [vi (if (w32 (J75 26 0 23)) = 0 then 0 else 1), vr Z 26 0, vr Z 26 0] (by
                  refine wq_iconst dX13_setup_123 ?_
                  refine wq_cVi M_M_faulty (R_M_faulty Z (if (w32 (J75 26 0 23)) = 0 then 0 else 1) 1 _) ob_26 rfl rfl (by decide) (by decide) (Nat.le_of_ble_eq_true rfl) ln_RX13_266 dX13_setup_124 (fun gr77 x79 J78 => ?_)
                  refine wq_grd (fun g81 => ?_)
                  refine p_26_31 g81 ln_RX13_326 dX13_setup_127 (fun J80 => ?_)
                  refine wq_aload_n dX13_setup_130 0 rfl rfl ?_
                  refine g_26_25 ln_RX13_247 dX13_setup_131 ?_
                  refine wq_if_ne 141 dX13_setup_134 (by decide) rfl (fun c85 => ?_) (fun c85 => ?_)
                  · refine wq_aload_n dX13_setup_137 0 rfl rfl ?_
                    refine wq_cVv M_M_tellsText (R_M_tellsText Z _) ob_26 rfl rfl (by decide) (by decide) (Nat.le_of_ble_eq_true rfl) ln_RX13_97 dX13_setup_138 (fun gr82 _ J83 => ?_)
                    exact wq_vret rfl rfl dX13_setup_141
                  · exact wq_vret rfl rfl dX13_setup_141) (fun hj86 => ?_)
              refine WQ.both ((w32 (J75 26 0 23)) = 0) ?_
              refine wq_if_eq 122 dX13_setup_115 (by decide) rfl (fun c87 => ?_) (fun c87 => ?_)
              · refine wq_iconst dX13_setup_122 ?_
                exact WQ.top (if_pos c87) hj86
              · refine wq_iconst dX13_setup_118 ?_
                refine wq_goto 123 dX13_setup_119 (by decide) ?_
                exact WQ.top (if_neg c87) hj86
          · exact wq_vret rfl rfl dX13_setup_75) (fun hj89 => ?_)
      refine WQ.both ((w32 x37) = 0) ?_
      refine wq_if_ne 67 dX13_setup_60 (by decide) rfl (fun c90 => ?_) (fun c90 => ?_)
      · refine wq_iconst dX13_setup_63 ?_
        refine wq_goto 68 dX13_setup_64 (by decide) ?_
        exact WQ.top (if_pos c90) hj89
      · refine wq_iconst dX13_setup_67 ?_
        exact WQ.top (if_neg c90) hj89
    · exact wq_vret rfl rfl dX13_setup_75

theorem ln_RX13_61 : Cond.fieldLink RX13 61 RX13 "lastError" "I" ∈ lw_good := li_7 81 (by decide +kernel) (by decide +kernel)
noncomputable def f_M_ended_j21   (e0 : Int) (I : Mem) : Option ((Int) × Mem) :=
ltI (sI I 26 0 27 e0) fun J4 =>
if (w32 (J4 26 0 25)) = 0 then
some (0, J4)
else
some (((-10) - (J4 26 0 25)), J4)

noncomputable def f_M_ended  (I : Mem) : Option ((Int) × Mem) :=
ltI (sI I 26 0 20 0) fun J1 =>
if (w32 (J1 26 0 25)) = 0 then
f_M_ended_j21 (-1) J1
else
f_M_ended_j21 (J1 26 0 26) J1
set_option maxRecDepth 20000 in
theorem R_M_ended (Z : ZT)  (I : Mem) (r : Int) (J : Mem) (hf : f_M_ended I = some (r, J)) : Runs Z yX13_ended cX13_ended 1 (some .int) 1 [vr Z 26 0] I (some (vi r), J) := by
  refine Runs.of (rv := fun x => some (vi x)) (by decide +kernel) (Nat.le_of_ble_eq_true rfl) hf (fun gr => ?_)
  unfold f_M_ended
  refine WQ.loc [0] (lv' := [(0, vr Z 26 0)]) rfl ?_
  refine wq_aload_n dX13_ended_0 0 rfl rfl ?_
  refine wq_iconst dX13_ended_1 ?_
  refine p_26_20 ln_RX13_212 dX13_ended_2 (fun J1 => ?_)
  refine wq_aload_n dX13_ended_5 0 rfl rfl ?_
  refine wq_aload_n dX13_ended_6 0 rfl rfl ?_
  refine g_26_25 ln_RX13_247 dX13_ended_7 ?_
  have hj2 : ∀ (gr7 : Nat → Nat)  (hj2e0 : Int) (J6 : Mem), WQ Z (yX13_ended, cX13_ended, 1, some .int, 1) I gr7 21 [(0, vr Z 26 0)] [vi hj2e0, vr Z 26 0] J6 (f_M_ended_j21 hj2e0 J6) (fun b K => some (.inl ((fun x => some (vi x)) b), K)) := by
    intro gr7 hj2e0 J6
    unfold f_M_ended_j21
    refine p_26_27 ln_RX13_61 dX13_ended_21 (fun J8 => ?_)
    refine wq_aload_n dX13_ended_24 0 rfl rfl ?_
    refine g_26_25 ln_RX13_247 dX13_ended_25 ?_
    refine wq_if_ne 35 dX13_ended_28 (by decide) rfl (fun c9 => ?_) (fun c9 => ?_)
    · refine wq_iconst dX13_ended_31 ?_
      refine wq_goto 42 dX13_ended_32 (by decide) ?_
      exact wq_iret rfl rfl dX13_ended_42
    · refine wq_bipush dX13_ended_35 (by decide) ?_
      refine wq_aload_n dX13_ended_37 0 rfl rfl ?_
      refine g_26_25 ln_RX13_247 dX13_ended_38 ?_
      refine wq_isub dX13_ended_41 ?_
      exact wq_iret rfl rfl dX13_ended_42
  refine wq_if_ne 17 dX13_ended_10 (by decide) rfl (fun c3 => ?_) (fun c3 => ?_)
  · refine wq_iconst dX13_ended_13 ?_
    refine wq_goto 21 dX13_ended_14 (by decide) ?_
    exact WQ.loc [0] rfl (hj2 _  _ _)
  · refine wq_aload_n dX13_ended_17 0 rfl rfl ?_
    refine g_26_26 ln_RX13_250 dX13_ended_18 ?_
    exact WQ.loc [0] rfl (hj2 _  _ _)

theorem M_M_aside : MwV yX13_aside cX13_aside 1 (none) 0 := ⟨li_7 205 (by decide +kernel) (by decide +kernel), li_7 204 (by decide +kernel) (by decide +kernel), lw_in 57 (by decide +kernel) (by decide +kernel), li_1 16 (by decide +kernel) (by decide +kernel), by decide +kernel⟩
theorem M_M_setup : MwV yX13_setup cX13_setup 1 (none) 0 := ⟨li_7 212 (by decide +kernel) (by decide +kernel), li_7 211 (by decide +kernel) (by decide +kernel), lw_in 58 (by decide +kernel) (by decide +kernel), li_1 16 (by decide +kernel) (by decide +kernel), by decide +kernel⟩
theorem M_M_ended : MwV yX13_ended cX13_ended 1 (some .int) 0 := ⟨li_8 66 (by decide +kernel) (by decide +kernel), li_8 65 (by decide +kernel) (by decide +kernel), lw_in 77 (by decide +kernel) (by decide +kernel), li_1 16 (by decide +kernel) (by decide +kernel), by decide +kernel⟩
theorem ln_RX13_342 : Cond.fieldLink RX13 342 RX13 "undos" "I" ∈ lw_good := li_7 60 (by decide +kernel) (by decide +kernel)
theorem ln_RX13_27 : Cond.fieldLink RX13 27 RX13 "isKept" "[Z" ∈ lw_good := li_7 59 (by decide +kernel) (by decide +kernel)
theorem M_M_back : MwV yX13_back cX13_back 2 (some .int) 1 := ⟨li_8 70 (by decide +kernel) (by decide +kernel), li_8 69 (by decide +kernel) (by decide +kernel), lw_in 78 (by decide +kernel) (by decide +kernel), li_1 16 (by decide +kernel) (by decide +kernel), by decide +kernel⟩
theorem ln_RX13_339 : Cond.methodLink RX13 339 yX13_back ∈ lw_good := li_8 67 (by decide +kernel) (by decide +kernel)
theorem ln_RX13_336 : Cond.methodLink RX13 336 yX13_ended ∈ lw_good := li_8 63 (by decide +kernel) (by decide +kernel)
theorem ln_RX13_333 : Cond.methodLink RX13 333 yX13_setup ∈ lw_good := li_7 209 (by decide +kernel) (by decide +kernel)
theorem ln_RX13_330 : Cond.methodLink RX13 330 yX13_aside ∈ lw_good := li_7 202 (by decide +kernel) (by decide +kernel)
noncomputable def f_M_load  (I : Mem) : Option ((Int) × Mem) :=
ltI (sI I 26 0 7 0) fun J1 =>
bnd (f_M_aside J1) fun _ J3 =>
bnd (f_M_setup J3) fun _ J6 =>
bnd (f_M_ended J6) fun x10 J9 =>
if (w32 x10) < 0 then
bnd (f_M_back x10 J9) fun x19 J18 =>
some (x19, J18)
else
ltI (sI J9 26 0 6 0) fun J11 =>
ltI (sI J11 28 0 0 0) fun J13 =>
ltI (sI J13 28 0 1 0) fun J15 =>
some ((J15 27 0 3), J15)
set_option maxRecDepth 20000 in
theorem R_M_load (Z : ZT)  (I : Mem) (r : Int) (J : Mem) (hf : f_M_load I = some (r, J)) : Runs Z yX13_load cX13_load 2 (some .int) 9 [vr Z 26 0] I (some (vi r), J) := by
  refine Runs.of (rv := fun x => some (vi x)) (by decide +kernel) (Nat.le_of_ble_eq_true rfl) hf (fun gr => ?_)
  unfold f_M_load
  refine WQ.loc [0] (lv' := [(0, vr Z 26 0)]) rfl ?_
  refine wq_aload_n dX13_load_0 0 rfl rfl ?_
  refine wq_iconst dX13_load_1 ?_
  refine p_26_7 ln_RX13_100 dX13_load_2 (fun J1 => ?_)
  refine wq_aload_n dX13_load_5 0 rfl rfl ?_
  refine wq_cVv M_M_aside (R_M_aside Z _) ob_26 rfl rfl (by decide) (by decide) (Nat.le_of_ble_eq_true rfl) ln_RX13_330 dX13_load_6 (fun gr2 _ J3 => ?_)
  refine wq_aload_n dX13_load_9 0 rfl rfl ?_
  refine wq_cVv M_M_setup (R_M_setup Z _) ob_26 rfl rfl (by decide) (by decide) (Nat.le_of_ble_eq_true rfl) ln_RX13_333 dX13_load_10 (fun gr5 _ J6 => ?_)
  refine wq_aload_n dX13_load_13 0 rfl rfl ?_
  refine wq_cVi M_M_ended (R_M_ended Z _) ob_26 rfl rfl (by decide) (by decide) (Nat.le_of_ble_eq_true rfl) ln_RX13_336 dX13_load_14 (fun gr8 x10 J9 => ?_)
  refine wq_istore_n (lv' := [(1, vi x10), (0, vr Z 26 0)]) dX13_load_17 rfl (by decide) rfl ?_
  refine wq_iload_n dX13_load_18 0 rfl rfl ?_
  refine wq_if_ge 28 dX13_load_19 (by decide) rfl (fun c20 => ?_) (fun c20 => ?_)
  · refine wq_aload_n dX13_load_22 1 rfl rfl ?_
    refine wq_iload_n dX13_load_23 0 rfl rfl ?_
    refine wq_cVi M_M_back (R_M_back Z x10 _) ob_26 rfl rfl (by decide) (by decide) (Nat.le_of_ble_eq_true rfl) ln_RX13_339 dX13_load_24 (fun gr17 x19 J18 => ?_)
    exact wq_iret rfl rfl dX13_load_27
  · refine wq_aload_n dX13_load_28 1 rfl rfl ?_
    refine wq_iconst dX13_load_29 ?_
    refine p_26_6 ln_RX13_342 dX13_load_30 (fun J11 => ?_)
    refine wq_aload_n dX13_load_33 1 rfl rfl ?_
    refine g_26_5 ln_RX13_27 dX13_load_34 ?_
    refine wq_iconst dX13_load_37 ?_
    refine wq_iconst dX13_load_38 ?_
    refine wq_zast (k := 28) (i := 0) (fun _ => rfl) (by decide) rfl rfl (m := 2) (by decide) (Nat.le_refl _) rfl (by decide) (by decide) (by decide) dX13_load_39 (fun J13 => ?_)
    refine wq_aload_n dX13_load_40 1 rfl rfl ?_
    refine g_26_5 ln_RX13_27 dX13_load_41 ?_
    refine wq_iconst dX13_load_44 ?_
    refine wq_iconst dX13_load_45 ?_
    refine wq_zast (k := 28) (i := 0) (fun _ => rfl) (by decide) rfl rfl (m := 2) (by decide) (Nat.le_refl _) rfl (by decide) (by decide) (by decide) dX13_load_46 (fun J15 => ?_)
    refine wq_aload_n dX13_load_47 1 rfl rfl ?_
    refine g_26_0 ln_RX13_9 dX13_load_48 ?_
    refine wq_iconst dX13_load_51 ?_
    refine wq_iald (k := 27) (i := 0) rfl (by decide) rfl rfl (m := 16860) (by decide) (Nat.le_of_ble_eq_true rfl) dX13_load_52 ?_
    exact wq_iret rfl rfl dX13_load_53

noncomputable def f_M_errorPosition  (I : Mem) : Option ((Int) × Mem) :=
ltI (sI I 26 0 7 0) fun J1 =>
some ((J1 26 0 27), J1)
set_option maxRecDepth 20000 in
theorem R_M_errorPosition (Z : ZT)  (I : Mem) (r : Int) (J : Mem) (hf : f_M_errorPosition I = some (r, J)) : Runs Z yX13_errorPosition cX13_errorPosition 1 (some .int) 1 [vr Z 26 0] I (some (vi r), J) := by
  refine Runs.of (rv := fun x => some (vi x)) (by decide +kernel) (Nat.le_of_ble_eq_true rfl) hf (fun gr => ?_)
  unfold f_M_errorPosition
  refine WQ.loc [0] (lv' := [(0, vr Z 26 0)]) rfl ?_
  refine wq_aload_n dX13_errorPosition_0 0 rfl rfl ?_
  refine wq_iconst dX13_errorPosition_1 ?_
  refine p_26_7 ln_RX13_100 dX13_errorPosition_2 (fun J1 => ?_)
  refine wq_aload_n dX13_errorPosition_5 0 rfl rfl ?_
  refine g_26_27 ln_RX13_61 dX13_errorPosition_6 ?_
  exact wq_iret rfl rfl dX13_errorPosition_9

noncomputable def f_M_orderHere  (I : Mem) : Option ((Int) × Mem) :=
bnd (f_M_isKey 6 I) fun x3 J2 =>
if (w32 x3) = 0 then
bnd (f_M_isKey 7 J2) fun x6 J5 =>
if (w32 x6) = 0 then
bnd (f_M_isKey 8 J5) fun x9 J8 =>
if (w32 x9) = 0 then
bnd (f_M_isKey 9 J8) fun x12 J11 =>
if (w32 x12) = 0 then
bnd (f_M_isKey 10 J11) fun x15 J14 =>
if (w32 x15) = 0 then
bnd (f_M_isKey 11 J14) fun x18 J17 =>
if (w32 x18) = 0 then
bnd (f_M_isKey 3 J17) fun x21 J20 =>
if (w32 x21) = 0 then
bnd (f_M_isKey 4 J20) fun x24 J23 =>
if (w32 x24) = 0 then
bnd (f_M_isKey 5 J23) fun x27 J26 =>
if (w32 x27) = 0 then
bnd (f_M_isKey 12 J26) fun x30 J29 =>
if (w32 x30) = 0 then
some ((-1), J29)
else
some (16, J29)
else
some (2, J26)
else
some (1, J23)
else
some (0, J20)
else
some (15, J17)
else
some (14, J14)
else
some (13, J11)
else
some (12, J8)
else
some (11, J5)
else
some (10, J2)
set_option maxRecDepth 20000 in
theorem R_M_orderHere (Z : ZT)  (I : Mem) (r : Int) (J : Mem) (hf : f_M_orderHere I = some (r, J)) : Runs Z yX13_orderHere cX13_orderHere 1 (some .int) 6 [vr Z 26 0] I (some (vi r), J) := by
  refine Runs.of (rv := fun x => some (vi x)) (by decide +kernel) (Nat.le_of_ble_eq_true rfl) hf (fun gr => ?_)
  unfold f_M_orderHere
  refine WQ.loc [0] (lv' := [(0, vr Z 26 0)]) rfl ?_
  refine wq_aload_n dX13_orderHere_0 0 rfl rfl ?_
  refine wq_ldc_ws (q := (345, "step", 6)) (by decide) rfl dX13_orderHere_1 ?_
  refine wq_cVi M_M_isKey (R_M_isKey Z 6 _) ob_26 rfl rfl (by decide) (by decide) (Nat.le_of_ble_eq_true rfl) ln_RX13_290 dX13_orderHere_4 (fun gr1 x3 J2 => ?_)
  refine wq_if_eq 13 dX13_orderHere_7 (by decide) rfl (fun c40 => ?_) (fun c40 => ?_)
  · refine wq_aload_n dX13_orderHere_13 0 rfl rfl ?_
    refine wq_ldc_ws (q := (347, "inlined", 7)) (by decide) rfl dX13_orderHere_14 ?_
    refine wq_cVi M_M_isKey (R_M_isKey Z 7 _) ob_26 rfl rfl (by decide) (by decide) (Nat.le_of_ble_eq_true rfl) ln_RX13_290 dX13_orderHere_17 (fun gr4 x6 J5 => ?_)
    refine wq_if_eq 26 dX13_orderHere_20 (by decide) rfl (fun c39 => ?_) (fun c39 => ?_)
    · refine wq_aload_n dX13_orderHere_26 0 rfl rfl ?_
      refine wq_ldc_ws (q := (349, "make", 8)) (by decide) rfl dX13_orderHere_27 ?_
      refine wq_cVi M_M_isKey (R_M_isKey Z 8 _) ob_26 rfl rfl (by decide) (by decide) (Nat.le_of_ble_eq_true rfl) ln_RX13_290 dX13_orderHere_30 (fun gr7 x9 J8 => ?_)
      refine wq_if_eq 39 dX13_orderHere_33 (by decide) rfl (fun c38 => ?_) (fun c38 => ?_)
      · refine wq_aload_n dX13_orderHere_39 0 rfl rfl ?_
        refine wq_ldc_ws (q := (351, "expand", 9)) (by decide) rfl dX13_orderHere_40 ?_
        refine wq_cVi M_M_isKey (R_M_isKey Z 9 _) ob_26 rfl rfl (by decide) (by decide) (Nat.le_of_ble_eq_true rfl) ln_RX13_290 dX13_orderHere_43 (fun gr10 x12 J11 => ?_)
        refine wq_if_eq 52 dX13_orderHere_46 (by decide) rfl (fun c37 => ?_) (fun c37 => ?_)
        · refine wq_aload_n dX13_orderHere_52 0 rfl rfl ?_
          refine wq_ldc_ws (q := (353, "append", 10)) (by decide) rfl dX13_orderHere_53 ?_
          refine wq_cVi M_M_isKey (R_M_isKey Z 10 _) ob_26 rfl rfl (by decide) (by decide) (Nat.le_of_ble_eq_true rfl) ln_RX13_290 dX13_orderHere_56 (fun gr13 x15 J14 => ?_)
          refine wq_if_eq 65 dX13_orderHere_59 (by decide) rfl (fun c36 => ?_) (fun c36 => ?_)
          · refine wq_aload_n dX13_orderHere_65 0 rfl rfl ?_
            refine wq_ldc_ws (q := (355, "cut", 11)) (by decide) rfl dX13_orderHere_66 ?_
            refine wq_cVi M_M_isKey (R_M_isKey Z 11 _) ob_26 rfl rfl (by decide) (by decide) (Nat.le_of_ble_eq_true rfl) ln_RX13_290 dX13_orderHere_69 (fun gr16 x18 J17 => ?_)
            refine wq_if_eq 78 dX13_orderHere_72 (by decide) rfl (fun c35 => ?_) (fun c35 => ?_)
            · refine wq_aload_n dX13_orderHere_78 0 rfl rfl ?_
              refine wq_ldc_ws (q := (288, "least", 3)) (by decide) rfl dX13_orderHere_79 ?_
              refine wq_cVi M_M_isKey (R_M_isKey Z 3 _) ob_26 rfl rfl (by decide) (by decide) (Nat.le_of_ble_eq_true rfl) ln_RX13_290 dX13_orderHere_82 (fun gr19 x21 J20 => ?_)
              refine wq_if_eq 90 dX13_orderHere_85 (by decide) rfl (fun c34 => ?_) (fun c34 => ?_)
              · refine wq_aload_n dX13_orderHere_90 0 rfl rfl ?_
                refine wq_ldc_ws (q := (294, "tie", 4)) (by decide) rfl dX13_orderHere_91 ?_
                refine wq_cVi M_M_isKey (R_M_isKey Z 4 _) ob_26 rfl rfl (by decide) (by decide) (Nat.le_of_ble_eq_true rfl) ln_RX13_290 dX13_orderHere_94 (fun gr22 x24 J23 => ?_)
                refine wq_if_eq 102 dX13_orderHere_97 (by decide) rfl (fun c33 => ?_) (fun c33 => ?_)
                · refine wq_aload_n dX13_orderHere_102 0 rfl rfl ?_
                  refine wq_ldc_ws (q := (357, "mode", 5)) (by decide) rfl dX13_orderHere_103 ?_
                  refine wq_cVi M_M_isKey (R_M_isKey Z 5 _) ob_26 rfl rfl (by decide) (by decide) (Nat.le_of_ble_eq_true rfl) ln_RX13_290 dX13_orderHere_106 (fun gr25 x27 J26 => ?_)
                  refine wq_if_eq 114 dX13_orderHere_109 (by decide) rfl (fun c32 => ?_) (fun c32 => ?_)
                  · refine wq_aload_n dX13_orderHere_114 0 rfl rfl ?_
                    refine wq_ldc_ws (q := (359, "again", 12)) (by decide) rfl dX13_orderHere_115 ?_
                    refine wq_cVi M_M_isKey (R_M_isKey Z 12 _) ob_26 rfl rfl (by decide) (by decide) (Nat.le_of_ble_eq_true rfl) ln_RX13_290 dX13_orderHere_118 (fun gr28 x30 J29 => ?_)
                    refine wq_if_eq 129 dX13_orderHere_121 (by decide) rfl (fun c31 => ?_) (fun c31 => ?_)
                    · refine wq_iconst dX13_orderHere_129 ?_
                      exact wq_iret rfl rfl dX13_orderHere_130
                    · refine wq_bipush dX13_orderHere_124 (by decide) ?_
                      refine wq_goto 130 dX13_orderHere_126 (by decide) ?_
                      exact wq_iret rfl rfl dX13_orderHere_130
                  · refine wq_iconst dX13_orderHere_112 ?_
                    exact wq_iret rfl rfl dX13_orderHere_113
                · refine wq_iconst dX13_orderHere_100 ?_
                  exact wq_iret rfl rfl dX13_orderHere_101
              · refine wq_iconst dX13_orderHere_88 ?_
                exact wq_iret rfl rfl dX13_orderHere_89
            · refine wq_bipush dX13_orderHere_75 (by decide) ?_
              exact wq_iret rfl rfl dX13_orderHere_77
          · refine wq_bipush dX13_orderHere_62 (by decide) ?_
            exact wq_iret rfl rfl dX13_orderHere_64
        · refine wq_bipush dX13_orderHere_49 (by decide) ?_
          exact wq_iret rfl rfl dX13_orderHere_51
      · refine wq_bipush dX13_orderHere_36 (by decide) ?_
        exact wq_iret rfl rfl dX13_orderHere_38
    · refine wq_bipush dX13_orderHere_23 (by decide) ?_
      exact wq_iret rfl rfl dX13_orderHere_25
  · refine wq_bipush dX13_orderHere_10 (by decide) ?_
    exact wq_iret rfl rfl dX13_orderHere_12

theorem ln_RX13_71 : Cond.fieldLink RX13 71 RX13 "second" "[I" ∈ lw_good := li_7 88 (by decide +kernel) (by decide +kernel)
theorem ln_RX13_361 : Cond.fieldLink RX13 361 RX13 "lines" "I" ∈ lw_good := li_7 92 (by decide +kernel) (by decide +kernel)
noncomputable def f_M_wordHere_j39   (e0 : Int) (I : Mem) : Option ((Int) × Mem) :=
bnd (f_M_faulty e0 4 I) fun x11 J10 =>
if (w32 x11) = 0 then
if 0 ≤ (w32 (J10 26 0 38)) ∧ (w32 (J10 26 0 38)) < 64 then
ltI (sI J10 27 17 (w32 (J10 26 0 38)).toNat ((J10 26 0 22) - (J10 26 0 21))) fun J14 =>
bnd (f_M_advance J14) fun _ J16 =>
some ((J10 26 0 21), J16)
else none
else
some (0, J10)

noncomputable def f_M_wordHere_j38    (I : Mem) : Option ((Int) × Mem) :=
f_M_wordHere_j39 0 I

noncomputable def f_M_wordHere (a1 : Int) (I : Mem) : Option ((Int) × Mem) :=
bnd (f_M_faulty (if (w32 (I 26 0 23)) = 1 then 0 else 1) 1 I) fun x3 J2 =>
if (w32 x3) = 0 then
if (w32 a1) = 0 then
f_M_wordHere_j38 J2
else
if (w32 ((J2 26 0 22) - (J2 26 0 21))) = 2 then
f_M_wordHere_j38 J2
else
f_M_wordHere_j39 1 J2
else
some (0, J2)
set_option maxRecDepth 20000 in
theorem R_M_wordHere (Z : ZT) (a1 : Int) (I : Mem) (r : Int) (J : Mem) (hf : f_M_wordHere a1 I = some (r, J)) : Runs Z yX13_wordHere cX13_wordHere 3 (some .int) 4 [vr Z 26 0, vi a1] I (some (vi r), J) := by
  refine Runs.of (rv := fun x => some (vi x)) (by decide +kernel) (Nat.le_of_ble_eq_true rfl) hf (fun gr => ?_)
  unfold f_M_wordHere
  refine WQ.loc [0, 1] (lv' := [(0, vr Z 26 0), (1, vi a1)]) rfl ?_
  refine wq_aload_n dX13_wordHere_0 0 rfl rfl ?_
  refine wq_aload_n dX13_wordHere_1 0 rfl rfl ?_
  refine g_26_23 ln_RX13_237 dX13_wordHere_2 ?_
  refine wq_iconst dX13_wordHere_5 ?_
  refine WQ.via 14 [vi (if (w32 (I 26 0 23)) = 1 then 0 else 1), vr Z 26 0] (by
      refine wq_iconst dX13_wordHere_14 ?_
      refine wq_cVi M_M_faulty (R_M_faulty Z (if (w32 (I 26 0 23)) = 1 then 0 else 1) 1 _) ob_26 rfl rfl (by decide) (by decide) (Nat.le_of_ble_eq_true rfl) ln_RX13_266 dX13_wordHere_15 (fun gr1 x3 J2 => ?_)
      refine wq_if_ne 46 dX13_wordHere_18 (by decide) rfl (fun c33 => ?_) (fun c33 => ?_)
      · refine wq_aload_n dX13_wordHere_21 0 rfl rfl ?_
        refine wq_iload_n dX13_wordHere_22 1 rfl rfl ?_
        have hj4 : ∀ (gr20 : Nat → Nat)  (hj4e0 : Int) (J19 : Mem), WQ Z (yX13_wordHere, cX13_wordHere, 3, some .int, 4) I gr20 39 [(0, vr Z 26 0)] [vi hj4e0, vr Z 26 0] J19 (f_M_wordHere_j39 hj4e0 J19) (fun b K => some (.inl ((fun x => some (vi x)) b), K)) := by
          intro gr20 hj4e0 J19
          unfold f_M_wordHere_j39
          refine wq_iconst dX13_wordHere_39 ?_
          refine wq_cVi M_M_faulty (R_M_faulty Z hj4e0 4 _) ob_26 rfl rfl (by decide) (by decide) (Nat.le_of_ble_eq_true rfl) ln_RX13_266 dX13_wordHere_40 (fun gr21 x23 J22 => ?_)
          refine wq_if_eq 48 dX13_wordHere_43 (by decide) rfl (fun c30 => ?_) (fun c30 => ?_)
          · refine wq_aload_n dX13_wordHere_48 0 rfl rfl ?_
            refine g_26_21 ln_RX13_231 dX13_wordHere_49 ?_
            refine wq_istore_n (lv' := [(2, vi (J22 26 0 21)), (0, vr Z 26 0)]) dX13_wordHere_52 rfl (by decide) rfl ?_
            refine wq_aload_n dX13_wordHere_53 1 rfl rfl ?_
            refine g_26_34 ln_RX13_71 dX13_wordHere_54 ?_
            refine wq_aload_n dX13_wordHere_57 1 rfl rfl ?_
            refine g_26_38 ln_RX13_361 dX13_wordHere_58 ?_
            refine wq_aload_n dX13_wordHere_61 1 rfl rfl ?_
            refine wq_pV (v := vi ((J22 26 0 22) - (J22 26 0 21))) M_M_length (R_M_length Z  _ _ _ rfl) ob_26 rfl rfl (by decide) (by decide) (Nat.le_of_ble_eq_true rfl) ln_RX13_253 dX13_wordHere_62 (fun gr24 => ?_)
            refine wq_grd (fun g25 => ?_)
            refine wq_iast (k := 27) (i := 17) (fun _ _ => rfl) (by decide) rfl rfl (m := 64) g25 (Nat.le_of_ble_eq_true rfl) (by decide) (by decide) (by decide) dX13_wordHere_65 (fun J26 => ?_)
            refine wq_aload_n dX13_wordHere_66 1 rfl rfl ?_
            refine wq_cVv M_M_advance (R_M_advance Z _) ob_26 rfl rfl (by decide) (by decide) (Nat.le_of_ble_eq_true rfl) ln_RX13_270 dX13_wordHere_67 (fun gr27 _ J28 => ?_)
            refine wq_iload_n dX13_wordHere_70 0 rfl rfl ?_
            exact wq_iret rfl rfl dX13_wordHere_71
          · refine wq_iconst dX13_wordHere_46 ?_
            exact wq_iret rfl rfl dX13_wordHere_47
        have hj5 : ∀ (gr32 : Nat → Nat)   (J31 : Mem), WQ Z (yX13_wordHere, cX13_wordHere, 3, some .int, 4) I gr32 38 [(0, vr Z 26 0)] [vr Z 26 0] J31 (f_M_wordHere_j38 J31) (fun b K => some (.inl ((fun x => some (vi x)) b), K)) := by
          intro gr32 J31
          unfold f_M_wordHere_j38
          refine wq_iconst dX13_wordHere_38 ?_
          exact WQ.loc [0] rfl (hj4 _  _ _)
        refine wq_if_eq 38 dX13_wordHere_23 (by decide) rfl (fun c8 => ?_) (fun c8 => ?_)
        · exact WQ.loc [0] rfl (hj5 _   _)
        · refine wq_aload_n dX13_wordHere_26 0 rfl rfl ?_
          refine wq_pV (v := vi ((J2 26 0 22) - (J2 26 0 21))) M_M_length (R_M_length Z  _ _ _ rfl) ob_26 rfl rfl (by decide) (by decide) (Nat.le_of_ble_eq_true rfl) ln_RX13_253 dX13_wordHere_27 (fun gr6 => ?_)
          refine wq_iconst dX13_wordHere_30 ?_
          refine wq_icmp_eq 38 dX13_wordHere_31 (by decide) rfl rfl (fun c7 => ?_) (fun c7 => ?_)
          · exact WQ.loc [0] rfl (hj5 _   _)
          · refine wq_iconst dX13_wordHere_34 ?_
            refine wq_goto 39 dX13_wordHere_35 (by decide) ?_
            exact WQ.loc [0] rfl (hj4 _  _ _)
      · refine wq_iconst dX13_wordHere_46 ?_
        exact wq_iret rfl rfl dX13_wordHere_47) (fun hj34 => ?_)
  refine WQ.both ((w32 (I 26 0 23)) = 1) ?_
  refine wq_icmp_eq 13 dX13_wordHere_6 (by decide) rfl rfl (fun c35 => ?_) (fun c35 => ?_)
  · refine wq_iconst dX13_wordHere_13 ?_
    exact WQ.top (if_pos c35) hj34
  · refine wq_iconst dX13_wordHere_9 ?_
    refine wq_goto 14 dX13_wordHere_10 (by decide) ?_
    exact WQ.top (if_neg c35) hj34

theorem M_M_wordHere : MwV yX13_wordHere cX13_wordHere 3 (some .int) 1 := ⟨li_8 106 (by decide +kernel) (by decide +kernel), li_8 105 (by decide +kernel) (by decide +kernel), lw_in 83 (by decide +kernel) (by decide +kernel), li_1 16 (by decide +kernel) (by decide +kernel), by decide +kernel⟩
theorem ln_RX13_364 : Cond.methodLink RX13 364 yX13_wordHere ∈ lw_good := li_8 103 (by decide +kernel) (by decide +kernel)
noncomputable def f_M_firstHere (a1 : Int) (I : Mem) : Option ((Int) × Mem) :=
if (w32 a1) = 10 then
bnd (f_M_number 1 50 I) fun x3 J2 =>
some (x3, J2)
else if (w32 a1) = 11 then
some (0, I)
else if (w32 a1) = 12 then
bnd (f_M_wordHere 1 I) fun x8 J7 =>
some (x8, J7)
else if (w32 a1) = 13 then
bnd (f_M_number 0 39 I) fun x12 J11 =>
some (x12, J11)
else if (w32 a1) = 14 then
bnd (f_M_wordHere 0 I) fun x16 J15 =>
some (x16, J15)
else if (w32 a1) = 15 then
bnd (f_M_number 1 400 I) fun x20 J19 =>
some (x20, J19)
else if (w32 a1) = 16 then
bnd (f_M_number 0 20 I) fun x24 J23 =>
some (x24, J23)
else bnd (f_M_leastOf a1 I) fun x28 J27 =>
bnd (f_M_mostOf a1 J27) fun x31 J30 =>
bnd (f_M_number x28 x31 J30) fun x34 J33 =>
some (x34, J33)
set_option maxRecDepth 20000 in
theorem R_M_firstHere (Z : ZT) (a1 : Int) (I : Mem) (r : Int) (J : Mem) (hf : f_M_firstHere a1 I = some (r, J)) : Runs Z yX13_firstHere cX13_firstHere 2 (some .int) 5 [vr Z 26 0, vi a1] I (some (vi r), J) := by
  refine Runs.of (rv := fun x => some (vi x)) (by decide +kernel) (Nat.le_of_ble_eq_true rfl) hf (fun gr => ?_)
  unfold f_M_firstHere
  refine WQ.loc [0, 1] (lv' := [(0, vr Z 26 0), (1, vi a1)]) rfl ?_
  refine wq_iload_n dX13_firstHere_0 1 rfl rfl ?_
  refine WQ.split (fun c4 => ?_) (fun c4 => ?_)
  · refine wq_tin (n := 10) 44 dX13_firstHere_1 rfl c4 (by decide) (by decide) rfl (by decide) ?_
    refine wq_aload_n dX13_firstHere_44 0 rfl rfl ?_
    refine wq_iconst dX13_firstHere_45 ?_
    refine wq_bipush dX13_firstHere_46 (by decide) ?_
    refine wq_cVi M_M_number (R_M_number Z 1 50 _) ob_26 rfl rfl (by decide) (by decide) (Nat.le_of_ble_eq_true rfl) ln_RX13_307 dX13_firstHere_48 (fun gr1 x3 J2 => ?_)
    exact wq_iret rfl rfl dX13_firstHere_51
  · skip
    refine WQ.split (fun c5 => ?_) (fun c5 => ?_)
    · refine wq_tin (n := 11) 52 dX13_firstHere_1 rfl c5 (by decide) (by decide) rfl (by decide) ?_
      refine wq_iconst dX13_firstHere_52 ?_
      exact wq_iret rfl rfl dX13_firstHere_53
    · skip
      refine WQ.split (fun c9 => ?_) (fun c9 => ?_)
      · refine wq_tin (n := 12) 54 dX13_firstHere_1 rfl c9 (by decide) (by decide) rfl (by decide) ?_
        refine wq_aload_n dX13_firstHere_54 0 rfl rfl ?_
        refine wq_iconst dX13_firstHere_55 ?_
        refine wq_cVi M_M_wordHere (R_M_wordHere Z 1 _) ob_26 rfl rfl (by decide) (by decide) (Nat.le_of_ble_eq_true rfl) ln_RX13_364 dX13_firstHere_56 (fun gr6 x8 J7 => ?_)
        exact wq_iret rfl rfl dX13_firstHere_59
      · skip
        refine WQ.split (fun c13 => ?_) (fun c13 => ?_)
        · refine wq_tin (n := 13) 66 dX13_firstHere_1 rfl c13 (by decide) (by decide) rfl (by decide) ?_
          refine wq_aload_n dX13_firstHere_66 0 rfl rfl ?_
          refine wq_iconst dX13_firstHere_67 ?_
          refine wq_bipush dX13_firstHere_68 (by decide) ?_
          refine wq_cVi M_M_number (R_M_number Z 0 39 _) ob_26 rfl rfl (by decide) (by decide) (Nat.le_of_ble_eq_true rfl) ln_RX13_307 dX13_firstHere_70 (fun gr10 x12 J11 => ?_)
          exact wq_iret rfl rfl dX13_firstHere_73
        · skip
          refine WQ.split (fun c17 => ?_) (fun c17 => ?_)
          · refine wq_tin (n := 14) 60 dX13_firstHere_1 rfl c17 (by decide) (by decide) rfl (by decide) ?_
            refine wq_aload_n dX13_firstHere_60 0 rfl rfl ?_
            refine wq_iconst dX13_firstHere_61 ?_
            refine wq_cVi M_M_wordHere (R_M_wordHere Z 0 _) ob_26 rfl rfl (by decide) (by decide) (Nat.le_of_ble_eq_true rfl) ln_RX13_364 dX13_firstHere_62 (fun gr14 x16 J15 => ?_)
            exact wq_iret rfl rfl dX13_firstHere_65
          · skip
            refine WQ.split (fun c21 => ?_) (fun c21 => ?_)
            · refine wq_tin (n := 15) 74 dX13_firstHere_1 rfl c21 (by decide) (by decide) rfl (by decide) ?_
              refine wq_aload_n dX13_firstHere_74 0 rfl rfl ?_
              refine wq_iconst dX13_firstHere_75 ?_
              refine wq_sipush dX13_firstHere_76 (by decide) ?_
              refine wq_cVi M_M_number (R_M_number Z 1 400 _) ob_26 rfl rfl (by decide) (by decide) (Nat.le_of_ble_eq_true rfl) ln_RX13_307 dX13_firstHere_79 (fun gr18 x20 J19 => ?_)
              exact wq_iret rfl rfl dX13_firstHere_82
            · skip
              refine WQ.split (fun c25 => ?_) (fun c25 => ?_)
              · refine wq_tin (n := 16) 83 dX13_firstHere_1 rfl c25 (by decide) (by decide) rfl (by decide) ?_
                refine wq_aload_n dX13_firstHere_83 0 rfl rfl ?_
                refine wq_iconst dX13_firstHere_84 ?_
                refine wq_bipush dX13_firstHere_85 (by decide) ?_
                refine wq_cVi M_M_number (R_M_number Z 0 20 _) ob_26 rfl rfl (by decide) (by decide) (Nat.le_of_ble_eq_true rfl) ln_RX13_307 dX13_firstHere_87 (fun gr22 x24 J23 => ?_)
                exact wq_iret rfl rfl dX13_firstHere_90
              · skip
                refine wq_tout 91 dX13_firstHere_1 rfl (by omega) (by decide) ?_
                refine wq_aload_n dX13_firstHere_91 0 rfl rfl ?_
                refine wq_iload_n dX13_firstHere_92 1 rfl rfl ?_
                refine wq_cSi M_M_leastOf (R_M_leastOf Z a1 _) rfl rfl rfl (by decide) (by decide) (Nat.le_of_ble_eq_true rfl) ln_RX13_301 dX13_firstHere_93 (fun gr26 x28 J27 => ?_)
                refine wq_iload_n dX13_firstHere_96 1 rfl rfl ?_
                refine wq_cSi M_M_mostOf (R_M_mostOf Z a1 _) rfl rfl rfl (by decide) (by decide) (Nat.le_of_ble_eq_true rfl) ln_RX13_304 dX13_firstHere_97 (fun gr29 x31 J30 => ?_)
                refine wq_cVi M_M_number (R_M_number Z x28 x31 _) ob_26 rfl rfl (by decide) (by decide) (Nat.le_of_ble_eq_true rfl) ln_RX13_307 dX13_firstHere_100 (fun gr32 x34 J33 => ?_)
                exact wq_iret rfl rfl dX13_firstHere_103

theorem M_M_orderHere : MwV yX13_orderHere cX13_orderHere 1 (some .int) 0 := ⟨li_8 90 (by decide +kernel) (by decide +kernel), li_8 89 (by decide +kernel) (by decide +kernel), lw_in 81 (by decide +kernel) (by decide +kernel), li_1 16 (by decide +kernel) (by decide +kernel), by decide +kernel⟩
theorem ln_RX13_370 : Cond.fieldLink RX13 370 RX13 "toldOrders" "I" ∈ lw_good := li_7 93 (by decide +kernel) (by decide +kernel)
theorem ln_RX13_65 : Cond.fieldLink RX13 65 RX13 "orders" "[I" ∈ lw_good := li_7 86 (by decide +kernel) (by decide +kernel)
theorem ln_RX13_68 : Cond.fieldLink RX13 68 RX13 "first" "[I" ∈ lw_good := li_7 87 (by decide +kernel) (by decide +kernel)
theorem M_M_firstHere : MwV yX13_firstHere cX13_firstHere 2 (some .int) 1 := ⟨li_8 102 (by decide +kernel) (by decide +kernel), li_8 101 (by decide +kernel) (by decide +kernel), lw_in 82 (by decide +kernel) (by decide +kernel), li_1 16 (by decide +kernel) (by decide +kernel), by decide +kernel⟩
theorem ln_RX13_376 : Cond.fieldLink RX13 376 RX13 "opened" "I" ∈ lw_good := li_7 94 (by decide +kernel) (by decide +kernel)
theorem ln_RX13_77 : Cond.fieldLink RX13 77 RX13 "begun" "[I" ∈ lw_good := li_7 90 (by decide +kernel) (by decide +kernel)
theorem ln_RX13_379 : Cond.methodLink RX13 379 Lib.Math.min.name ∈ lw_good := li_8 107 (by decide +kernel) (by decide +kernel)
theorem ln_RX13_373 : Cond.methodLink RX13 373 yX13_firstHere ∈ lw_good := li_8 99 (by decide +kernel) (by decide +kernel)
theorem ln_RX13_367 : Cond.methodLink RX13 367 yX13_orderHere ∈ lw_good := li_8 87 (by decide +kernel) (by decide +kernel)
noncomputable def f_M_readsOrder_j130   (e0 : Int) (I : Mem) : Option ((Unit) × Mem) :=
bnd (f_M_faulty e0 5 I) fun x30 J29 =>
if (w32 x30) = 0 then
bnd (f_M_takesSign 40 J29) fun _ J32 =>
if 0 ≤ (w32 (imn (J32 26 0 40) 1)) ∧ (w32 (imn (J32 26 0 40) 1)) < 2 then
ltI (sI J32 27 19 (w32 (imn (J32 26 0 40) 1)).toNat (J32 26 0 38)) fun J35 =>
ltI (sI J35 26 0 40 ((J35 26 0 40) + 1)) fun J36 =>
ltI (sI J36 26 0 38 ((J36 26 0 38) + 1)) fun J37 =>
some ((), J37)
else none
else
some ((), J29)

noncomputable def f_M_readsOrder_j129    (I : Mem) : Option ((Unit) × Mem) :=
f_M_readsOrder_j130 0 I

noncomputable def f_M_readsOrder  (I : Mem) : Option ((Unit) × Mem) :=
bnd (f_M_orderHere I) fun x3 J2 =>
bnd (f_M_faulty (if (w32 x3) = (-1) then 1 else 0) 1 J2) fun x6 J5 =>
if (w32 x6) = 0 then
bnd (f_M_faulty (if (w32 (J5 26 0 39)) = 30 then 1 else 0) 5 J5) fun x9 J8 =>
if (w32 x9) = 0 then
ltI (sI J8 26 0 39 ((J8 26 0 39) + 1)) fun J10 =>
bnd (f_M_advance J10) fun _ J12 =>
if 0 ≤ (w32 (J12 26 0 38)) ∧ (w32 (J12 26 0 38)) < 64 then
ltI (sI J12 27 15 (w32 (J12 26 0 38)).toNat x3) fun J15 =>
bnd (f_M_firstHere x3 J15) fun x18 J17 =>
if 0 ≤ (w32 (J15 26 0 38)) ∧ (w32 (J15 26 0 38)) < 64 then
ltI (sI J17 27 16 (w32 (J15 26 0 38)).toNat x18) fun J20 =>
if (w32 x3) = 16 then
bnd (f_M_isSign 40 J20) fun x23 J22 =>
if (w32 x23) = 0 then
f_M_readsOrder_j129 J22
else
if (w32 (J22 26 0 40)) = 2 then
f_M_readsOrder_j130 1 J22
else
f_M_readsOrder_j129 J22
else
ltI (sI J20 26 0 38 ((J20 26 0 38) + 1)) fun J54 =>
bnd (f_M_takesSign 59 J54) fun _ J56 =>
some ((), J56)
else none
else none
else
some ((), J8)
else
some ((), J5)
set_option maxRecDepth 20000 in
theorem R_M_readsOrder (Z : ZT)  (I : Mem) (r : Unit) (J : Mem) (hf : f_M_readsOrder I = some (r, J)) : Runs Z yX13_readsOrder cX13_readsOrder 2 (none) 7 [vr Z 26 0] I (none, J) := by
  refine Runs.of (rv := fun _ => none) (by decide +kernel) (Nat.le_of_ble_eq_true rfl) hf (fun gr => ?_)
  unfold f_M_readsOrder
  refine WQ.loc [0] (lv' := [(0, vr Z 26 0)]) rfl ?_
  refine wq_aload_n dX13_readsOrder_0 0 rfl rfl ?_
  refine wq_cVi M_M_orderHere (R_M_orderHere Z _) ob_26 rfl rfl (by decide) (by decide) (Nat.le_of_ble_eq_true rfl) ln_RX13_367 dX13_readsOrder_1 (fun gr1 x3 J2 => ?_)
  refine wq_istore_n (lv' := [(1, vi x3), (0, vr Z 26 0)]) dX13_readsOrder_4 rfl (by decide) rfl ?_
  refine wq_aload_n dX13_readsOrder_5 1 rfl rfl ?_
  refine wq_iload_n dX13_readsOrder_6 0 rfl rfl ?_
  refine wq_iconst dX13_readsOrder_7 ?_
  refine WQ.via 16 [vi (if (w32 x3) = (-1) then 1 else 0), vr Z 26 0] (by
      refine wq_iconst dX13_readsOrder_16 ?_
      refine wq_cVi M_M_faulty (R_M_faulty Z (if (w32 x3) = (-1) then 1 else 0) 1 _) ob_26 rfl rfl (by decide) (by decide) (Nat.le_of_ble_eq_true rfl) ln_RX13_266 dX13_readsOrder_17 (fun gr4 x6 J5 => ?_)
      refine wq_if_ne 45 dX13_readsOrder_20 (by decide) rfl (fun c62 => ?_) (fun c62 => ?_)
      · refine wq_aload_n dX13_readsOrder_23 1 rfl rfl ?_
        refine wq_aload_n dX13_readsOrder_24 1 rfl rfl ?_
        refine g_26_39 ln_RX13_370 dX13_readsOrder_25 ?_
        refine wq_bipush dX13_readsOrder_28 (by decide) ?_
        refine WQ.via 38 [vi (if (w32 (J5 26 0 39)) = 30 then 1 else 0), vr Z 26 0] (by
            refine wq_iconst dX13_readsOrder_38 ?_
            refine wq_cVi M_M_faulty (R_M_faulty Z (if (w32 (J5 26 0 39)) = 30 then 1 else 0) 5 _) ob_26 rfl rfl (by decide) (by decide) (Nat.le_of_ble_eq_true rfl) ln_RX13_266 dX13_readsOrder_39 (fun gr7 x9 J8 => ?_)
            refine wq_if_eq 46 dX13_readsOrder_42 (by decide) rfl (fun c59 => ?_) (fun c59 => ?_)
            · refine wq_aload_n dX13_readsOrder_46 1 rfl rfl ?_
              refine wq_dup dX13_readsOrder_47 rfl ?_
              refine g_26_39 ln_RX13_370 dX13_readsOrder_48 ?_
              refine wq_iconst dX13_readsOrder_51 ?_
              refine wq_iadd dX13_readsOrder_52 ?_
              refine p_26_39 ln_RX13_370 dX13_readsOrder_53 (fun J10 => ?_)
              refine wq_aload_n dX13_readsOrder_56 1 rfl rfl ?_
              refine wq_cVv M_M_advance (R_M_advance Z _) ob_26 rfl rfl (by decide) (by decide) (Nat.le_of_ble_eq_true rfl) ln_RX13_270 dX13_readsOrder_57 (fun gr11 _ J12 => ?_)
              refine wq_aload_n dX13_readsOrder_60 1 rfl rfl ?_
              refine g_26_32 ln_RX13_65 dX13_readsOrder_61 ?_
              refine wq_aload_n dX13_readsOrder_64 1 rfl rfl ?_
              refine g_26_38 ln_RX13_361 dX13_readsOrder_65 ?_
              refine wq_iload_n dX13_readsOrder_68 0 rfl rfl ?_
              refine wq_grd (fun g14 => ?_)
              refine wq_iast (k := 27) (i := 15) (fun _ _ => rfl) (by decide) rfl rfl (m := 64) g14 (Nat.le_of_ble_eq_true rfl) (by decide) (by decide) (by decide) dX13_readsOrder_69 (fun J15 => ?_)
              refine wq_aload_n dX13_readsOrder_70 1 rfl rfl ?_
              refine g_26_33 ln_RX13_68 dX13_readsOrder_71 ?_
              refine wq_aload_n dX13_readsOrder_74 1 rfl rfl ?_
              refine g_26_38 ln_RX13_361 dX13_readsOrder_75 ?_
              refine wq_aload_n dX13_readsOrder_78 1 rfl rfl ?_
              refine wq_iload_n dX13_readsOrder_79 0 rfl rfl ?_
              refine wq_cVi M_M_firstHere (R_M_firstHere Z x3 _) ob_26 rfl rfl (by decide) (by decide) (Nat.le_of_ble_eq_true rfl) ln_RX13_373 dX13_readsOrder_80 (fun gr16 x18 J17 => ?_)
              refine wq_grd (fun g19 => ?_)
              refine wq_iast (k := 27) (i := 16) (fun _ _ => rfl) (by decide) rfl rfl (m := 64) g19 (Nat.le_of_ble_eq_true rfl) (by decide) (by decide) (by decide) dX13_readsOrder_83 (fun J20 => ?_)
              refine wq_iload_n dX13_readsOrder_84 0 rfl rfl ?_
              refine wq_bipush dX13_readsOrder_85 (by decide) ?_
              refine wq_icmp_eq 107 dX13_readsOrder_87 (by decide) rfl rfl (fun c58 => ?_) (fun c58 => ?_)
              · refine wq_aload_n dX13_readsOrder_107 1 rfl rfl ?_
                refine wq_aload_n dX13_readsOrder_108 1 rfl rfl ?_
                refine wq_bipush dX13_readsOrder_109 (by decide) ?_
                refine wq_cVi M_M_isSign (R_M_isSign Z 40 _) ob_26 rfl rfl (by decide) (by decide) (Nat.le_of_ble_eq_true rfl) ln_RX13_263 dX13_readsOrder_111 (fun gr21 x23 J22 => ?_)
                have hj24 : ∀ (gr40 : Nat → Nat)  (hj24e0 : Int) (J39 : Mem), WQ Z (yX13_readsOrder, cX13_readsOrder, 2, none, 7) I gr40 130 [(0, vr Z 26 0)] [vi hj24e0, vr Z 26 0] J39 (f_M_readsOrder_j130 hj24e0 J39) (fun b K => some (.inl ((fun _ => none) b), K)) := by
                  intro gr40 hj24e0 J39
                  unfold f_M_readsOrder_j130
                  refine wq_iconst dX13_readsOrder_130 ?_
                  refine wq_cVi M_M_faulty (R_M_faulty Z hj24e0 5 _) ob_26 rfl rfl (by decide) (by decide) (Nat.le_of_ble_eq_true rfl) ln_RX13_266 dX13_readsOrder_131 (fun gr41 x43 J42 => ?_)
                  refine wq_if_eq 138 dX13_readsOrder_134 (by decide) rfl (fun c51 => ?_) (fun c51 => ?_)
                  · refine wq_aload_n dX13_readsOrder_138 0 rfl rfl ?_
                    refine wq_bipush dX13_readsOrder_139 (by decide) ?_
                    refine wq_cVv M_M_takesSign (R_M_takesSign Z 40 _) ob_26 rfl rfl (by decide) (by decide) (Nat.le_of_ble_eq_true rfl) ln_RX13_276 dX13_readsOrder_141 (fun gr44 _ J45 => ?_)
                    refine wq_aload_n dX13_readsOrder_144 0 rfl rfl ?_
                    refine g_26_36 ln_RX13_77 dX13_readsOrder_145 ?_
                    refine wq_aload_n dX13_readsOrder_148 0 rfl rfl ?_
                    refine g_26_40 ln_RX13_376 dX13_readsOrder_149 ?_
                    refine wq_iconst dX13_readsOrder_152 ?_
                    refine wq_min (by decide) (Nat.le_of_ble_eq_true rfl) ln_RX13_379 mt_min_s mt_i mt_min_c dX13_readsOrder_153 ?_
                    refine wq_aload_n dX13_readsOrder_156 0 rfl rfl ?_
                    refine g_26_38 ln_RX13_361 dX13_readsOrder_157 ?_
                    refine wq_grd (fun g47 => ?_)
                    refine wq_iast (k := 27) (i := 19) (fun _ _ => rfl) (by decide) rfl rfl (m := 2) g47 (Nat.le_of_ble_eq_true rfl) (by decide) (by decide) (by decide) dX13_readsOrder_160 (fun J48 => ?_)
                    refine wq_aload_n dX13_readsOrder_161 0 rfl rfl ?_
                    refine wq_dup dX13_readsOrder_162 rfl ?_
                    refine g_26_40 ln_RX13_376 dX13_readsOrder_163 ?_
                    refine wq_iconst dX13_readsOrder_166 ?_
                    refine wq_iadd dX13_readsOrder_167 ?_
                    refine p_26_40 ln_RX13_376 dX13_readsOrder_168 (fun J49 => ?_)
                    refine wq_aload_n dX13_readsOrder_171 0 rfl rfl ?_
                    refine wq_dup dX13_readsOrder_172 rfl ?_
                    refine g_26_38 ln_RX13_361 dX13_readsOrder_173 ?_
                    refine wq_iconst dX13_readsOrder_176 ?_
                    refine wq_iadd dX13_readsOrder_177 ?_
                    refine p_26_38 ln_RX13_361 dX13_readsOrder_178 (fun J50 => ?_)
                    exact wq_vret rfl rfl dX13_readsOrder_181
                  · exact wq_vret rfl rfl dX13_readsOrder_137
                have hj25 : ∀ (gr53 : Nat → Nat)   (J52 : Mem), WQ Z (yX13_readsOrder, cX13_readsOrder, 2, none, 7) I gr53 129 [(0, vr Z 26 0)] [vr Z 26 0] J52 (f_M_readsOrder_j129 J52) (fun b K => some (.inl ((fun _ => none) b), K)) := by
                  intro gr53 J52
                  unfold f_M_readsOrder_j129
                  refine wq_iconst dX13_readsOrder_129 ?_
                  exact WQ.loc [0] rfl (hj24 _  _ _)
                refine wq_if_eq 129 dX13_readsOrder_114 (by decide) rfl (fun c27 => ?_) (fun c27 => ?_)
                · exact WQ.loc [1] rfl (hj25 _   _)
                · refine wq_aload_n dX13_readsOrder_117 1 rfl rfl ?_
                  refine g_26_40 ln_RX13_376 dX13_readsOrder_118 ?_
                  refine wq_iconst dX13_readsOrder_121 ?_
                  refine wq_icmp_ne 129 dX13_readsOrder_122 (by decide) rfl rfl (fun c26 => ?_) (fun c26 => ?_)
                  · refine wq_iconst dX13_readsOrder_125 ?_
                    refine wq_goto 130 dX13_readsOrder_126 (by decide) ?_
                    exact WQ.loc [1] rfl (hj24 _  _ _)
                  · exact WQ.loc [1] rfl (hj25 _   _)
              · refine wq_aload_n dX13_readsOrder_90 1 rfl rfl ?_
                refine wq_dup dX13_readsOrder_91 rfl ?_
                refine g_26_38 ln_RX13_361 dX13_readsOrder_92 ?_
                refine wq_iconst dX13_readsOrder_95 ?_
                refine wq_iadd dX13_readsOrder_96 ?_
                refine p_26_38 ln_RX13_361 dX13_readsOrder_97 (fun J54 => ?_)
                refine wq_aload_n dX13_readsOrder_100 1 rfl rfl ?_
                refine wq_bipush dX13_readsOrder_101 (by decide) ?_
                refine wq_cVv M_M_takesSign (R_M_takesSign Z 59 _) ob_26 rfl rfl (by decide) (by decide) (Nat.le_of_ble_eq_true rfl) ln_RX13_276 dX13_readsOrder_103 (fun gr55 _ J56 => ?_)
                exact wq_vret rfl rfl dX13_readsOrder_106
            · exact wq_vret rfl rfl dX13_readsOrder_45) (fun hj60 => ?_)
        refine WQ.both ((w32 (J5 26 0 39)) = 30) ?_
        refine wq_icmp_ne 37 dX13_readsOrder_30 (by decide) rfl rfl (fun c61 => ?_) (fun c61 => ?_)
        · refine wq_iconst dX13_readsOrder_33 ?_
          refine wq_goto 38 dX13_readsOrder_34 (by decide) ?_
          exact WQ.top (if_pos c61) hj60
        · refine wq_iconst dX13_readsOrder_37 ?_
          exact WQ.top (if_neg c61) hj60
      · exact wq_vret rfl rfl dX13_readsOrder_45) (fun hj63 => ?_)
  refine WQ.both ((w32 x3) = (-1)) ?_
  refine wq_icmp_ne 15 dX13_readsOrder_8 (by decide) rfl rfl (fun c64 => ?_) (fun c64 => ?_)
  · refine wq_iconst dX13_readsOrder_11 ?_
    refine wq_goto 16 dX13_readsOrder_12 (by decide) ?_
    exact WQ.top (if_pos c64) hj63
  · refine wq_iconst dX13_readsOrder_15 ?_
    exact WQ.top (if_neg c64) hj63

theorem ln_RX13_74 : Cond.fieldLink RX13 74 RX13 "closers" "[I" ∈ lw_good := li_7 89 (by decide +kernel) (by decide +kernel)
noncomputable def f_M_closes_w0  (s : Unit) (I : Mem) : Option (((Unit) ⊕ (Unit)) × Mem) :=
if 0 < (w32 (I 26 0 40)) then
bnd (f_M_isSign 41 I) fun x3 J2 =>
if (w32 x3) = 0 then
some (.inr (), J2)
else
ltI (sI J2 26 0 40 ((J2 26 0 40) - 1)) fun J4 =>
if 0 ≤ (w32 (J4 26 0 40)) ∧ (w32 (J4 26 0 40)) < 2 then
if 0 ≤ (w32 (J4 27 19 (w32 (J4 26 0 40)).toNat)) ∧ (w32 (J4 27 19 (w32 (J4 26 0 40)).toNat)) < 64 then
ltI (sI J4 27 18 (w32 (J4 27 19 (w32 (J4 26 0 40)).toNat)).toNat (J4 26 0 38)) fun J7 =>
if 0 ≤ (w32 (J7 26 0 38)) ∧ (w32 (J7 26 0 38)) < 64 then
ltI (sI J7 27 15 (w32 (J7 26 0 38)).toNat 17) fun J9 =>
ltI (sI J9 26 0 38 ((J9 26 0 38) + 1)) fun J10 =>
bnd (f_M_advance J10) fun _ J12 =>
bnd (f_M_takesSign 59 J12) fun _ J15 =>
some (.inl (), J15)
else none
else none
else none
else
some (.inr (), I)

noncomputable def f_M_closes  (I : Mem) : Option ((Unit) × Mem) :=
bnd (whl (f_M_closes_w0) () I) fun r44 J45 =>
some ((), J45)
set_option maxRecDepth 20000 in
theorem R_M_closes (Z : ZT)  (I : Mem) (r : Unit) (J : Mem) (hf : f_M_closes I = some (r, J)) : Runs Z yX13_closes cX13_closes 1 (none) 5 [vr Z 26 0] I (none, J) := by
  refine Runs.of (rv := fun _ => none) (by decide +kernel) (Nat.le_of_ble_eq_true rfl) hf (fun gr => ?_)
  unfold f_M_closes
  refine WQ.loc [0] (lv' := [(0, vr Z 26 0)]) rfl ?_
  refine wq_loopS (fun _ => [(0, vr Z 26 0)]) 78 (fun _ => []) (fun κ19 bk20 ex21 gr24 s25 J23 => ?_) (fun gr46 r44 J45 => ?_) gr _ rfl
  · unfold f_M_closes_w0
    refine wq_aload_n dX13_closes_0 0 rfl rfl ?_
    refine g_26_40 ln_RX13_376 dX13_closes_1 ?_
    refine wq_if_le 78 dX13_closes_4 (by decide) rfl (fun c43 => ?_) (fun c43 => ?_)
    · refine wq_aload_n dX13_closes_7 0 rfl rfl ?_
      refine wq_bipush dX13_closes_8 (by decide) ?_
      refine wq_cVi M_M_isSign (R_M_isSign Z 41 _) ob_26 rfl rfl (by decide) (by decide) (Nat.le_of_ble_eq_true rfl) ln_RX13_263 dX13_closes_10 (fun gr26 x28 J27 => ?_)
      refine wq_if_eq 78 dX13_closes_13 (by decide) rfl (fun c42 => ?_) (fun c42 => ?_)
      · exact WQ.loc [] rfl (ex21 _ _ _)
      · refine wq_aload_n dX13_closes_16 0 rfl rfl ?_
        refine wq_dup dX13_closes_17 rfl ?_
        refine g_26_40 ln_RX13_376 dX13_closes_18 ?_
        refine wq_iconst dX13_closes_21 ?_
        refine wq_isub dX13_closes_22 ?_
        refine p_26_40 ln_RX13_376 dX13_closes_23 (fun J29 => ?_)
        refine wq_aload_n dX13_closes_26 0 rfl rfl ?_
        refine g_26_35 ln_RX13_74 dX13_closes_27 ?_
        refine wq_aload_n dX13_closes_30 0 rfl rfl ?_
        refine g_26_36 ln_RX13_77 dX13_closes_31 ?_
        refine wq_aload_n dX13_closes_34 0 rfl rfl ?_
        refine g_26_40 ln_RX13_376 dX13_closes_35 ?_
        refine wq_grd (fun g30 => ?_)
        refine wq_iald (k := 27) (i := 19) rfl (by decide) rfl rfl (m := 2) g30 (Nat.le_of_ble_eq_true rfl) dX13_closes_38 ?_
        refine wq_aload_n dX13_closes_39 0 rfl rfl ?_
        refine g_26_38 ln_RX13_361 dX13_closes_40 ?_
        refine wq_grd (fun g31 => ?_)
        refine wq_iast (k := 27) (i := 18) (fun _ _ => rfl) (by decide) rfl rfl (m := 64) g31 (Nat.le_of_ble_eq_true rfl) (by decide) (by decide) (by decide) dX13_closes_43 (fun J32 => ?_)
        refine wq_aload_n dX13_closes_44 0 rfl rfl ?_
        refine g_26_32 ln_RX13_65 dX13_closes_45 ?_
        refine wq_aload_n dX13_closes_48 0 rfl rfl ?_
        refine g_26_38 ln_RX13_361 dX13_closes_49 ?_
        refine wq_bipush dX13_closes_52 (by decide) ?_
        refine wq_grd (fun g33 => ?_)
        refine wq_iast (k := 27) (i := 15) (fun _ _ => rfl) (by decide) rfl rfl (m := 64) g33 (Nat.le_of_ble_eq_true rfl) (by decide) (by decide) (by decide) dX13_closes_54 (fun J34 => ?_)
        refine wq_aload_n dX13_closes_55 0 rfl rfl ?_
        refine wq_dup dX13_closes_56 rfl ?_
        refine g_26_38 ln_RX13_361 dX13_closes_57 ?_
        refine wq_iconst dX13_closes_60 ?_
        refine wq_iadd dX13_closes_61 ?_
        refine p_26_38 ln_RX13_361 dX13_closes_62 (fun J35 => ?_)
        refine wq_aload_n dX13_closes_65 0 rfl rfl ?_
        refine wq_cVv M_M_advance (R_M_advance Z _) ob_26 rfl rfl (by decide) (by decide) (Nat.le_of_ble_eq_true rfl) ln_RX13_270 dX13_closes_66 (fun gr36 _ J37 => ?_)
        refine wq_aload_n dX13_closes_69 0 rfl rfl ?_
        refine wq_bipush dX13_closes_70 (by decide) ?_
        refine wq_cVv M_M_takesSign (R_M_takesSign Z 59 _) ob_26 rfl rfl (by decide) (by decide) (Nat.le_of_ble_eq_true rfl) ln_RX13_276 dX13_closes_72 (fun gr39 _ J40 => ?_)
        refine wq_goto 0 dX13_closes_75 (by decide) ?_
        exact WQ.loc [0] rfl (bk20 _ _ _)
    · exact WQ.loc [] rfl (ex21 _ _ _)
  · exact wq_vret rfl rfl dX13_closes_78

theorem M_M_readsOrder : MwV yX13_readsOrder cX13_readsOrder 2 (none) 0 := ⟨li_8 86 (by decide +kernel) (by decide +kernel), li_8 85 (by decide +kernel) (by decide +kernel), lw_in 80 (by decide +kernel) (by decide +kernel), li_1 16 (by decide +kernel) (by decide +kernel), by decide +kernel⟩
theorem M_M_closes : MwV yX13_closes cX13_closes 1 (none) 0 := ⟨li_8 111 (by decide +kernel) (by decide +kernel), li_8 110 (by decide +kernel) (by decide +kernel), lw_in 84 (by decide +kernel) (by decide +kernel), li_1 16 (by decide +kernel) (by decide +kernel), by decide +kernel⟩
theorem ln_RX13_385 : Cond.methodLink RX13 385 yX13_closes ∈ lw_good := li_8 108 (by decide +kernel) (by decide +kernel)
theorem ln_RX13_382 : Cond.methodLink RX13 382 yX13_readsOrder ∈ lw_good := li_8 83 (by decide +kernel) (by decide +kernel)
noncomputable def f_M_script_w29  (s : Unit) (I : Mem) : Option (((Unit) ⊕ (Unit)) × Mem) :=
if (w32 (I 26 0 25)) = 0 then
if (w32 (I 26 0 23)) = 0 then
some (.inr (), I)
else
bnd (f_M_readsOrder I) fun _ J10 =>
bnd (f_M_closes J10) fun _ J13 =>
some (.inl (), J13)
else
some (.inr (), I)

noncomputable def f_M_script  (I : Mem) : Option ((Unit) × Mem) :=
ltI (sI I 26 0 22 0) fun J1 =>
ltI (sI J1 26 0 25 0) fun J2 =>
ltI (sI J2 26 0 38 0) fun J3 =>
ltI (sI J3 26 0 39 0) fun J4 =>
ltI (sI J4 26 0 40 0) fun J5 =>
bnd (f_M_advance J5) fun _ J7 =>
bnd (whl (f_M_script_w29) () J7) fun r32 J33 =>
bnd (f_M_faulty (if 0 < (w32 (J33 26 0 40)) then 1 else 0) 1 J33) fun x37 J36 =>
if x37 = 0 ∨ x37 = 1 then
ltI (sI J36 26 0 31 x37) fun J38 =>
some ((), J38)
else none
set_option maxRecDepth 20000 in
theorem R_M_script (Z : ZT)  (I : Mem) (r : Unit) (J : Mem) (hf : f_M_script I = some (r, J)) : Runs Z yX13_script cX13_script 1 (none) 8 [vr Z 26 0] I (none, J) := by
  refine Runs.of (rv := fun _ => none) (by decide +kernel) (Nat.le_of_ble_eq_true rfl) hf (fun gr => ?_)
  unfold f_M_script
  refine WQ.loc [0] (lv' := [(0, vr Z 26 0)]) rfl ?_
  refine wq_aload_n dX13_script_0 0 rfl rfl ?_
  refine wq_iconst dX13_script_1 ?_
  refine p_26_22 ln_RX13_228 dX13_script_2 (fun J1 => ?_)
  refine wq_aload_n dX13_script_5 0 rfl rfl ?_
  refine wq_iconst dX13_script_6 ?_
  refine p_26_25 ln_RX13_247 dX13_script_7 (fun J2 => ?_)
  refine wq_aload_n dX13_script_10 0 rfl rfl ?_
  refine wq_iconst dX13_script_11 ?_
  refine p_26_38 ln_RX13_361 dX13_script_12 (fun J3 => ?_)
  refine wq_aload_n dX13_script_15 0 rfl rfl ?_
  refine wq_iconst dX13_script_16 ?_
  refine p_26_39 ln_RX13_370 dX13_script_17 (fun J4 => ?_)
  refine wq_aload_n dX13_script_20 0 rfl rfl ?_
  refine wq_iconst dX13_script_21 ?_
  refine p_26_40 ln_RX13_376 dX13_script_22 (fun J5 => ?_)
  refine wq_aload_n dX13_script_25 0 rfl rfl ?_
  refine wq_cVv M_M_advance (R_M_advance Z _) ob_26 rfl rfl (by decide) (by decide) (Nat.le_of_ble_eq_true rfl) ln_RX13_270 dX13_script_26 (fun gr6 _ J7 => ?_)
  refine wq_loopS (fun _ => [(0, vr Z 26 0)]) 54 (fun _ => [(0, vr Z 26 0)]) (fun κ17 bk18 ex19 gr22 s23 J21 => ?_) (fun gr34 r32 J33 => ?_) gr6 _ rfl
  · unfold f_M_script_w29
    refine wq_aload_n dX13_script_29 0 rfl rfl ?_
    refine g_26_25 ln_RX13_247 dX13_script_30 ?_
    refine wq_if_ne 54 dX13_script_33 (by decide) rfl (fun c31 => ?_) (fun c31 => ?_)
    · refine wq_aload_n dX13_script_36 0 rfl rfl ?_
      refine g_26_23 ln_RX13_237 dX13_script_37 ?_
      refine wq_if_eq 54 dX13_script_40 (by decide) rfl (fun c30 => ?_) (fun c30 => ?_)
      · exact WQ.loc [0] rfl (ex19 _ _ _)
      · refine wq_aload_n dX13_script_43 0 rfl rfl ?_
        refine wq_cVv M_M_readsOrder (R_M_readsOrder Z _) ob_26 rfl rfl (by decide) (by decide) (Nat.le_of_ble_eq_true rfl) ln_RX13_382 dX13_script_44 (fun gr24 _ J25 => ?_)
        refine wq_aload_n dX13_script_47 0 rfl rfl ?_
        refine wq_cVv M_M_closes (R_M_closes Z _) ob_26 rfl rfl (by decide) (by decide) (Nat.le_of_ble_eq_true rfl) ln_RX13_385 dX13_script_48 (fun gr27 _ J28 => ?_)
        refine wq_goto 29 dX13_script_51 (by decide) ?_
        exact WQ.loc [0] rfl (bk18 _ _ _)
    · exact WQ.loc [0] rfl (ex19 _ _ _)
  · refine wq_aload_n dX13_script_54 0 rfl rfl ?_
    refine wq_aload_n dX13_script_55 0 rfl rfl ?_
    refine wq_aload_n dX13_script_56 0 rfl rfl ?_
    refine g_26_40 ln_RX13_376 dX13_script_57 ?_
    refine WQ.via 68 [vi (if 0 < (w32 (J33 26 0 40)) then 1 else 0), vr Z 26 0, vr Z 26 0] (by
        refine wq_iconst dX13_script_68 ?_
        refine wq_cVi M_M_faulty (R_M_faulty Z (if 0 < (w32 (J33 26 0 40)) then 1 else 0) 1 _) ob_26 rfl rfl (by decide) (by decide) (Nat.le_of_ble_eq_true rfl) ln_RX13_266 dX13_script_69 (fun gr35 x37 J36 => ?_)
        refine wq_grd (fun g39 => ?_)
        refine p_26_31 g39 ln_RX13_326 dX13_script_72 (fun J38 => ?_)
        exact wq_vret rfl rfl dX13_script_75) (fun hj40 => ?_)
    refine WQ.both (0 < (w32 (J33 26 0 40))) ?_
    refine wq_if_le 67 dX13_script_60 (by decide) rfl (fun c41 => ?_) (fun c41 => ?_)
    · refine wq_iconst dX13_script_63 ?_
      refine wq_goto 68 dX13_script_64 (by decide) ?_
      exact WQ.top (if_pos c41) hj40
    · refine wq_iconst dX13_script_67 ?_
      exact WQ.top (if_neg c41) hj40

noncomputable def f_M_longestBody_w4  (s : Int × Int) (I : Mem) : Option (((Int × Int) ⊕ (Int)) × Mem) :=
if (w32 s.2) < 41 then
bnd (f_M_many s.2 I) fun x3 J2 =>
some (.inl ((imx s.1 x3), (s.2 + 1)), J2)
else
some (.inr s.1, I)

noncomputable def f_M_longestBody  (I : Mem) : Option ((Int) × Mem) :=
bnd (whl (f_M_longestBody_w4) (0, 1) I) fun r16 J17 =>
some (r16, J17)
set_option maxRecDepth 20000 in
theorem R_M_longestBody (Z : ZT)  (I : Mem) (r : Int) (J : Mem) (hf : f_M_longestBody I = some (r, J)) : Runs Z yX13_longestBody cX13_longestBody 3 (some .int) 2 [vr Z 26 0] I (some (vi r), J) := by
  refine Runs.of (rv := fun x => some (vi x)) (by decide +kernel) (Nat.le_of_ble_eq_true rfl) hf (fun gr => ?_)
  unfold f_M_longestBody
  refine WQ.loc [0] (lv' := [(0, vr Z 26 0)]) rfl ?_
  refine wq_iconst dX13_longestBody_0 ?_
  refine wq_istore_n (lv' := [(1, vi 0), (0, vr Z 26 0)]) dX13_longestBody_1 rfl (by decide) rfl ?_
  refine wq_iconst dX13_longestBody_2 ?_
  refine wq_istore_n (lv' := [(2, vi 1), (1, vi 0), (0, vr Z 26 0)]) dX13_longestBody_3 rfl (by decide) rfl ?_
  refine WQ.loc [2, 1, 0] (lv' := [(0, vr Z 26 0), (1, vi 0), (2, vi 1)]) rfl ?_
  refine wq_loopS (fun s11 => [(0, vr Z 26 0), (1, vi s11.1), (2, vi s11.2)]) 26 (fun r16 => [(1, vi r16)]) (fun κ5 bk6 ex7 gr10 s11 J9 => ?_) (fun gr18 r16 J17 => ?_) gr _ rfl
  · unfold f_M_longestBody_w4
    refine wq_iload_n dX13_longestBody_4 2 rfl rfl ?_
    refine wq_bipush dX13_longestBody_5 (by decide) ?_
    refine wq_icmp_ge 26 dX13_longestBody_7 (by decide) rfl rfl (fun c15 => ?_) (fun c15 => ?_)
    · refine wq_iload_n dX13_longestBody_10 1 rfl rfl ?_
      refine wq_aload_n dX13_longestBody_11 0 rfl rfl ?_
      refine wq_iload_n dX13_longestBody_12 2 rfl rfl ?_
      refine wq_cVi M_M_many (R_M_many Z s11.2 _) ob_26 rfl rfl (by decide) (by decide) (Nat.le_of_ble_eq_true rfl) ln_RX13_103 dX13_longestBody_13 (fun gr12 x14 J13 => ?_)
      refine wq_max (by decide) (Nat.le_of_ble_eq_true rfl) ln_RX13_129 mt_max_s mt_i mt_max_c dX13_longestBody_16 ?_
      refine wq_istore_n (lv' := [(1, vi (imx s11.1 x14)), (0, vr Z 26 0), (2, vi s11.2)]) dX13_longestBody_19 rfl (by decide) rfl ?_
      refine wq_iinc (lv' := [(2, vi (s11.2 + 1)), (1, vi (imx s11.1 x14)), (0, vr Z 26 0)]) dX13_longestBody_20 2 rfl (by decide) rfl ?_
      refine wq_goto 4 dX13_longestBody_23 (by decide) ?_
      exact WQ.loc [2, 1, 0] rfl (bk6 _ _ _)
    · exact WQ.loc [1] rfl (ex7 _ _ _)
  · refine wq_iload_n dX13_longestBody_26 0 rfl rfl ?_
    exact wq_iret rfl rfl dX13_longestBody_27

theorem M_M_textLong : MwV yX13_textLong cX13_textLong 1 (some .int) 0 := ⟨li_9 3 (by decide +kernel) (by decide +kernel), li_9 2 (by decide +kernel) (by decide +kernel), lw_in 115 (by decide +kernel) (by decide +kernel), li_1 16 (by decide +kernel) (by decide +kernel), by decide +kernel⟩
theorem ln_RX13_422 : Cond.methodLink RX13 422 yX13_textLong ∈ lw_good := li_9 0 (by decide +kernel) (by decide +kernel)
noncomputable def f_M_deepNow  (I : Mem) : Option ((Int) × Mem) :=
bnd (f_M_textLong I) fun x3 J2 =>
if 0 < (w32 x3) then
some ((J2 26 0 10), J2)
else
some (0, J2)
set_option maxRecDepth 20000 in
theorem R_M_deepNow (Z : ZT)  (I : Mem) (r : Int) (J : Mem) (hf : f_M_deepNow I = some (r, J)) : Runs Z yX13_deepNow cX13_deepNow 2 (some .int) 5 [vr Z 26 0] I (some (vi r), J) := by
  refine Runs.of (rv := fun x => some (vi x)) (by decide +kernel) (Nat.le_of_ble_eq_true rfl) hf (fun gr => ?_)
  unfold f_M_deepNow
  refine WQ.loc [0] (lv' := [(0, vr Z 26 0)]) rfl ?_
  refine wq_aload_n dX13_deepNow_0 0 rfl rfl ?_
  refine wq_cVi M_M_textLong (R_M_textLong Z _) ob_26 rfl rfl (by decide) (by decide) (Nat.le_of_ble_eq_true rfl) ln_RX13_422 dX13_deepNow_1 (fun gr1 x3 J2 => ?_)
  refine wq_istore_n (lv' := [(1, vi x3), (0, vr Z 26 0)]) dX13_deepNow_4 rfl (by decide) rfl ?_
  refine wq_iload_n dX13_deepNow_5 0 rfl rfl ?_
  refine wq_if_le 16 dX13_deepNow_6 (by decide) rfl (fun c4 => ?_) (fun c4 => ?_)
  · refine wq_aload_n dX13_deepNow_9 1 rfl rfl ?_
    refine g_26_10 ln_RX13_126 dX13_deepNow_10 ?_
    refine wq_goto 17 dX13_deepNow_13 (by decide) ?_
    exact wq_iret rfl rfl dX13_deepNow_17
  · refine wq_iconst dX13_deepNow_16 ?_
    exact wq_iret rfl rfl dX13_deepNow_17

noncomputable def f_M_lettersOf_w10 (v1 : Int) (v3 : Int) (s : Int × Int) (I : Mem) : Option (((Int × Int) ⊕ (Int)) × Mem) :=
if (w32 s.2) < (w32 v3) then
if 0 ≤ (w32 s.2) ∧ (w32 s.2) < 401 then
bnd (f_M_one (if (w32 (I 27 7 (w32 s.2).toNat)) = (w32 v1) then 1 else 0) I) fun x7 J6 =>
some (.inl ((s.1 + x7), (s.2 + 1)), J6)
else none
else
some (.inr s.1, I)

noncomputable def f_M_lettersOf (a1 : Int) (I : Mem) : Option ((Int) × Mem) :=
bnd (f_M_unfolds I) fun x3 J2 =>
bnd (whl (f_M_lettersOf_w10 a1 x3) (0, 0) J2) fun r25 J26 =>
some (r25, J26)
set_option maxRecDepth 20000 in
theorem R_M_lettersOf (Z : ZT) (a1 : Int) (I : Mem) (r : Int) (J : Mem) (hf : f_M_lettersOf a1 I = some (r, J)) : Runs Z yX13_lettersOf cX13_lettersOf 5 (some .int) 3 [vr Z 26 0, vi a1] I (some (vi r), J) := by
  refine Runs.of (rv := fun x => some (vi x)) (by decide +kernel) (Nat.le_of_ble_eq_true rfl) hf (fun gr => ?_)
  unfold f_M_lettersOf
  refine WQ.loc [0, 1] (lv' := [(0, vr Z 26 0), (1, vi a1)]) rfl ?_
  refine wq_iconst dX13_lettersOf_0 ?_
  refine wq_istore_n (lv' := [(2, vi 0), (0, vr Z 26 0), (1, vi a1)]) dX13_lettersOf_1 rfl (by decide) rfl ?_
  refine wq_aload_n dX13_lettersOf_2 1 rfl rfl ?_
  refine wq_cVi M_M_unfolds (R_M_unfolds Z _) ob_26 rfl rfl (by decide) (by decide) (Nat.le_of_ble_eq_true rfl) ln_RX13_140 dX13_lettersOf_3 (fun gr1 x3 J2 => ?_)
  refine wq_istore_n (lv' := [(3, vi x3), (2, vi 0), (0, vr Z 26 0), (1, vi a1)]) dX13_lettersOf_6 rfl (by decide) rfl ?_
  refine wq_iconst dX13_lettersOf_7 ?_
  refine wq_istore (lv' := [(4, vi 0), (3, vi x3), (2, vi 0), (0, vr Z 26 0), (1, vi a1)]) dX13_lettersOf_8 (by decide) rfl ?_
  refine WQ.loc [3, 4, 2, 1, 0] (lv' := [(0, vr Z 26 0), (1, vi a1), (2, vi 0), (3, vi x3), (4, vi 0)]) rfl ?_
  refine wq_loopS (fun s17 => [(0, vr Z 26 0), (1, vi a1), (2, vi s17.1), (3, vi x3), (4, vi s17.2)]) 44 (fun r25 => [(2, vi r25)]) (fun κ11 bk12 ex13 gr16 s17 J15 => ?_) (fun gr27 r25 J26 => ?_) gr1 _ rfl
  · unfold f_M_lettersOf_w10
    refine wq_iload dX13_lettersOf_10 4 rfl ?_
    refine wq_iload_n dX13_lettersOf_12 3 rfl rfl ?_
    refine wq_icmp_ge 44 dX13_lettersOf_13 (by decide) rfl rfl (fun c24 => ?_) (fun c24 => ?_)
    · refine wq_iload_n dX13_lettersOf_16 2 rfl rfl ?_
      refine wq_aload_n dX13_lettersOf_17 0 rfl rfl ?_
      refine g_26_11 ln_RX13_37 dX13_lettersOf_18 ?_
      refine wq_iload dX13_lettersOf_21 4 rfl ?_
      refine wq_grd (fun g18 => ?_)
      refine wq_iald (k := 27) (i := 7) rfl (by decide) rfl rfl (m := 401) g18 (Nat.le_of_ble_eq_true rfl) dX13_lettersOf_23 ?_
      refine wq_iload_n dX13_lettersOf_24 1 rfl rfl ?_
      refine WQ.via 33 [vi (if (w32 (J15 27 7 (w32 s17.2).toNat)) = (w32 a1) then 1 else 0), vi s17.1] (by
          refine wq_cSi M_M_one (R_M_one Z (if (w32 (J15 27 7 (w32 s17.2).toNat)) = (w32 a1) then 1 else 0) _) rfl rfl rfl (by decide) (by decide) (Nat.le_of_ble_eq_true rfl) ln_RX13_115 dX13_lettersOf_33 (fun gr19 x21 J20 => ?_)
          refine wq_iadd dX13_lettersOf_36 ?_
          refine wq_istore_n (lv' := [(2, vi (s17.1 + x21)), (0, vr Z 26 0), (1, vi a1), (3, vi x3), (4, vi s17.2)]) dX13_lettersOf_37 rfl (by decide) rfl ?_
          refine wq_iinc (lv' := [(4, vi (s17.2 + 1)), (2, vi (s17.1 + x21)), (0, vr Z 26 0), (1, vi a1), (3, vi x3)]) dX13_lettersOf_38 4 rfl (by decide) rfl ?_
          refine wq_goto 10 dX13_lettersOf_41 (by decide) ?_
          exact WQ.loc [2, 3, 1, 4, 0] rfl (bk12 _ _ _)) (fun hj22 => ?_)
      refine WQ.both ((w32 (J15 27 7 (w32 s17.2).toNat)) = (w32 a1)) ?_
      refine wq_icmp_ne 32 dX13_lettersOf_25 (by decide) rfl rfl (fun c23 => ?_) (fun c23 => ?_)
      · refine wq_iconst dX13_lettersOf_28 ?_
        refine wq_goto 33 dX13_lettersOf_29 (by decide) ?_
        exact WQ.top (if_pos c23) hj22
      · refine wq_iconst dX13_lettersOf_32 ?_
        exact WQ.top (if_neg c23) hj22
    · exact WQ.loc [2] rfl (ex13 _ _ _)
  · refine wq_iload_n dX13_lettersOf_44 0 rfl rfl ?_
    exact wq_iret rfl rfl dX13_lettersOf_45

noncomputable def f_M_unlike_w9 (v2 : Int) (s : Int × Int) (I : Mem) : Option (((Int × Int) ⊕ (Int)) × Mem) :=
if (w32 s.2) < (w32 v2) then
if 0 ≤ (w32 s.2) ∧ (w32 s.2) < 401 then
some (.inl ((ior s.1 (ish 1 (I 27 7 (w32 s.2).toNat))), (s.2 + 1)), I)
else none
else
some (.inr s.1, I)

noncomputable def f_M_unlike_w36  (s : Int × Int) (I : Mem) : Option (((Int × Int) ⊕ (Int)) × Mem) :=
if (w32 s.2) = 0 then
some (.inr s.1, I)
else
some (.inl ((s.1 + 1), (ian s.2 (s.2 - 1))), I)

noncomputable def f_M_unlike  (I : Mem) : Option ((Int) × Mem) :=
bnd (f_M_unfolds I) fun x3 J2 =>
bnd (whl (f_M_unlike_w9 x3) (0, 0) J2) fun r15 J16 =>
bnd (whl (f_M_unlike_w36) (0, r15) J16) fun r27 J28 =>
some (r27, J28)
set_option maxRecDepth 20000 in
theorem R_M_unlike (Z : ZT)  (I : Mem) (r : Int) (J : Mem) (hf : f_M_unlike I = some (r, J)) : Runs Z yX13_unlike cX13_unlike 5 (some .int) 3 [vr Z 26 0] I (some (vi r), J) := by
  refine Runs.of (rv := fun x => some (vi x)) (by decide +kernel) (Nat.le_of_ble_eq_true rfl) hf (fun gr => ?_)
  unfold f_M_unlike
  refine WQ.loc [0] (lv' := [(0, vr Z 26 0)]) rfl ?_
  refine wq_iconst dX13_unlike_0 ?_
  refine wq_istore_n (lv' := [(1, vi 0), (0, vr Z 26 0)]) dX13_unlike_1 rfl (by decide) rfl ?_
  refine wq_aload_n dX13_unlike_2 1 rfl rfl ?_
  refine wq_cVi M_M_unfolds (R_M_unfolds Z _) ob_26 rfl rfl (by decide) (by decide) (Nat.le_of_ble_eq_true rfl) ln_RX13_140 dX13_unlike_3 (fun gr1 x3 J2 => ?_)
  refine wq_istore_n (lv' := [(2, vi x3), (1, vi 0), (0, vr Z 26 0)]) dX13_unlike_6 rfl (by decide) rfl ?_
  refine wq_iconst dX13_unlike_7 ?_
  refine wq_istore_n (lv' := [(3, vi 0), (2, vi x3), (1, vi 0), (0, vr Z 26 0)]) dX13_unlike_8 rfl (by decide) rfl ?_
  refine WQ.loc [3, 2, 1, 0] (lv' := [(0, vr Z 26 0), (1, vi 0), (2, vi x3), (3, vi 0)]) rfl ?_
  refine wq_loopS (fun s12 => [(0, vr Z 26 0), (1, vi s12.1), (2, vi x3), (3, vi s12.2)]) 31 (fun r15 => [(1, vi r15)]) (fun κ6 bk7 ex8 gr11 s12 J10 => ?_) (fun gr17 r15 J16 => ?_) gr1 _ rfl
  · unfold f_M_unlike_w9
    refine wq_iload_n dX13_unlike_9 3 rfl rfl ?_
    refine wq_iload_n dX13_unlike_10 2 rfl rfl ?_
    refine wq_icmp_ge 31 dX13_unlike_11 (by decide) rfl rfl (fun c14 => ?_) (fun c14 => ?_)
    · refine wq_iload_n dX13_unlike_14 1 rfl rfl ?_
      refine wq_iconst dX13_unlike_15 ?_
      refine wq_aload_n dX13_unlike_16 0 rfl rfl ?_
      refine g_26_11 ln_RX13_37 dX13_unlike_17 ?_
      refine wq_iload_n dX13_unlike_20 3 rfl rfl ?_
      refine wq_grd (fun g13 => ?_)
      refine wq_iald (k := 27) (i := 7) rfl (by decide) rfl rfl (m := 401) g13 (Nat.le_of_ble_eq_true rfl) dX13_unlike_21 ?_
      refine wq_ishl dX13_unlike_22 ?_
      refine wq_ior dX13_unlike_23 ?_
      refine wq_istore_n (lv' := [(1, vi (ior s12.1 (ish 1 (J10 27 7 (w32 s12.2).toNat)))), (0, vr Z 26 0), (2, vi x3), (3, vi s12.2)]) dX13_unlike_24 rfl (by decide) rfl ?_
      refine wq_iinc (lv' := [(3, vi (s12.2 + 1)), (1, vi (ior s12.1 (ish 1 (J10 27 7 (w32 s12.2).toNat)))), (0, vr Z 26 0), (2, vi x3)]) dX13_unlike_25 3 rfl (by decide) rfl ?_
      refine wq_goto 9 dX13_unlike_28 (by decide) ?_
      exact WQ.loc [2, 1, 3, 0] rfl (bk7 _ _ _)
    · exact WQ.loc [1] rfl (ex8 _ _ _)
  · refine wq_iconst dX13_unlike_31 ?_
    refine wq_istore_n (lv' := [(3, vi 0), (1, vi r15)]) dX13_unlike_32 rfl (by decide) rfl ?_
    refine wq_iload_n dX13_unlike_33 1 rfl rfl ?_
    refine wq_istore (lv' := [(4, vi r15), (3, vi 0), (1, vi r15)]) dX13_unlike_34 (by decide) rfl ?_
    refine WQ.loc [1, 0] (lv' := [(3, vi 0), (4, vi r15)]) rfl ?_
    refine wq_loopS (fun s25 => [(3, vi s25.1), (4, vi s25.2)]) 56 (fun r27 => [(3, vi r27)]) (fun κ19 bk20 ex21 gr24 s25 J23 => ?_) (fun gr29 r27 J28 => ?_) gr17 _ rfl
    · unfold f_M_unlike_w36
      refine wq_iload dX13_unlike_36 1 rfl ?_
      refine wq_if_eq 56 dX13_unlike_38 (by decide) rfl (fun c26 => ?_) (fun c26 => ?_)
      · exact WQ.loc [0] rfl (ex21 _ _ _)
      · refine wq_iinc (lv' := [(3, vi (s25.1 + 1)), (4, vi s25.2)]) dX13_unlike_41 0 rfl (by decide) rfl ?_
        refine wq_iload dX13_unlike_44 1 rfl ?_
        refine wq_iload dX13_unlike_46 1 rfl ?_
        refine wq_iconst dX13_unlike_48 ?_
        refine wq_isub dX13_unlike_49 ?_
        refine wq_iand dX13_unlike_50 ?_
        refine wq_istore (lv' := [(4, vi (ian s25.2 (s25.2 - 1))), (3, vi (s25.1 + 1))]) dX13_unlike_51 (by decide) rfl ?_
        refine wq_goto 36 dX13_unlike_53 (by decide) ?_
        exact WQ.loc [1, 0] rfl (bk20 _ _ _)
    · refine wq_iload_n dX13_unlike_56 0 rfl rfl ?_
      exact wq_iret rfl rfl dX13_unlike_57

theorem M_M_worthy : MwV yX13_worthy cX13_worthy 5 (some .int) 1 := ⟨li_9 27 (by decide +kernel) (by decide +kernel), li_9 26 (by decide +kernel) (by decide +kernel), lw_in 121 (by decide +kernel) (by decide +kernel), li_1 16 (by decide +kernel) (by decide +kernel), by decide +kernel⟩
theorem ln_RX13_425 : Cond.methodLink RX13 425 yX13_worthy ∈ lw_good := li_9 24 (by decide +kernel) (by decide +kernel)
noncomputable def f_M_worthNow  (I : Mem) : Option ((Int) × Mem) :=
bnd (f_M_laysPairs I) fun _ J2 =>
bnd (f_M_worthy 0 J2) fun x6 J5 =>
some (x6, J5)
set_option maxRecDepth 20000 in
theorem R_M_worthNow (Z : ZT)  (I : Mem) (r : Int) (J : Mem) (hf : f_M_worthNow I = some (r, J)) : Runs Z yX13_worthNow cX13_worthNow 1 (some .int) 5 [vr Z 26 0] I (some (vi r), J) := by
  refine Runs.of (rv := fun x => some (vi x)) (by decide +kernel) (Nat.le_of_ble_eq_true rfl) hf (fun gr => ?_)
  unfold f_M_worthNow
  refine WQ.loc [0] (lv' := [(0, vr Z 26 0)]) rfl ?_
  refine wq_aload_n dX13_worthNow_0 0 rfl rfl ?_
  refine wq_cVv M_M_laysPairs (R_M_laysPairs Z _) ob_26 rfl rfl (by decide) (by decide) (Nat.le_of_ble_eq_true rfl) ln_RX13_160 dX13_worthNow_1 (fun gr1 _ J2 => ?_)
  refine wq_aload_n dX13_worthNow_4 0 rfl rfl ?_
  refine wq_iconst dX13_worthNow_5 ?_
  refine wq_cVi M_M_worthy (R_M_worthy Z 0 _) ob_26 rfl rfl (by decide) (by decide) (Nat.le_of_ble_eq_true rfl) ln_RX13_425 dX13_worthNow_6 (fun gr4 x6 J5 => ?_)
  exact wq_iret rfl rfl dX13_worthNow_9

theorem M_M_fails : MwV yX13_fails cX13_fails 3 (some .boolean) 2 := ⟨li_8 239 (by decide +kernel) (by decide +kernel), li_8 238 (by decide +kernel) (by decide +kernel), lw_in 114 (by decide +kernel) (by decide +kernel), li_1 16 (by decide +kernel) (by decide +kernel), by decide +kernel⟩
theorem M_M_sizeNow : MwV yX13_sizeNow cX13_sizeNow 3 (some .int) 0 := ⟨li_9 7 (by decide +kernel) (by decide +kernel), li_9 6 (by decide +kernel) (by decide +kernel), lw_in 116 (by decide +kernel) (by decide +kernel), li_1 16 (by decide +kernel) (by decide +kernel), by decide +kernel⟩
theorem ln_RX13_431 : Cond.methodLink RX13 431 yX13_sizeNow ∈ lw_good := li_9 4 (by decide +kernel) (by decide +kernel)
theorem M_M_longestBody : MwV yX13_longestBody cX13_longestBody 3 (some .int) 0 := ⟨li_9 11 (by decide +kernel) (by decide +kernel), li_9 10 (by decide +kernel) (by decide +kernel), lw_in 117 (by decide +kernel) (by decide +kernel), li_1 16 (by decide +kernel) (by decide +kernel), by decide +kernel⟩
theorem ln_RX13_434 : Cond.methodLink RX13 434 yX13_longestBody ∈ lw_good := li_9 8 (by decide +kernel) (by decide +kernel)
theorem M_M_deepNow : MwV yX13_deepNow cX13_deepNow 2 (some .int) 0 := ⟨li_9 15 (by decide +kernel) (by decide +kernel), li_9 14 (by decide +kernel) (by decide +kernel), lw_in 118 (by decide +kernel) (by decide +kernel), li_1 16 (by decide +kernel) (by decide +kernel), by decide +kernel⟩
theorem ln_RX13_437 : Cond.methodLink RX13 437 yX13_deepNow ∈ lw_good := li_9 12 (by decide +kernel) (by decide +kernel)
theorem M_M_unlike : MwV yX13_unlike cX13_unlike 5 (some .int) 0 := ⟨li_9 19 (by decide +kernel) (by decide +kernel), li_9 18 (by decide +kernel) (by decide +kernel), lw_in 119 (by decide +kernel) (by decide +kernel), li_1 16 (by decide +kernel) (by decide +kernel), by decide +kernel⟩
theorem ln_RX13_440 : Cond.methodLink RX13 440 yX13_unlike ∈ lw_good := li_9 16 (by decide +kernel) (by decide +kernel)
theorem M_M_worthNow : MwV yX13_worthNow cX13_worthNow 1 (some .int) 0 := ⟨li_9 23 (by decide +kernel) (by decide +kernel), li_9 22 (by decide +kernel) (by decide +kernel), lw_in 120 (by decide +kernel) (by decide +kernel), li_1 16 (by decide +kernel) (by decide +kernel), by decide +kernel⟩
theorem ln_RX13_443 : Cond.methodLink RX13 443 yX13_worthNow ∈ lw_good := li_9 20 (by decide +kernel) (by decide +kernel)
theorem ln_RX13_428 : Cond.methodLink RX13 428 yX13_fails ∈ lw_good := li_8 236 (by decide +kernel) (by decide +kernel)
noncomputable def f_M_size (a1 : Int) (I : Mem) : Option ((Int) × Mem) :=
ltI (sI I 26 0 7 0) fun J1 =>
bnd (f_M_in a1 0 11 J1) fun x4 J3 =>
bnd (f_M_fails (if (w32 x4) = 0 then 1 else 0) 1 J3) fun x7 J6 =>
if (w32 x7) = 0 then
if (w32 a1) = 0 then
bnd (f_M_textLong J6) fun x10 J9 =>
some (x10, J9)
else if (w32 a1) = 1 then
bnd (f_M_many 0 J6) fun x14 J13 =>
some (x14, J13)
else if (w32 a1) = 2 then
bnd (f_M_rules J6) fun x18 J17 =>
some (x18, J17)
else if (w32 a1) = 3 then
bnd (f_M_sizeNow J6) fun x22 J21 =>
some (x22, J21)
else if (w32 a1) = 4 then
if 0 ≤ (w32 (a1 - 4)) ∧ (w32 (a1 - 4)) < 16860 then
some ((J6 27 0 (w32 (a1 - 4)).toNat), J6)
else none
else if (w32 a1) = 5 then
if 0 ≤ (w32 (a1 - 4)) ∧ (w32 (a1 - 4)) < 16860 then
some ((J6 27 0 (w32 (a1 - 4)).toNat), J6)
else none
else if (w32 a1) = 6 then
if 0 ≤ (w32 (a1 - 4)) ∧ (w32 (a1 - 4)) < 16860 then
some ((J6 27 0 (w32 (a1 - 4)).toNat), J6)
else none
else if (w32 a1) = 7 then
bnd (f_M_longestBody J6) fun x32 J31 =>
some (x32, J31)
else if (w32 a1) = 8 then
bnd (f_M_deepNow J6) fun x36 J35 =>
some (x36, J35)
else if (w32 a1) = 9 then
bnd (f_M_unlike J6) fun x40 J39 =>
some (x40, J39)
else if (w32 a1) = 10 then
bnd (f_M_worthNow J6) fun x44 J43 =>
some (x44, J43)
else if (w32 a1) = 11 then
some ((J6 26 0 6), J6)
else if 0 ≤ (w32 (a1 - 4)) ∧ (w32 (a1 - 4)) < 16860 then
some ((J6 27 0 (w32 (a1 - 4)).toNat), J6)
else none
else
some (0, J6)
set_option maxRecDepth 20000 in
theorem R_M_size (Z : ZT) (a1 : Int) (I : Mem) (r : Int) (J : Mem) (hf : f_M_size a1 I = some (r, J)) : Runs Z yX13_size cX13_size 2 (some .int) 6 [vr Z 26 0, vi a1] I (some (vi r), J) := by
  refine Runs.of (rv := fun x => some (vi x)) (by decide +kernel) (Nat.le_of_ble_eq_true rfl) hf (fun gr => ?_)
  unfold f_M_size
  refine WQ.loc [0, 1] (lv' := [(0, vr Z 26 0), (1, vi a1)]) rfl ?_
  refine wq_aload_n dX13_size_0 0 rfl rfl ?_
  refine wq_iconst dX13_size_1 ?_
  refine p_26_7 ln_RX13_100 dX13_size_2 (fun J1 => ?_)
  refine wq_aload_n dX13_size_5 0 rfl rfl ?_
  refine wq_iload_n dX13_size_6 1 rfl rfl ?_
  refine wq_iconst dX13_size_7 ?_
  refine wq_bipush dX13_size_8 (by decide) ?_
  refine wq_cSi M_M_in (R_M_in Z a1 0 11 _) rfl rfl rfl (by decide) (by decide) (Nat.le_of_ble_eq_true rfl) ln_RX13_224 dX13_size_10 (fun gr2 x4 J3 => ?_)
  refine WQ.via 21 [vi (if (w32 x4) = 0 then 1 else 0), vr Z 26 0] (by
      refine wq_iconst dX13_size_21 ?_
      refine wq_cVi M_M_fails (R_M_fails Z (if (w32 x4) = 0 then 1 else 0) 1 _) ob_26 rfl rfl (by decide) (by decide) (Nat.le_of_ble_eq_true rfl) ln_RX13_428 dX13_size_22 (fun gr5 x7 J6 => ?_)
      refine wq_if_eq 30 dX13_size_25 (by decide) rfl (fun c48 => ?_) (fun c48 => ?_)
      · refine wq_iload_n dX13_size_30 1 rfl rfl ?_
        refine WQ.split (fun c11 => ?_) (fun c11 => ?_)
        · refine wq_tin (n := 0) 92 dX13_size_31 rfl c11 (by decide) (by decide) rfl (by decide) ?_
          refine wq_aload_n dX13_size_92 0 rfl rfl ?_
          refine wq_cVi M_M_textLong (R_M_textLong Z _) ob_26 rfl rfl (by decide) (by decide) (Nat.le_of_ble_eq_true rfl) ln_RX13_422 dX13_size_93 (fun gr8 x10 J9 => ?_)
          exact wq_iret rfl rfl dX13_size_96
        · skip
          refine WQ.split (fun c15 => ?_) (fun c15 => ?_)
          · refine wq_tin (n := 1) 97 dX13_size_31 rfl c15 (by decide) (by decide) rfl (by decide) ?_
            refine wq_aload_n dX13_size_97 0 rfl rfl ?_
            refine wq_iconst dX13_size_98 ?_
            refine wq_cVi M_M_many (R_M_many Z 0 _) ob_26 rfl rfl (by decide) (by decide) (Nat.le_of_ble_eq_true rfl) ln_RX13_103 dX13_size_99 (fun gr12 x14 J13 => ?_)
            exact wq_iret rfl rfl dX13_size_102
          · skip
            refine WQ.split (fun c19 => ?_) (fun c19 => ?_)
            · refine wq_tin (n := 2) 103 dX13_size_31 rfl c19 (by decide) (by decide) rfl (by decide) ?_
              refine wq_aload_n dX13_size_103 0 rfl rfl ?_
              refine wq_cVi M_M_rules (R_M_rules Z _) ob_26 rfl rfl (by decide) (by decide) (Nat.le_of_ble_eq_true rfl) ln_RX13_144 dX13_size_104 (fun gr16 x18 J17 => ?_)
              exact wq_iret rfl rfl dX13_size_107
            · skip
              refine WQ.split (fun c23 => ?_) (fun c23 => ?_)
              · refine wq_tin (n := 3) 108 dX13_size_31 rfl c23 (by decide) (by decide) rfl (by decide) ?_
                refine wq_aload_n dX13_size_108 0 rfl rfl ?_
                refine wq_cVi M_M_sizeNow (R_M_sizeNow Z _) ob_26 rfl rfl (by decide) (by decide) (Nat.le_of_ble_eq_true rfl) ln_RX13_431 dX13_size_109 (fun gr20 x22 J21 => ?_)
                exact wq_iret rfl rfl dX13_size_112
              · skip
                refine WQ.split (fun c25 => ?_) (fun c25 => ?_)
                · refine wq_tin (n := 4) 138 dX13_size_31 rfl c25 (by decide) (by decide) rfl (by decide) ?_
                  refine wq_aload_n dX13_size_138 0 rfl rfl ?_
                  refine g_26_0 ln_RX13_9 dX13_size_139 ?_
                  refine wq_iload_n dX13_size_142 1 rfl rfl ?_
                  refine wq_iconst dX13_size_143 ?_
                  refine wq_isub dX13_size_144 ?_
                  refine wq_grd (fun g24 => ?_)
                  refine wq_iald (k := 27) (i := 0) rfl (by decide) rfl rfl (m := 16860) g24 (Nat.le_of_ble_eq_true rfl) dX13_size_145 ?_
                  exact wq_iret rfl rfl dX13_size_146
                · skip
                  refine WQ.split (fun c27 => ?_) (fun c27 => ?_)
                  · refine wq_tin (n := 5) 138 dX13_size_31 rfl c27 (by decide) (by decide) rfl (by decide) ?_
                    refine wq_aload_n dX13_size_138 0 rfl rfl ?_
                    refine g_26_0 ln_RX13_9 dX13_size_139 ?_
                    refine wq_iload_n dX13_size_142 1 rfl rfl ?_
                    refine wq_iconst dX13_size_143 ?_
                    refine wq_isub dX13_size_144 ?_
                    refine wq_grd (fun g26 => ?_)
                    refine wq_iald (k := 27) (i := 0) rfl (by decide) rfl rfl (m := 16860) g26 (Nat.le_of_ble_eq_true rfl) dX13_size_145 ?_
                    exact wq_iret rfl rfl dX13_size_146
                  · skip
                    refine WQ.split (fun c29 => ?_) (fun c29 => ?_)
                    · refine wq_tin (n := 6) 138 dX13_size_31 rfl c29 (by decide) (by decide) rfl (by decide) ?_
                      refine wq_aload_n dX13_size_138 0 rfl rfl ?_
                      refine g_26_0 ln_RX13_9 dX13_size_139 ?_
                      refine wq_iload_n dX13_size_142 1 rfl rfl ?_
                      refine wq_iconst dX13_size_143 ?_
                      refine wq_isub dX13_size_144 ?_
                      refine wq_grd (fun g28 => ?_)
                      refine wq_iald (k := 27) (i := 0) rfl (by decide) rfl rfl (m := 16860) g28 (Nat.le_of_ble_eq_true rfl) dX13_size_145 ?_
                      exact wq_iret rfl rfl dX13_size_146
                    · skip
                      refine WQ.split (fun c33 => ?_) (fun c33 => ?_)
                      · refine wq_tin (n := 7) 113 dX13_size_31 rfl c33 (by decide) (by decide) rfl (by decide) ?_
                        refine wq_aload_n dX13_size_113 0 rfl rfl ?_
                        refine wq_cVi M_M_longestBody (R_M_longestBody Z _) ob_26 rfl rfl (by decide) (by decide) (Nat.le_of_ble_eq_true rfl) ln_RX13_434 dX13_size_114 (fun gr30 x32 J31 => ?_)
                        exact wq_iret rfl rfl dX13_size_117
                      · skip
                        refine WQ.split (fun c37 => ?_) (fun c37 => ?_)
                        · refine wq_tin (n := 8) 118 dX13_size_31 rfl c37 (by decide) (by decide) rfl (by decide) ?_
                          refine wq_aload_n dX13_size_118 0 rfl rfl ?_
                          refine wq_cVi M_M_deepNow (R_M_deepNow Z _) ob_26 rfl rfl (by decide) (by decide) (Nat.le_of_ble_eq_true rfl) ln_RX13_437 dX13_size_119 (fun gr34 x36 J35 => ?_)
                          exact wq_iret rfl rfl dX13_size_122
                        · skip
                          refine WQ.split (fun c41 => ?_) (fun c41 => ?_)
                          · refine wq_tin (n := 9) 123 dX13_size_31 rfl c41 (by decide) (by decide) rfl (by decide) ?_
                            refine wq_aload_n dX13_size_123 0 rfl rfl ?_
                            refine wq_cVi M_M_unlike (R_M_unlike Z _) ob_26 rfl rfl (by decide) (by decide) (Nat.le_of_ble_eq_true rfl) ln_RX13_440 dX13_size_124 (fun gr38 x40 J39 => ?_)
                            exact wq_iret rfl rfl dX13_size_127
                          · skip
                            refine WQ.split (fun c45 => ?_) (fun c45 => ?_)
                            · refine wq_tin (n := 10) 128 dX13_size_31 rfl c45 (by decide) (by decide) rfl (by decide) ?_
                              refine wq_aload_n dX13_size_128 0 rfl rfl ?_
                              refine wq_cVi M_M_worthNow (R_M_worthNow Z _) ob_26 rfl rfl (by decide) (by decide) (Nat.le_of_ble_eq_true rfl) ln_RX13_443 dX13_size_129 (fun gr42 x44 J43 => ?_)
                              exact wq_iret rfl rfl dX13_size_132
                            · skip
                              refine WQ.split (fun c46 => ?_) (fun c46 => ?_)
                              · refine wq_tin (n := 11) 133 dX13_size_31 rfl c46 (by decide) (by decide) rfl (by decide) ?_
                                refine wq_aload_n dX13_size_133 0 rfl rfl ?_
                                refine g_26_6 ln_RX13_342 dX13_size_134 ?_
                                exact wq_iret rfl rfl dX13_size_137
                              · skip
                                refine wq_tout 138 dX13_size_31 rfl (by omega) (by decide) ?_
                                refine wq_aload_n dX13_size_138 0 rfl rfl ?_
                                refine g_26_0 ln_RX13_9 dX13_size_139 ?_
                                refine wq_iload_n dX13_size_142 1 rfl rfl ?_
                                refine wq_iconst dX13_size_143 ?_
                                refine wq_isub dX13_size_144 ?_
                                refine wq_grd (fun g47 => ?_)
                                refine wq_iald (k := 27) (i := 0) rfl (by decide) rfl rfl (m := 16860) g47 (Nat.le_of_ble_eq_true rfl) dX13_size_145 ?_
                                exact wq_iret rfl rfl dX13_size_146
      · refine wq_iconst dX13_size_28 ?_
        exact wq_iret rfl rfl dX13_size_29) (fun hj49 => ?_)
  refine WQ.both ((w32 x4) = 0) ?_
  refine wq_if_ne 20 dX13_size_13 (by decide) rfl (fun c50 => ?_) (fun c50 => ?_)
  · refine wq_iconst dX13_size_16 ?_
    refine wq_goto 21 dX13_size_17 (by decide) ?_
    exact WQ.top (if_pos c50) hj49
  · refine wq_iconst dX13_size_20 ?_
    exact WQ.top (if_neg c50) hj49

noncomputable def f_M_noRule (a1 : Int) (I : Mem) : Option ((Int) × Mem) :=
bnd (f_M_in a1 0 39 I) fun x3 J2 =>
bnd (f_M_fails (if (w32 x3) = 0 then 1 else 0) 1 J2) fun x6 J5 =>
if x6 = 0 ∨ x6 = 1 then
some (x6, J5)
else none
set_option maxRecDepth 20000 in
theorem R_M_noRule (Z : ZT) (a1 : Int) (I : Mem) (r : Int) (J : Mem) (hf : f_M_noRule a1 I = some (r, J)) : Runs Z yX13_noRule cX13_noRule 2 (some .boolean) 2 [vr Z 26 0, vi a1] I (some (vi r), J) := by
  refine Runs.of (rv := fun x => some (vi x)) (by decide +kernel) (Nat.le_of_ble_eq_true rfl) hf (fun gr => ?_)
  unfold f_M_noRule
  refine WQ.loc [0, 1] (lv' := [(0, vr Z 26 0), (1, vi a1)]) rfl ?_
  refine wq_aload_n dX13_noRule_0 0 rfl rfl ?_
  refine wq_iload_n dX13_noRule_1 1 rfl rfl ?_
  refine wq_iconst dX13_noRule_2 ?_
  refine wq_bipush dX13_noRule_3 (by decide) ?_
  refine wq_cSi M_M_in (R_M_in Z a1 0 39 _) rfl rfl rfl (by decide) (by decide) (Nat.le_of_ble_eq_true rfl) ln_RX13_224 dX13_noRule_5 (fun gr1 x3 J2 => ?_)
  refine WQ.via 16 [vi (if (w32 x3) = 0 then 1 else 0), vr Z 26 0] (by
      refine wq_iconst dX13_noRule_16 ?_
      refine wq_cVi M_M_fails (R_M_fails Z (if (w32 x3) = 0 then 1 else 0) 1 _) ob_26 rfl rfl (by decide) (by decide) (Nat.le_of_ble_eq_true rfl) ln_RX13_428 dX13_noRule_17 (fun gr4 x6 J5 => ?_)
      refine wq_grd (fun g7 => ?_)
      exact wq_zret rfl g7 rfl dX13_noRule_20) (fun hj8 => ?_)
  refine WQ.both ((w32 x3) = 0) ?_
  refine wq_if_ne 15 dX13_noRule_8 (by decide) rfl (fun c9 => ?_) (fun c9 => ?_)
  · refine wq_iconst dX13_noRule_11 ?_
    refine wq_goto 16 dX13_noRule_12 (by decide) ?_
    exact WQ.top (if_pos c9) hj8
  · refine wq_iconst dX13_noRule_15 ?_
    exact WQ.top (if_neg c9) hj8

noncomputable def f_M_noSuchRule_j19    (I : Mem) : Option ((Int) × Mem) :=
bnd (f_M_fails 1 1 I) fun x16 J15 =>
if x16 = 0 ∨ x16 = 1 then
some (x16, J15)
else none

noncomputable def f_M_noSuchRule (a1 : Int) (I : Mem) : Option ((Int) × Mem) :=
bnd (f_M_in a1 0 39 I) fun x3 J2 =>
if (w32 x3) = 0 then
f_M_noSuchRule_j19 J2
else
bnd (f_M_isHere a1 J2) fun x7 J6 =>
if (w32 x7) = 0 then
f_M_noSuchRule_j19 J6
else
bnd (f_M_fails 0 1 J6) fun x10 J9 =>
if x10 = 0 ∨ x10 = 1 then
some (x10, J9)
else none
set_option maxRecDepth 20000 in
theorem R_M_noSuchRule (Z : ZT) (a1 : Int) (I : Mem) (r : Int) (J : Mem) (hf : f_M_noSuchRule a1 I = some (r, J)) : Runs Z yX13_noSuchRule cX13_noSuchRule 2 (some .boolean) 3 [vr Z 26 0, vi a1] I (some (vi r), J) := by
  refine Runs.of (rv := fun x => some (vi x)) (by decide +kernel) (Nat.le_of_ble_eq_true rfl) hf (fun gr => ?_)
  unfold f_M_noSuchRule
  refine WQ.loc [0, 1] (lv' := [(0, vr Z 26 0), (1, vi a1)]) rfl ?_
  refine wq_aload_n dX13_noSuchRule_0 0 rfl rfl ?_
  refine wq_iload_n dX13_noSuchRule_1 1 rfl rfl ?_
  refine wq_iconst dX13_noSuchRule_2 ?_
  refine wq_bipush dX13_noSuchRule_3 (by decide) ?_
  refine wq_cSi M_M_in (R_M_in Z a1 0 39 _) rfl rfl rfl (by decide) (by decide) (Nat.le_of_ble_eq_true rfl) ln_RX13_224 dX13_noSuchRule_5 (fun gr1 x3 J2 => ?_)
  have hj4 : ∀ (gr19 : Nat → Nat)   (J18 : Mem), WQ Z (yX13_noSuchRule, cX13_noSuchRule, 2, some .boolean, 3) I gr19 19 [] [vr Z 26 0] J18 (f_M_noSuchRule_j19 J18) (fun b K => some (.inl ((fun x => some (vi x)) b), K)) := by
    intro gr19 J18
    unfold f_M_noSuchRule_j19
    refine wq_iconst dX13_noSuchRule_19 ?_
    refine wq_goto 24 dX13_noSuchRule_20 (by decide) ?_
    refine wq_iconst dX13_noSuchRule_24 ?_
    refine wq_cVi M_M_fails (R_M_fails Z 1 1 _) ob_26 rfl rfl (by decide) (by decide) (Nat.le_of_ble_eq_true rfl) ln_RX13_428 dX13_noSuchRule_25 (fun gr20 x22 J21 => ?_)
    refine wq_grd (fun g23 => ?_)
    exact wq_zret rfl g23 rfl dX13_noSuchRule_28
  refine wq_if_eq 19 dX13_noSuchRule_8 (by decide) rfl (fun c13 => ?_) (fun c13 => ?_)
  · exact WQ.loc [] rfl (hj4 _   _)
  · refine wq_aload_n dX13_noSuchRule_11 0 rfl rfl ?_
    refine wq_iload_n dX13_noSuchRule_12 1 rfl rfl ?_
    refine wq_cVi M_M_isHere (R_M_isHere Z a1 _) ob_26 rfl rfl (by decide) (by decide) (Nat.le_of_ble_eq_true rfl) ln_RX13_111 dX13_noSuchRule_13 (fun gr5 x7 J6 => ?_)
    refine wq_if_ne 23 dX13_noSuchRule_16 (by decide) rfl (fun c12 => ?_) (fun c12 => ?_)
    · exact WQ.loc [] rfl (hj4 _   _)
    · refine wq_iconst dX13_noSuchRule_23 ?_
      refine wq_iconst dX13_noSuchRule_24 ?_
      refine wq_cVi M_M_fails (R_M_fails Z 0 1 _) ob_26 rfl rfl (by decide) (by decide) (Nat.le_of_ble_eq_true rfl) ln_RX13_428 dX13_noSuchRule_25 (fun gr8 x10 J9 => ?_)
      refine wq_grd (fun g11 => ?_)
      exact wq_zret rfl g11 rfl dX13_noSuchRule_28

theorem M_M_noRule : MwV yX13_noRule cX13_noRule 2 (some .boolean) 1 := ⟨li_9 35 (by decide +kernel) (by decide +kernel), li_9 34 (by decide +kernel) (by decide +kernel), lw_in 122 (by decide +kernel) (by decide +kernel), li_1 16 (by decide +kernel) (by decide +kernel), by decide +kernel⟩
theorem ln_RX13_446 : Cond.methodLink RX13 446 yX13_noRule ∈ lw_good := li_9 32 (by decide +kernel) (by decide +kernel)
noncomputable def f_M_isRule (a1 : Int) (I : Mem) : Option ((Int) × Mem) :=
ltI (sI I 26 0 7 0) fun J1 =>
bnd (f_M_noRule a1 J1) fun x4 J3 =>
if (w32 x4) = 0 then
bnd (f_M_isHere a1 J3) fun x7 J6 =>
if (w32 x7) = 0 then
some (0, J6)
else
some (1, J6)
else
some (0, J3)
set_option maxRecDepth 20000 in
theorem R_M_isRule (Z : ZT) (a1 : Int) (I : Mem) (r : Int) (J : Mem) (hf : f_M_isRule a1 I = some (r, J)) : Runs Z yX13_isRule cX13_isRule 2 (some .boolean) 3 [vr Z 26 0, vi a1] I (some (vi r), J) := by
  refine Runs.of (rv := fun x => some (vi x)) (by decide +kernel) (Nat.le_of_ble_eq_true rfl) hf (fun gr => ?_)
  unfold f_M_isRule
  refine WQ.loc [0, 1] (lv' := [(0, vr Z 26 0), (1, vi a1)]) rfl ?_
  refine wq_aload_n dX13_isRule_0 0 rfl rfl ?_
  refine wq_iconst dX13_isRule_1 ?_
  refine p_26_7 ln_RX13_100 dX13_isRule_2 (fun J1 => ?_)
  refine wq_aload_n dX13_isRule_5 0 rfl rfl ?_
  refine wq_iload_n dX13_isRule_6 1 rfl rfl ?_
  refine wq_cVi M_M_noRule (R_M_noRule Z a1 _) ob_26 rfl rfl (by decide) (by decide) (Nat.le_of_ble_eq_true rfl) ln_RX13_446 dX13_isRule_7 (fun gr2 x4 J3 => ?_)
  refine wq_if_ne 25 dX13_isRule_10 (by decide) rfl (fun c9 => ?_) (fun c9 => ?_)
  · refine wq_aload_n dX13_isRule_13 0 rfl rfl ?_
    refine wq_iload_n dX13_isRule_14 1 rfl rfl ?_
    refine wq_cVi M_M_isHere (R_M_isHere Z a1 _) ob_26 rfl rfl (by decide) (by decide) (Nat.le_of_ble_eq_true rfl) ln_RX13_111 dX13_isRule_15 (fun gr5 x7 J6 => ?_)
    refine wq_if_eq 25 dX13_isRule_18 (by decide) rfl (fun c8 => ?_) (fun c8 => ?_)
    · refine wq_iconst dX13_isRule_25 ?_
      exact wq_zret rfl (by decide) rfl dX13_isRule_26
    · refine wq_iconst dX13_isRule_21 ?_
      refine wq_goto 26 dX13_isRule_22 (by decide) ?_
      exact wq_zret rfl (by decide) rfl dX13_isRule_26
  · refine wq_iconst dX13_isRule_25 ?_
    exact wq_zret rfl (by decide) rfl dX13_isRule_26

theorem ln_RX13_83 : Cond.fieldLink RX13 83 RX13 "comes" "[I" ∈ lw_good := li_7 95 (by decide +kernel) (by decide +kernel)
noncomputable def f_M_comesBy_w2 (v1 : Int) (v2 : Int) (s : Int) (I : Mem) : Option (((Int) ⊕ (Unit)) × Mem) :=
bnd (f_M_many v1 I) fun x3 J2 =>
if (w32 s) < (w32 x3) then
bnd (f_M_at v1 s J2) fun x6 J5 =>
if 0 ≤ (w32 x6) ∧ (w32 x6) < 66 then
ltI (sI J5 27 21 (w32 x6).toNat ((J5 27 21 (w32 x6).toNat) + v2)) fun J8 =>
some (.inl (s + 1), J8)
else none
else
some (.inr (), J2)

noncomputable def f_M_comesBy (a1 : Int) (a2 : Int) (I : Mem) : Option ((Unit) × Mem) :=
bnd (whl (f_M_comesBy_w2 a1 a2) 0 I) fun r26 J27 =>
some ((), J27)
set_option maxRecDepth 20000 in
theorem R_M_comesBy (Z : ZT) (a1 : Int) (a2 : Int) (I : Mem) (r : Unit) (J : Mem) (hf : f_M_comesBy a1 a2 I = some (r, J)) : Runs Z yX13_comesBy cX13_comesBy 4 (none) 2 [vr Z 26 0, vi a1, vi a2] I (none, J) := by
  refine Runs.of (rv := fun _ => none) (by decide +kernel) (Nat.le_of_ble_eq_true rfl) hf (fun gr => ?_)
  unfold f_M_comesBy
  refine WQ.loc [0, 1, 2] (lv' := [(0, vr Z 26 0), (1, vi a1), (2, vi a2)]) rfl ?_
  refine wq_iconst dX13_comesBy_0 ?_
  refine wq_istore_n (lv' := [(3, vi 0), (0, vr Z 26 0), (1, vi a1), (2, vi a2)]) dX13_comesBy_1 rfl (by decide) rfl ?_
  refine WQ.loc [1, 2, 3, 0] (lv' := [(0, vr Z 26 0), (1, vi a1), (2, vi a2), (3, vi 0)]) rfl ?_
  refine wq_loopS (fun s16 => [(0, vr Z 26 0), (1, vi a1), (2, vi a2), (3, vi s16)]) 32 (fun _ => []) (fun κ10 bk11 ex12 gr15 s16 J14 => ?_) (fun gr28 r26 J27 => ?_) gr _ rfl
  · unfold f_M_comesBy_w2
    refine wq_iload_n dX13_comesBy_2 3 rfl rfl ?_
    refine wq_aload_n dX13_comesBy_3 0 rfl rfl ?_
    refine wq_iload_n dX13_comesBy_4 1 rfl rfl ?_
    refine wq_cVi M_M_many (R_M_many Z a1 _) ob_26 rfl rfl (by decide) (by decide) (Nat.le_of_ble_eq_true rfl) ln_RX13_103 dX13_comesBy_5 (fun gr17 x19 J18 => ?_)
    refine wq_icmp_ge 32 dX13_comesBy_8 (by decide) rfl rfl (fun c25 => ?_) (fun c25 => ?_)
    · refine wq_aload_n dX13_comesBy_11 0 rfl rfl ?_
      refine g_26_41 ln_RX13_83 dX13_comesBy_12 ?_
      refine wq_aload_n dX13_comesBy_15 0 rfl rfl ?_
      refine wq_iload_n dX13_comesBy_16 1 rfl rfl ?_
      refine wq_iload_n dX13_comesBy_17 3 rfl rfl ?_
      refine wq_cVi M_M_at (R_M_at Z a1 s16 _) ob_26 rfl rfl (by decide) (by decide) (Nat.le_of_ble_eq_true rfl) ln_RX13_119 dX13_comesBy_18 (fun gr20 x22 J21 => ?_)
      refine wq_dup2 dX13_comesBy_21 rfl rfl ?_
      refine wq_grd (fun g23 => ?_)
      refine wq_iald (k := 27) (i := 21) rfl (by decide) rfl rfl (m := 66) g23 (Nat.le_of_ble_eq_true rfl) dX13_comesBy_22 ?_
      refine wq_iload_n dX13_comesBy_23 2 rfl rfl ?_
      refine wq_iadd dX13_comesBy_24 ?_
      refine wq_iast (k := 27) (i := 21) (fun _ _ => rfl) (by decide) rfl rfl (m := 66) g23 (Nat.le_of_ble_eq_true rfl) (by decide) (by decide) (by decide) dX13_comesBy_25 (fun J24 => ?_)
      refine wq_iinc (lv' := [(3, vi (s16 + 1)), (0, vr Z 26 0), (1, vi a1), (2, vi a2)]) dX13_comesBy_26 3 rfl (by decide) rfl ?_
      refine wq_goto 2 dX13_comesBy_29 (by decide) ?_
      exact WQ.loc [1, 2, 3, 0] rfl (bk11 _ _ _)
    · exact WQ.loc [] rfl (ex12 _ _ _)
  · exact wq_vret rfl rfl dX13_comesBy_32
