section
theorem ln_RX13_49 : Cond.fieldLink RX13 49 RX13 "found" "[I" ∈ lw_good := li_7 69 (by decide +kernel) (by decide +kernel)
theorem M_M_pair : MwS yX13_pair cX13_pair 2 (some .int) 2 := ⟨li_8 151 (by decide +kernel) (by decide +kernel), li_8 150 (by decide +kernel) (by decide +kernel), li_1 16 (by decide +kernel) (by decide +kernel), by decide +kernel⟩
theorem ln_RX13_52 : Cond.fieldLink RX13 52 RX13 "order" "[I" ∈ lw_good := li_7 70 (by decide +kernel) (by decide +kernel)
theorem ln_RX13_150 : Cond.fieldLink RX13 150 RX13 "orders0" "I" ∈ lw_good := li_7 72 (by decide +kernel) (by decide +kernel)
theorem ln_RX13_147 : Cond.methodLink RX13 147 yX13_pair ∈ lw_good := li_8 149 (by decide +kernel) (by decide +kernel)
noncomputable def f_M_countsIn_j101 (v1 : Int) (v2 : Int) (v3 : Int) (v4 : Int) (v5 : Int)   (I : Mem) : Option (((Int × Int) ⊕ (Unit)) × Mem) :=
ltI (sI I 26 0 18 ((I 26 0 18) + 1)) fun J29 =>
bnd (f_M_pair v4 v5 J29) fun x32 J31 =>
if 0 ≤ (w32 x32) ∧ (w32 x32) < 4356 then
ltI (sI J31 27 11 (w32 x32).toNat ((J31 27 11 (w32 x32).toNat) + 1)) fun J34 =>
some (.inl (v2, (v3 + 1)), J34)
else none

noncomputable def f_M_countsIn_j62 (v1 : Int) (v3 : Int) (v4 : Int) (v5 : Int)  (e0 : Int) (I : Mem) : Option (((Int × Int) ⊕ (Unit)) × Mem) :=
if (w32 e0) = 0 then
some (.inl (e0, (v3 + 1)), I)
else
bnd (f_M_pair v4 v5 I) fun x20 J19 =>
if 0 ≤ (w32 x20) ∧ (w32 x20) < 4356 then
if (w32 (J19 27 11 (w32 x20).toNat)) = 0 then
bnd (f_M_pair v4 v5 J19) fun x25 J24 =>
if 0 ≤ (w32 x25) ∧ (w32 x25) < 4356 then
ltI (sI J24 27 12 (w32 x25).toNat (J24 26 0 18)) fun J27 =>
f_M_countsIn_j101 v1 e0 v3 v4 v5 J27
else none
else
f_M_countsIn_j101 v1 e0 v3 v4 v5 J19
else none

noncomputable def f_M_countsIn_j57 (v1 : Int) (v3 : Int) (v4 : Int) (v5 : Int)   (I : Mem) : Option (((Int × Int) ⊕ (Unit)) × Mem) :=
f_M_countsIn_j62 v1 v3 v4 v5 1 I

noncomputable def f_M_countsIn_w4 (v1 : Int) (s : Int × Int) (I : Mem) : Option (((Int × Int) ⊕ (Unit)) × Mem) :=
bnd (f_M_many v1 I) fun x3 J2 =>
if (w32 (s.2 + 1)) < (w32 x3) then
bnd (f_M_at v1 s.2 J2) fun x6 J5 =>
bnd (f_M_at v1 (s.2 + 1) J5) fun x9 J8 =>
if (w32 x6) = (w32 x9) then
if (w32 s.1) = 0 then
f_M_countsIn_j57 v1 s.2 x6 x9 J8
else
bnd (f_M_at v1 (s.2 - 1) J8) fun x14 J13 =>
if (w32 x14) = (w32 x6) then
f_M_countsIn_j62 v1 s.2 x6 x9 0 J13
else
f_M_countsIn_j57 v1 s.2 x6 x9 J13
else
f_M_countsIn_j57 v1 s.2 x6 x9 J8
else
some (.inr (), J2)

noncomputable def f_M_countsIn (a1 : Int) (I : Mem) : Option ((Unit) × Mem) :=
bnd (whl (f_M_countsIn_w4 a1) (0, 0) I) fun r118 J119 =>
some ((), J119)
set_option maxRecDepth 20000 in
theorem R_M_countsIn (Z : ZT) (a1 : Int) (I : Mem) (r : Unit) (J : Mem) (hf : f_M_countsIn a1 I = some (r, J)) : Runs Z yX13_countsIn cX13_countsIn 6 (none) 2 [vr Z 26 0, vi a1] I (none, J) := by
  refine Runs.of (rv := fun _ => none) (by decide +kernel) (Nat.le_of_ble_eq_true rfl) hf (fun gr => ?_)
  unfold f_M_countsIn
  refine WQ.loc [0, 1] (lv' := [(0, vr Z 26 0), (1, vi a1)]) rfl ?_
  refine wq_iconst dX13_countsIn_0 ?_
  refine wq_istore_n (lv' := [(2, vi 0), (0, vr Z 26 0), (1, vi a1)]) dX13_countsIn_1 rfl (by decide) rfl ?_
  refine wq_iconst dX13_countsIn_2 ?_
  refine wq_istore_n (lv' := [(3, vi 0), (2, vi 0), (0, vr Z 26 0), (1, vi a1)]) dX13_countsIn_3 rfl (by decide) rfl ?_
  refine WQ.loc [2, 3, 1, 0] (lv' := [(0, vr Z 26 0), (1, vi a1), (2, vi 0), (3, vi 0)]) rfl ?_
  refine wq_loopS (fun s75 => [(0, vr Z 26 0), (1, vi a1), (2, vi s75.1), (3, vi s75.2)]) 133 (fun _ => []) (fun κ69 bk70 ex71 gr74 s75 J73 => ?_) (fun gr120 r118 J119 => ?_) gr _ rfl
  · unfold f_M_countsIn_w4
    refine wq_iload_n dX13_countsIn_4 3 rfl rfl ?_
    refine wq_iconst dX13_countsIn_5 ?_
    refine wq_iadd dX13_countsIn_6 ?_
    refine wq_aload_n dX13_countsIn_7 0 rfl rfl ?_
    refine wq_iload_n dX13_countsIn_8 1 rfl rfl ?_
    refine wq_cVi M_M_many (R_M_many Z a1 _) ob_26 rfl rfl (by decide) (by decide) (Nat.le_of_ble_eq_true rfl) ln_RX13_103 dX13_countsIn_9 (fun gr76 x78 J77 => ?_)
    refine wq_icmp_ge 133 dX13_countsIn_12 (by decide) rfl rfl (fun c117 => ?_) (fun c117 => ?_)
    · refine wq_aload_n dX13_countsIn_15 0 rfl rfl ?_
      refine wq_iload_n dX13_countsIn_16 1 rfl rfl ?_
      refine wq_iload_n dX13_countsIn_17 3 rfl rfl ?_
      refine wq_cVi M_M_at (R_M_at Z a1 s75.2 _) ob_26 rfl rfl (by decide) (by decide) (Nat.le_of_ble_eq_true rfl) ln_RX13_119 dX13_countsIn_18 (fun gr79 x81 J80 => ?_)
      refine wq_istore (lv' := [(4, vi x81), (0, vr Z 26 0), (1, vi a1), (2, vi s75.1), (3, vi s75.2)]) dX13_countsIn_21 (by decide) rfl ?_
      refine wq_aload_n dX13_countsIn_23 1 rfl rfl ?_
      refine wq_iload_n dX13_countsIn_24 2 rfl rfl ?_
      refine wq_iload_n dX13_countsIn_25 4 rfl rfl ?_
      refine wq_iconst dX13_countsIn_26 ?_
      refine wq_iadd dX13_countsIn_27 ?_
      refine wq_cVi M_M_at (R_M_at Z a1 (s75.2 + 1) _) ob_26 rfl rfl (by decide) (by decide) (Nat.le_of_ble_eq_true rfl) ln_RX13_119 dX13_countsIn_28 (fun gr82 x84 J83 => ?_)
      refine wq_istore (lv' := [(5, vi x84), (4, vi x81), (0, vr Z 26 0), (1, vi a1), (2, vi s75.1), (3, vi s75.2)]) dX13_countsIn_31 (by decide) rfl ?_
      refine wq_iload dX13_countsIn_33 1 rfl ?_
      refine wq_iload dX13_countsIn_35 0 rfl ?_
      have hj85 : ∀ (gr94 : Nat → Nat)  (hj85e0 : Int) (J93 : Mem), WQ Z (yX13_countsIn, cX13_countsIn, 6, none, 2) I gr94 62 [(0, vr Z 26 0), (1, vi a1), (3, vi s75.2), (4, vi x81), (5, vi x84)] [vi hj85e0] J93 (f_M_countsIn_j62 a1 s75.2 x81 x84 hj85e0 J93) κ69 := by
        intro gr94 hj85e0 J93
        unfold f_M_countsIn_j62
        refine wq_istore_n (lv' := [(2, vi hj85e0), (0, vr Z 26 0), (1, vi a1), (3, vi s75.2), (4, vi x81), (5, vi x84)]) dX13_countsIn_62 rfl (by decide) rfl ?_
        refine wq_iload_n dX13_countsIn_63 0 rfl rfl ?_
        refine wq_if_ne 70 dX13_countsIn_64 (by decide) rfl (fun c114 => ?_) (fun c114 => ?_)
        · refine wq_goto 127 dX13_countsIn_67 (by decide) ?_
          refine wq_iinc (lv' := [(3, vi (s75.2 + 1)), (2, vi hj85e0), (0, vr Z 26 0), (1, vi a1), (4, vi x81), (5, vi x84)]) dX13_countsIn_127 3 rfl (by decide) rfl ?_
          refine wq_goto 4 dX13_countsIn_130 (by decide) ?_
          exact WQ.loc [2, 3, 1, 0] rfl (bk70 _ _ _)
        · refine wq_aload_n dX13_countsIn_70 1 rfl rfl ?_
          refine g_26_15 ln_RX13_49 dX13_countsIn_71 ?_
          refine wq_iload dX13_countsIn_74 4 rfl ?_
          refine wq_iload dX13_countsIn_76 5 rfl ?_
          refine wq_cSi M_M_pair (R_M_pair Z x81 x84 _) rfl rfl rfl (by decide) (by decide) (Nat.le_of_ble_eq_true rfl) ln_RX13_147 dX13_countsIn_78 (fun gr95 x97 J96 => ?_)
          refine wq_grd (fun g98 => ?_)
          refine wq_iald (k := 27) (i := 11) rfl (by decide) rfl rfl (m := 4356) g98 (Nat.le_of_ble_eq_true rfl) dX13_countsIn_81 ?_
          have hj99 : ∀ (gr107 : Nat → Nat)   (J106 : Mem), WQ Z (yX13_countsIn, cX13_countsIn, 6, none, 2) I gr107 101 [(0, vr Z 26 0), (1, vi a1), (2, vi hj85e0), (3, vi s75.2), (4, vi x81), (5, vi x84)] [] J106 (f_M_countsIn_j101 a1 hj85e0 s75.2 x81 x84 J106) κ69 := by
            intro gr107 J106
            unfold f_M_countsIn_j101
            refine wq_aload_n dX13_countsIn_101 0 rfl rfl ?_
            refine wq_dup dX13_countsIn_102 rfl ?_
            refine g_26_18 ln_RX13_150 dX13_countsIn_103 ?_
            refine wq_iconst dX13_countsIn_106 ?_
            refine wq_iadd dX13_countsIn_107 ?_
            refine p_26_18 ln_RX13_150 dX13_countsIn_108 (fun J108 => ?_)
            refine wq_aload_n dX13_countsIn_111 0 rfl rfl ?_
            refine g_26_15 ln_RX13_49 dX13_countsIn_112 ?_
            refine wq_iload dX13_countsIn_115 4 rfl ?_
            refine wq_iload dX13_countsIn_117 5 rfl ?_
            refine wq_cSi M_M_pair (R_M_pair Z x81 x84 _) rfl rfl rfl (by decide) (by decide) (Nat.le_of_ble_eq_true rfl) ln_RX13_147 dX13_countsIn_119 (fun gr109 x111 J110 => ?_)
            refine wq_dup2 dX13_countsIn_122 rfl rfl ?_
            refine wq_grd (fun g112 => ?_)
            refine wq_iald (k := 27) (i := 11) rfl (by decide) rfl rfl (m := 4356) g112 (Nat.le_of_ble_eq_true rfl) dX13_countsIn_123 ?_
            refine wq_iconst dX13_countsIn_124 ?_
            refine wq_iadd dX13_countsIn_125 ?_
            refine wq_iast (k := 27) (i := 11) (fun _ _ => rfl) (by decide) rfl rfl (m := 4356) g112 (Nat.le_of_ble_eq_true rfl) (by decide) (by decide) (by decide) dX13_countsIn_126 (fun J113 => ?_)
            refine wq_iinc (lv' := [(3, vi (s75.2 + 1)), (0, vr Z 26 0), (1, vi a1), (2, vi hj85e0), (4, vi x81), (5, vi x84)]) dX13_countsIn_127 3 rfl (by decide) rfl ?_
            refine wq_goto 4 dX13_countsIn_130 (by decide) ?_
            exact WQ.loc [1, 2, 3, 0] rfl (bk70 _ _ _)
          refine wq_if_ne 101 dX13_countsIn_82 (by decide) rfl (fun c105 => ?_) (fun c105 => ?_)
          · refine wq_aload_n dX13_countsIn_85 1 rfl rfl ?_
            refine g_26_16 ln_RX13_52 dX13_countsIn_86 ?_
            refine wq_iload dX13_countsIn_89 4 rfl ?_
            refine wq_iload dX13_countsIn_91 5 rfl ?_
            refine wq_cSi M_M_pair (R_M_pair Z x81 x84 _) rfl rfl rfl (by decide) (by decide) (Nat.le_of_ble_eq_true rfl) ln_RX13_147 dX13_countsIn_93 (fun gr100 x102 J101 => ?_)
            refine wq_aload_n dX13_countsIn_96 1 rfl rfl ?_
            refine g_26_18 ln_RX13_150 dX13_countsIn_97 ?_
            refine wq_grd (fun g103 => ?_)
            refine wq_iast (k := 27) (i := 12) (fun _ _ => rfl) (by decide) rfl rfl (m := 4356) g103 (Nat.le_of_ble_eq_true rfl) (by decide) (by decide) (by decide) dX13_countsIn_100 (fun J104 => ?_)
            exact WQ.loc [1, 2, 0, 3, 4, 5] rfl (hj99 _   _)
          · exact WQ.loc [1, 2, 0, 3, 4, 5] rfl (hj99 _   _)
      have hj86 : ∀ (gr116 : Nat → Nat)   (J115 : Mem), WQ Z (yX13_countsIn, cX13_countsIn, 6, none, 2) I gr116 57 [(0, vr Z 26 0), (1, vi a1), (3, vi s75.2), (4, vi x81), (5, vi x84)] [] J115 (f_M_countsIn_j57 a1 s75.2 x81 x84 J115) κ69 := by
        intro gr116 J115
        unfold f_M_countsIn_j57
        refine wq_iconst dX13_countsIn_57 ?_
        refine wq_goto 62 dX13_countsIn_58 (by decide) ?_
        exact WQ.loc [0, 1, 2, 3, 4] rfl (hj85 _  _ _)
      refine wq_icmp_ne 57 dX13_countsIn_37 (by decide) rfl rfl (fun c92 => ?_) (fun c92 => ?_)
      · refine wq_iload_n dX13_countsIn_40 4 rfl rfl ?_
        refine wq_if_eq 57 dX13_countsIn_41 (by decide) rfl (fun c91 => ?_) (fun c91 => ?_)
        · exact WQ.loc [2, 3, 5, 1, 0] rfl (hj86 _   _)
        · refine wq_aload_n dX13_countsIn_44 2 rfl rfl ?_
          refine wq_iload_n dX13_countsIn_45 3 rfl rfl ?_
          refine wq_iload_n dX13_countsIn_46 5 rfl rfl ?_
          refine wq_iconst dX13_countsIn_47 ?_
          refine wq_isub dX13_countsIn_48 ?_
          refine wq_cVi M_M_at (R_M_at Z a1 (s75.2 - 1) _) ob_26 rfl rfl (by decide) (by decide) (Nat.le_of_ble_eq_true rfl) ln_RX13_119 dX13_countsIn_49 (fun gr87 x89 J88 => ?_)
          refine wq_iload dX13_countsIn_52 1 rfl ?_
          refine wq_icmp_eq 61 dX13_countsIn_54 (by decide) rfl rfl (fun c90 => ?_) (fun c90 => ?_)
          · refine wq_iconst dX13_countsIn_61 ?_
            exact WQ.loc [2, 3, 5, 1, 0] rfl (hj85 _  _ _)
          · exact WQ.loc [2, 3, 5, 1, 0] rfl (hj86 _   _)
      · exact WQ.loc [2, 3, 5, 1, 0] rfl (hj86 _   _)
    · exact WQ.loc [] rfl (ex71 _ _ _)
  · exact wq_vret rfl rfl dX13_countsIn_133

theorem ln_RX13_55 : Cond.fieldLink RX13 55 RX13 "keeper" "[I" ∈ lw_good := li_7 71 (by decide +kernel) (by decide +kernel)
theorem M_M_isAlone : MwV yX13_isAlone cX13_isAlone 2 (some .boolean) 1 := ⟨li_8 148 (by decide +kernel) (by decide +kernel), li_8 147 (by decide +kernel) (by decide +kernel), lw_in 92 (by decide +kernel) (by decide +kernel), li_1 16 (by decide +kernel) (by decide +kernel), by decide +kernel⟩
theorem M_M_countsIn : MwV yX13_countsIn cX13_countsIn 6 (none) 1 := ⟨li_8 155 (by decide +kernel) (by decide +kernel), li_8 154 (by decide +kernel) (by decide +kernel), lw_in 93 (by decide +kernel) (by decide +kernel), li_1 16 (by decide +kernel) (by decide +kernel), by decide +kernel⟩
theorem ln_RX13_156 : Cond.methodLink RX13 156 yX13_countsIn ∈ lw_good := li_8 152 (by decide +kernel) (by decide +kernel)
theorem ln_RX13_153 : Cond.methodLink RX13 153 yX13_isAlone ∈ lw_good := li_8 145 (by decide +kernel) (by decide +kernel)
noncomputable def f_M_laysPairs_w2  (s : Int) (I : Mem) : Option (((Int) ⊕ (Unit)) × Mem) :=
if (w32 s) < 4356 then
if 0 ≤ (w32 s) ∧ (w32 s) < 4356 then
ltI (sI I 27 11 (w32 s).toNat 0) fun J2 =>
ltI (sI J2 27 13 (w32 s).toNat (-1)) fun J3 =>
some (.inl (s + 1), J3)
else none
else
some (.inr (), I)

noncomputable def f_M_laysPairs_j69 (v1 : Int)  (e0 : Int) (I : Mem) : Option (((Int) ⊕ (Unit)) × Mem) :=
if (w32 e0) = (-1) then
bnd (f_M_countsIn v1 I) fun _ J38 =>
some (.inl (v1 + 1), J38)
else
if 0 ≤ (w32 e0) ∧ (w32 e0) < 4356 then
if (w32 (I 27 13 (w32 e0).toNat)) = (-1) then
ltI (sI I 27 13 (w32 e0).toNat (v1 - 1)) fun J35 =>
some (.inl (v1 + 1), J35)
else
some (.inl (v1 + 1), I)
else none

noncomputable def f_M_laysPairs_w36  (s : Int) (I : Mem) : Option (((Int) ⊕ (Unit)) × Mem) :=
if (w32 s) < 41 then
bnd (f_M_isAlone s I) fun x22 J21 =>
if (w32 x22) = 0 then
f_M_laysPairs_j69 s (-1) J21
else
bnd (f_M_at s 0 J21) fun x26 J25 =>
bnd (f_M_at s 1 J25) fun x29 J28 =>
bnd (f_M_pair x26 x29 J28) fun x32 J31 =>
f_M_laysPairs_j69 s x32 J31
else
some (.inr (), I)

noncomputable def f_M_laysPairs  (I : Mem) : Option ((Unit) × Mem) :=
bnd (whl (f_M_laysPairs_w2) 0 I) fun r16 J17 =>
ltI (sI J17 26 0 18 0) fun J19 =>
bnd (whl (f_M_laysPairs_w36) 0 J19) fun r82 J83 =>
some ((), J83)
set_option maxRecDepth 20000 in
theorem R_M_laysPairs (Z : ZT)  (I : Mem) (r : Unit) (J : Mem) (hf : f_M_laysPairs I = some (r, J)) : Runs Z yX13_laysPairs cX13_laysPairs 3 (none) 3 [vr Z 26 0] I (none, J) := by
  refine Runs.of (rv := fun _ => none) (by decide +kernel) (Nat.le_of_ble_eq_true rfl) hf (fun gr => ?_)
  unfold f_M_laysPairs
  refine WQ.loc [0] (lv' := [(0, vr Z 26 0)]) rfl ?_
  refine wq_iconst dX13_laysPairs_0 ?_
  refine wq_istore_n (lv' := [(1, vi 0), (0, vr Z 26 0)]) dX13_laysPairs_1 rfl (by decide) rfl ?_
  refine WQ.loc [1, 0] (lv' := [(0, vr Z 26 0), (1, vi 0)]) rfl ?_
  refine wq_loopS (fun s11 => [(0, vr Z 26 0), (1, vi s11)]) 29 (fun _ => [(0, vr Z 26 0)]) (fun κ5 bk6 ex7 gr10 s11 J9 => ?_) (fun gr18 r16 J17 => ?_) gr _ rfl
  · unfold f_M_laysPairs_w2
    refine wq_iload_n dX13_laysPairs_2 1 rfl rfl ?_
    refine wq_sipush dX13_laysPairs_3 (by decide) ?_
    refine wq_icmp_ge 29 dX13_laysPairs_6 (by decide) rfl rfl (fun c15 => ?_) (fun c15 => ?_)
    · refine wq_aload_n dX13_laysPairs_9 0 rfl rfl ?_
      refine g_26_15 ln_RX13_49 dX13_laysPairs_10 ?_
      refine wq_iload_n dX13_laysPairs_13 1 rfl rfl ?_
      refine wq_iconst dX13_laysPairs_14 ?_
      refine wq_grd (fun g12 => ?_)
      refine wq_iast (k := 27) (i := 11) (fun _ _ => rfl) (by decide) rfl rfl (m := 4356) g12 (Nat.le_of_ble_eq_true rfl) (by decide) (by decide) (by decide) dX13_laysPairs_15 (fun J13 => ?_)
      refine wq_aload_n dX13_laysPairs_16 0 rfl rfl ?_
      refine g_26_17 ln_RX13_55 dX13_laysPairs_17 ?_
      refine wq_iload_n dX13_laysPairs_20 1 rfl rfl ?_
      refine wq_iconst dX13_laysPairs_21 ?_
      refine wq_iast (k := 27) (i := 13) (fun _ _ => rfl) (by decide) rfl rfl (m := 4356) g12 (Nat.le_of_ble_eq_true rfl) (by decide) (by decide) (by decide) dX13_laysPairs_22 (fun J14 => ?_)
      refine wq_iinc (lv' := [(1, vi (s11 + 1)), (0, vr Z 26 0)]) dX13_laysPairs_23 1 rfl (by decide) rfl ?_
      refine wq_goto 2 dX13_laysPairs_26 (by decide) ?_
      exact WQ.loc [1, 0] rfl (bk6 _ _ _)
    · exact WQ.loc [0] rfl (ex7 _ _ _)
  · refine wq_aload_n dX13_laysPairs_29 0 rfl rfl ?_
    refine wq_iconst dX13_laysPairs_30 ?_
    refine p_26_18 ln_RX13_150 dX13_laysPairs_31 (fun J19 => ?_)
    refine wq_iconst dX13_laysPairs_34 ?_
    refine wq_istore_n (lv' := [(1, vi 0), (0, vr Z 26 0)]) dX13_laysPairs_35 rfl (by decide) rfl ?_
    refine WQ.loc [1, 0] (lv' := [(0, vr Z 26 0), (1, vi 0)]) rfl ?_
    refine wq_loopS (fun s57 => [(0, vr Z 26 0), (1, vi s57)]) 108 (fun _ => []) (fun κ51 bk52 ex53 gr56 s57 J55 => ?_) (fun gr84 r82 J83 => ?_) gr18 _ rfl
    · unfold f_M_laysPairs_w36
      refine wq_iload_n dX13_laysPairs_36 1 rfl rfl ?_
      refine wq_bipush dX13_laysPairs_37 (by decide) ?_
      refine wq_icmp_ge 108 dX13_laysPairs_39 (by decide) rfl rfl (fun c81 => ?_) (fun c81 => ?_)
      · refine wq_aload_n dX13_laysPairs_42 0 rfl rfl ?_
        refine wq_iload_n dX13_laysPairs_43 1 rfl rfl ?_
        refine wq_cVi M_M_isAlone (R_M_isAlone Z s57 _) ob_26 rfl rfl (by decide) (by decide) (Nat.le_of_ble_eq_true rfl) ln_RX13_153 dX13_laysPairs_44 (fun gr58 x60 J59 => ?_)
        have hj61 : ∀ (gr73 : Nat → Nat)  (hj61e0 : Int) (J72 : Mem), WQ Z (yX13_laysPairs, cX13_laysPairs, 3, none, 3) I gr73 69 [(0, vr Z 26 0), (1, vi s57)] [vi hj61e0] J72 (f_M_laysPairs_j69 s57 hj61e0 J72) κ51 := by
          intro gr73 hj61e0 J72
          unfold f_M_laysPairs_j69
          refine wq_istore_n (lv' := [(2, vi hj61e0), (0, vr Z 26 0), (1, vi s57)]) dX13_laysPairs_69 rfl (by decide) rfl ?_
          refine wq_iload_n dX13_laysPairs_70 0 rfl rfl ?_
          refine wq_iconst dX13_laysPairs_71 ?_
          refine wq_icmp_ne 83 dX13_laysPairs_72 (by decide) rfl rfl (fun c80 => ?_) (fun c80 => ?_)
          · refine wq_aload_n dX13_laysPairs_75 1 rfl rfl ?_
            refine wq_iload_n dX13_laysPairs_76 2 rfl rfl ?_
            refine wq_cVv M_M_countsIn (R_M_countsIn Z s57 _) ob_26 rfl rfl (by decide) (by decide) (Nat.le_of_ble_eq_true rfl) ln_RX13_156 dX13_laysPairs_77 (fun gr77 _ J78 => ?_)
            refine wq_goto 102 dX13_laysPairs_80 (by decide) ?_
            refine wq_iinc (lv' := [(1, vi (s57 + 1)), (2, vi hj61e0), (0, vr Z 26 0)]) dX13_laysPairs_102 2 rfl (by decide) rfl ?_
            refine wq_goto 36 dX13_laysPairs_105 (by decide) ?_
            exact WQ.loc [2, 0] rfl (bk52 _ _ _)
          · refine wq_aload_n dX13_laysPairs_83 1 rfl rfl ?_
            refine g_26_17 ln_RX13_55 dX13_laysPairs_84 ?_
            refine wq_iload_n dX13_laysPairs_87 0 rfl rfl ?_
            refine wq_grd (fun g74 => ?_)
            refine wq_iald (k := 27) (i := 13) rfl (by decide) rfl rfl (m := 4356) g74 (Nat.le_of_ble_eq_true rfl) dX13_laysPairs_88 ?_
            refine wq_iconst dX13_laysPairs_89 ?_
            refine wq_icmp_ne 102 dX13_laysPairs_90 (by decide) rfl rfl (fun c76 => ?_) (fun c76 => ?_)
            · refine wq_aload_n dX13_laysPairs_93 1 rfl rfl ?_
              refine g_26_17 ln_RX13_55 dX13_laysPairs_94 ?_
              refine wq_iload_n dX13_laysPairs_97 0 rfl rfl ?_
              refine wq_iload_n dX13_laysPairs_98 2 rfl rfl ?_
              refine wq_iconst dX13_laysPairs_99 ?_
              refine wq_isub dX13_laysPairs_100 ?_
              refine wq_iast (k := 27) (i := 13) (fun _ _ => rfl) (by decide) rfl rfl (m := 4356) g74 (Nat.le_of_ble_eq_true rfl) (by decide) (by decide) (by decide) dX13_laysPairs_101 (fun J75 => ?_)
              refine wq_iinc (lv' := [(1, vi (s57 + 1)), (2, vi hj61e0), (0, vr Z 26 0)]) dX13_laysPairs_102 2 rfl (by decide) rfl ?_
              refine wq_goto 36 dX13_laysPairs_105 (by decide) ?_
              exact WQ.loc [2, 0] rfl (bk52 _ _ _)
            · refine wq_iinc (lv' := [(1, vi (s57 + 1)), (2, vi hj61e0), (0, vr Z 26 0)]) dX13_laysPairs_102 2 rfl (by decide) rfl ?_
              refine wq_goto 36 dX13_laysPairs_105 (by decide) ?_
              exact WQ.loc [2, 0] rfl (bk52 _ _ _)
        refine wq_if_eq 68 dX13_laysPairs_47 (by decide) rfl (fun c71 => ?_) (fun c71 => ?_)
        · refine wq_iconst dX13_laysPairs_68 ?_
          exact WQ.loc [0, 1] rfl (hj61 _  _ _)
        · refine wq_aload_n dX13_laysPairs_50 0 rfl rfl ?_
          refine wq_iload_n dX13_laysPairs_51 1 rfl rfl ?_
          refine wq_iconst dX13_laysPairs_52 ?_
          refine wq_cVi M_M_at (R_M_at Z s57 0 _) ob_26 rfl rfl (by decide) (by decide) (Nat.le_of_ble_eq_true rfl) ln_RX13_119 dX13_laysPairs_53 (fun gr62 x64 J63 => ?_)
          refine wq_aload_n dX13_laysPairs_56 0 rfl rfl ?_
          refine wq_iload_n dX13_laysPairs_57 1 rfl rfl ?_
          refine wq_iconst dX13_laysPairs_58 ?_
          refine wq_cVi M_M_at (R_M_at Z s57 1 _) ob_26 rfl rfl (by decide) (by decide) (Nat.le_of_ble_eq_true rfl) ln_RX13_119 dX13_laysPairs_59 (fun gr65 x67 J66 => ?_)
          refine wq_cSi M_M_pair (R_M_pair Z x64 x67 _) rfl rfl rfl (by decide) (by decide) (Nat.le_of_ble_eq_true rfl) ln_RX13_147 dX13_laysPairs_62 (fun gr68 x70 J69 => ?_)
          refine wq_goto 69 dX13_laysPairs_65 (by decide) ?_
          exact WQ.loc [0, 1] rfl (hj61 _  _ _)
      · exact WQ.loc [] rfl (ex53 _ _ _)
    · exact wq_vret rfl rfl dX13_laysPairs_108

noncomputable def f_M_isWorth (a1 : Int) (a2 : Int) (I : Mem) : Option ((Int) × Mem) :=
if 0 ≤ (w32 a1) ∧ (w32 a1) < 4356 then
if (w32 (I 27 13 (w32 a1).toNat)) = (-1) then
if (w32 (I 27 11 (w32 a1).toNat)) < (w32 (I 27 0 0)) then
some (0, I)
else
if (w32 a2) = (-1) then
some (0, I)
else
some (1, I)
else
if 0 < (w32 (I 27 11 (w32 a1).toNat)) then
some (1, I)
else
some (0, I)
else none
set_option maxRecDepth 20000 in
theorem R_M_isWorth (Z : ZT) (a1 : Int) (a2 : Int) (I : Mem) (r : Int) (J : Mem) (hf : f_M_isWorth a1 a2 I = some (r, J)) : Runs Z yX13_isWorth cX13_isWorth 3 (some .boolean) 1 [vr Z 26 0, vi a1, vi a2] I (some (vi r), J) := by
  refine Runs.of (rv := fun x => some (vi x)) (by decide +kernel) (Nat.le_of_ble_eq_true rfl) hf (fun gr => ?_)
  unfold f_M_isWorth
  refine WQ.loc [0, 1, 2] (lv' := [(0, vr Z 26 0), (1, vi a1), (2, vi a2)]) rfl ?_
  refine wq_aload_n dX13_isWorth_0 0 rfl rfl ?_
  refine g_26_17 ln_RX13_55 dX13_isWorth_1 ?_
  refine wq_iload_n dX13_isWorth_4 1 rfl rfl ?_
  refine wq_grd (fun g1 => ?_)
  refine wq_iald (k := 27) (i := 13) rfl (by decide) rfl rfl (m := 4356) g1 (Nat.le_of_ble_eq_true rfl) dX13_isWorth_5 ?_
  refine wq_iconst dX13_isWorth_6 ?_
  refine wq_icmp_eq 27 dX13_isWorth_7 (by decide) rfl rfl (fun c6 => ?_) (fun c6 => ?_)
  · refine wq_aload_n dX13_isWorth_27 0 rfl rfl ?_
    refine g_26_15 ln_RX13_49 dX13_isWorth_28 ?_
    refine wq_iload_n dX13_isWorth_31 1 rfl rfl ?_
    refine wq_iald (k := 27) (i := 11) rfl (by decide) rfl rfl (m := 4356) g1 (Nat.le_of_ble_eq_true rfl) dX13_isWorth_32 ?_
    refine wq_aload_n dX13_isWorth_33 0 rfl rfl ?_
    refine g_26_0 ln_RX13_9 dX13_isWorth_34 ?_
    refine wq_iconst dX13_isWorth_37 ?_
    refine wq_iald (k := 27) (i := 0) rfl (by decide) rfl rfl (m := 16860) (by decide) (Nat.le_of_ble_eq_true rfl) dX13_isWorth_38 ?_
    refine wq_icmp_lt 51 dX13_isWorth_39 (by decide) rfl rfl (fun c4 => ?_) (fun c4 => ?_)
    · refine wq_iconst dX13_isWorth_51 ?_
      exact wq_zret rfl (by decide) rfl dX13_isWorth_52
    · refine wq_iload_n dX13_isWorth_42 2 rfl rfl ?_
      refine wq_iconst dX13_isWorth_43 ?_
      refine wq_icmp_eq 51 dX13_isWorth_44 (by decide) rfl rfl (fun c3 => ?_) (fun c3 => ?_)
      · refine wq_iconst dX13_isWorth_51 ?_
        exact wq_zret rfl (by decide) rfl dX13_isWorth_52
      · refine wq_iconst dX13_isWorth_47 ?_
        refine wq_goto 52 dX13_isWorth_48 (by decide) ?_
        exact wq_zret rfl (by decide) rfl dX13_isWorth_52
  · refine wq_aload_n dX13_isWorth_10 0 rfl rfl ?_
    refine g_26_15 ln_RX13_49 dX13_isWorth_11 ?_
    refine wq_iload_n dX13_isWorth_14 1 rfl rfl ?_
    refine wq_iald (k := 27) (i := 11) rfl (by decide) rfl rfl (m := 4356) g1 (Nat.le_of_ble_eq_true rfl) dX13_isWorth_15 ?_
    refine wq_if_le 23 dX13_isWorth_16 (by decide) rfl (fun c5 => ?_) (fun c5 => ?_)
    · refine wq_iconst dX13_isWorth_19 ?_
      refine wq_goto 52 dX13_isWorth_20 (by decide) ?_
      exact wq_zret rfl (by decide) rfl dX13_isWorth_52
    · refine wq_iconst dX13_isWorth_23 ?_
      refine wq_goto 52 dX13_isWorth_24 (by decide) ?_
      exact wq_zret rfl (by decide) rfl dX13_isWorth_52

noncomputable def f_M_isAhead_j120 (v1 : Int) (v2 : Int)  (e0 : Int) (I : Mem) : Option ((Int) × Mem) :=
if (w32 e0) = 0 then
if (w32 v1) < (w32 v2) then
some (1, I)
else
some (0, I)
else
if 0 < (w32 e0) then
some (1, I)
else
some (0, I)

noncomputable def f_M_isAhead (a1 : Int) (a2 : Int) (I : Mem) : Option ((Int) × Mem) :=
if 0 ≤ (w32 a1) ∧ (w32 a1) < 4356 then
if 0 ≤ (w32 a2) ∧ (w32 a2) < 4356 then
if (w32 (I 27 11 (w32 a1).toNat)) = (w32 (I 27 11 (w32 a2).toNat)) then
if (w32 (I 27 0 1)) = 1 then
if (w32 (I 27 12 (w32 a1).toNat)) < (w32 (I 27 12 (w32 a2).toNat)) then
some (1, I)
else
some (0, I)
else
if (w32 (I 27 0 1)) = 2 then
if 0 ≤ (w32 (idv a1 66)) ∧ (w32 (idv a1 66)) < 66 then
if 0 ≤ (w32 (irm a1 66)) ∧ (w32 (irm a1 66)) < 66 then
if 0 ≤ (w32 (idv a2 66)) ∧ (w32 (idv a2 66)) < 66 then
if 0 ≤ (w32 (irm a2 66)) ∧ (w32 (irm a2 66)) < 66 then
f_M_isAhead_j120 a1 a2 ((((I 27 5 (w32 (idv a1 66)).toNat) + (I 27 5 (w32 (irm a1 66)).toNat)) - (I 27 5 (w32 (idv a2 66)).toNat)) - (I 27 5 (w32 (irm a2 66)).toNat)) I
else none
else none
else none
else none
else
f_M_isAhead_j120 a1 a2 0 I
else
if (w32 (I 27 11 (w32 a2).toNat)) < (w32 (I 27 11 (w32 a1).toNat)) then
some (1, I)
else
some (0, I)
else none
else none
set_option maxRecDepth 20000 in
theorem R_M_isAhead (Z : ZT) (a1 : Int) (a2 : Int) (I : Mem) (r : Int) (J : Mem) (hf : f_M_isAhead a1 a2 I = some (r, J)) : Runs Z yX13_isAhead cX13_isAhead 4 (some .boolean) 1 [vr Z 26 0, vi a1, vi a2] I (some (vi r), J) := by
  refine Runs.of (rv := fun x => some (vi x)) (by decide +kernel) (Nat.le_of_ble_eq_true rfl) hf (fun gr => ?_)
  unfold f_M_isAhead
  refine WQ.loc [0, 1, 2] (lv' := [(0, vr Z 26 0), (1, vi a1), (2, vi a2)]) rfl ?_
  refine wq_aload_n dX13_isAhead_0 0 rfl rfl ?_
  refine g_26_15 ln_RX13_49 dX13_isAhead_1 ?_
  refine wq_iload_n dX13_isAhead_4 1 rfl rfl ?_
  refine wq_grd (fun g1 => ?_)
  refine wq_iald (k := 27) (i := 11) rfl (by decide) rfl rfl (m := 4356) g1 (Nat.le_of_ble_eq_true rfl) dX13_isAhead_5 ?_
  refine wq_aload_n dX13_isAhead_6 0 rfl rfl ?_
  refine g_26_15 ln_RX13_49 dX13_isAhead_7 ?_
  refine wq_iload_n dX13_isAhead_10 2 rfl rfl ?_
  refine wq_grd (fun g2 => ?_)
  refine wq_iald (k := 27) (i := 11) rfl (by decide) rfl rfl (m := 4356) g2 (Nat.le_of_ble_eq_true rfl) dX13_isAhead_11 ?_
  refine wq_icmp_eq 36 dX13_isAhead_12 (by decide) rfl rfl (fun c22 => ?_) (fun c22 => ?_)
  · refine wq_aload_n dX13_isAhead_36 0 rfl rfl ?_
    refine g_26_0 ln_RX13_9 dX13_isAhead_37 ?_
    refine wq_iconst dX13_isAhead_40 ?_
    refine wq_iald (k := 27) (i := 0) rfl (by decide) rfl rfl (m := 16860) (by decide) (Nat.le_of_ble_eq_true rfl) dX13_isAhead_41 ?_
    refine wq_iconst dX13_isAhead_42 ?_
    refine wq_icmp_ne 67 dX13_isAhead_43 (by decide) rfl rfl (fun c20 => ?_) (fun c20 => ?_)
    · refine wq_aload_n dX13_isAhead_46 0 rfl rfl ?_
      refine g_26_16 ln_RX13_52 dX13_isAhead_47 ?_
      refine wq_iload_n dX13_isAhead_50 1 rfl rfl ?_
      refine wq_iald (k := 27) (i := 12) rfl (by decide) rfl rfl (m := 4356) g1 (Nat.le_of_ble_eq_true rfl) dX13_isAhead_51 ?_
      refine wq_aload_n dX13_isAhead_52 0 rfl rfl ?_
      refine g_26_16 ln_RX13_52 dX13_isAhead_53 ?_
      refine wq_iload_n dX13_isAhead_56 2 rfl rfl ?_
      refine wq_iald (k := 27) (i := 12) rfl (by decide) rfl rfl (m := 4356) g2 (Nat.le_of_ble_eq_true rfl) dX13_isAhead_57 ?_
      refine wq_icmp_ge 65 dX13_isAhead_58 (by decide) rfl rfl (fun c19 => ?_) (fun c19 => ?_)
      · refine wq_iconst dX13_isAhead_61 ?_
        refine wq_goto 66 dX13_isAhead_62 (by decide) ?_
        exact wq_zret rfl (by decide) rfl dX13_isAhead_66
      · refine wq_iconst dX13_isAhead_65 ?_
        exact wq_zret rfl (by decide) rfl dX13_isAhead_66
    · refine wq_aload_n dX13_isAhead_67 0 rfl rfl ?_
      refine g_26_0 ln_RX13_9 dX13_isAhead_68 ?_
      refine wq_iconst dX13_isAhead_71 ?_
      refine wq_iald (k := 27) (i := 0) rfl (by decide) rfl rfl (m := 16860) (by decide) (Nat.le_of_ble_eq_true rfl) dX13_isAhead_72 ?_
      refine wq_iconst dX13_isAhead_73 ?_
      have hj5 : ∀ (gr15 : Nat → Nat)  (hj5e0 : Int) (J14 : Mem), WQ Z (yX13_isAhead, cX13_isAhead, 4, some .boolean, 1) I gr15 120 [(1, vi a1), (2, vi a2)] [vi hj5e0] J14 (f_M_isAhead_j120 a1 a2 hj5e0 J14) (fun b K => some (.inl ((fun x => some (vi x)) b), K)) := by
        intro gr15 hj5e0 J14
        unfold f_M_isAhead_j120
        refine wq_istore_n (lv' := [(3, vi hj5e0), (1, vi a1), (2, vi a2)]) dX13_isAhead_120 rfl (by decide) rfl ?_
        refine wq_iload_n dX13_isAhead_121 0 rfl rfl ?_
        refine wq_if_eq 137 dX13_isAhead_122 (by decide) rfl (fun c18 => ?_) (fun c18 => ?_)
        · refine wq_iload_n dX13_isAhead_137 1 rfl rfl ?_
          refine wq_iload_n dX13_isAhead_138 2 rfl rfl ?_
          refine wq_icmp_ge 146 dX13_isAhead_139 (by decide) rfl rfl (fun c16 => ?_) (fun c16 => ?_)
          · refine wq_iconst dX13_isAhead_142 ?_
            refine wq_goto 147 dX13_isAhead_143 (by decide) ?_
            exact wq_zret rfl (by decide) rfl dX13_isAhead_147
          · refine wq_iconst dX13_isAhead_146 ?_
            exact wq_zret rfl (by decide) rfl dX13_isAhead_147
        · refine wq_iload_n dX13_isAhead_125 0 rfl rfl ?_
          refine wq_if_le 133 dX13_isAhead_126 (by decide) rfl (fun c17 => ?_) (fun c17 => ?_)
          · refine wq_iconst dX13_isAhead_129 ?_
            refine wq_goto 147 dX13_isAhead_130 (by decide) ?_
            exact wq_zret rfl (by decide) rfl dX13_isAhead_147
          · refine wq_iconst dX13_isAhead_133 ?_
            refine wq_goto 147 dX13_isAhead_134 (by decide) ?_
            exact wq_zret rfl (by decide) rfl dX13_isAhead_147
      refine wq_icmp_ne 119 dX13_isAhead_74 (by decide) rfl rfl (fun c10 => ?_) (fun c10 => ?_)
      · refine wq_aload_n dX13_isAhead_77 0 rfl rfl ?_
        refine g_26_8 ln_RX13_31 dX13_isAhead_78 ?_
        refine wq_iload_n dX13_isAhead_81 1 rfl rfl ?_
        refine wq_bipush dX13_isAhead_82 (by decide) ?_
        refine wq_idiv dX13_isAhead_84 (by decide) ?_
        refine wq_grd (fun g6 => ?_)
        refine wq_iald (k := 27) (i := 5) rfl (by decide) rfl rfl (m := 66) g6 (Nat.le_of_ble_eq_true rfl) dX13_isAhead_85 ?_
        refine wq_aload_n dX13_isAhead_86 0 rfl rfl ?_
        refine g_26_8 ln_RX13_31 dX13_isAhead_87 ?_
        refine wq_iload_n dX13_isAhead_90 1 rfl rfl ?_
        refine wq_bipush dX13_isAhead_91 (by decide) ?_
        refine wq_irem dX13_isAhead_93 (by decide) ?_
        refine wq_grd (fun g7 => ?_)
        refine wq_iald (k := 27) (i := 5) rfl (by decide) rfl rfl (m := 66) g7 (Nat.le_of_ble_eq_true rfl) dX13_isAhead_94 ?_
        refine wq_iadd dX13_isAhead_95 ?_
        refine wq_aload_n dX13_isAhead_96 0 rfl rfl ?_
        refine g_26_8 ln_RX13_31 dX13_isAhead_97 ?_
        refine wq_iload_n dX13_isAhead_100 2 rfl rfl ?_
        refine wq_bipush dX13_isAhead_101 (by decide) ?_
        refine wq_idiv dX13_isAhead_103 (by decide) ?_
        refine wq_grd (fun g8 => ?_)
        refine wq_iald (k := 27) (i := 5) rfl (by decide) rfl rfl (m := 66) g8 (Nat.le_of_ble_eq_true rfl) dX13_isAhead_104 ?_
        refine wq_isub dX13_isAhead_105 ?_
        refine wq_aload_n dX13_isAhead_106 0 rfl rfl ?_
        refine g_26_8 ln_RX13_31 dX13_isAhead_107 ?_
        refine wq_iload_n dX13_isAhead_110 2 rfl rfl ?_
        refine wq_bipush dX13_isAhead_111 (by decide) ?_
        refine wq_irem dX13_isAhead_113 (by decide) ?_
        refine wq_grd (fun g9 => ?_)
        refine wq_iald (k := 27) (i := 5) rfl (by decide) rfl rfl (m := 66) g9 (Nat.le_of_ble_eq_true rfl) dX13_isAhead_114 ?_
        refine wq_isub dX13_isAhead_115 ?_
        refine wq_goto 120 dX13_isAhead_116 (by decide) ?_
        exact WQ.loc [1, 2] rfl (hj5 _  _ _)
      · refine wq_iconst dX13_isAhead_119 ?_
        exact WQ.loc [1, 2] rfl (hj5 _  _ _)
  · refine wq_aload_n dX13_isAhead_15 0 rfl rfl ?_
    refine g_26_15 ln_RX13_49 dX13_isAhead_16 ?_
    refine wq_iload_n dX13_isAhead_19 1 rfl rfl ?_
    refine wq_iald (k := 27) (i := 11) rfl (by decide) rfl rfl (m := 4356) g1 (Nat.le_of_ble_eq_true rfl) dX13_isAhead_20 ?_
    refine wq_aload_n dX13_isAhead_21 0 rfl rfl ?_
    refine g_26_15 ln_RX13_49 dX13_isAhead_22 ?_
    refine wq_iload_n dX13_isAhead_25 2 rfl rfl ?_
    refine wq_iald (k := 27) (i := 11) rfl (by decide) rfl rfl (m := 4356) g2 (Nat.le_of_ble_eq_true rfl) dX13_isAhead_26 ?_
    refine wq_icmp_le 34 dX13_isAhead_27 (by decide) rfl rfl (fun c21 => ?_) (fun c21 => ?_)
    · refine wq_iconst dX13_isAhead_30 ?_
      refine wq_goto 35 dX13_isAhead_31 (by decide) ?_
      exact wq_zret rfl (by decide) rfl dX13_isAhead_35
    · refine wq_iconst dX13_isAhead_34 ?_
      exact wq_zret rfl (by decide) rfl dX13_isAhead_35

theorem M_M_laysPairs : MwV yX13_laysPairs cX13_laysPairs 3 (none) 0 := ⟨li_8 144 (by decide +kernel) (by decide +kernel), li_8 143 (by decide +kernel) (by decide +kernel), lw_in 91 (by decide +kernel) (by decide +kernel), li_1 16 (by decide +kernel) (by decide +kernel), by decide +kernel⟩
theorem M_M_freeRule : MwV yX13_freeRule cX13_freeRule 2 (some .int) 0 := ⟨li_8 159 (by decide +kernel) (by decide +kernel), li_8 158 (by decide +kernel) (by decide +kernel), lw_in 94 (by decide +kernel) (by decide +kernel), li_1 16 (by decide +kernel) (by decide +kernel), by decide +kernel⟩
theorem M_M_isWorth : MwV yX13_isWorth cX13_isWorth 3 (some .boolean) 2 := ⟨li_8 163 (by decide +kernel) (by decide +kernel), li_8 162 (by decide +kernel) (by decide +kernel), lw_in 95 (by decide +kernel) (by decide +kernel), li_1 16 (by decide +kernel) (by decide +kernel), by decide +kernel⟩
theorem M_M_isAhead : MwV yX13_isAhead cX13_isAhead 4 (some .boolean) 2 := ⟨li_8 167 (by decide +kernel) (by decide +kernel), li_8 166 (by decide +kernel) (by decide +kernel), lw_in 96 (by decide +kernel) (by decide +kernel), li_1 16 (by decide +kernel) (by decide +kernel), by decide +kernel⟩
theorem ln_RX13_170 : Cond.methodLink RX13 170 yX13_isAhead ∈ lw_good := li_8 164 (by decide +kernel) (by decide +kernel)
theorem ln_RX13_166 : Cond.methodLink RX13 166 yX13_isWorth ∈ lw_good := li_8 160 (by decide +kernel) (by decide +kernel)
theorem ln_RX13_163 : Cond.methodLink RX13 163 yX13_freeRule ∈ lw_good := li_8 156 (by decide +kernel) (by decide +kernel)
theorem ln_RX13_160 : Cond.methodLink RX13 160 yX13_laysPairs ∈ lw_good := li_8 141 (by decide +kernel) (by decide +kernel)
noncomputable def f_M_bestPair_w17 (v1 : Int) (s : Int × Int) (I : Mem) : Option (((Int × Int) ⊕ (Int)) × Mem) :=
if (w32 s.2) < 4356 then
bnd (f_M_isWorth s.2 v1 I) fun x12 J11 =>
if (w32 x12) = 0 then
some (.inl (s.1, (s.2 + 1)), J11)
else
if (w32 s.1) = (-1) then
some (.inl (s.2, (s.2 + 1)), J11)
else
bnd (f_M_isAhead s.2 s.1 J11) fun x15 J14 =>
if (w32 x15) = 0 then
some (.inl (s.1, (s.2 + 1)), J14)
else
some (.inl (s.2, (s.2 + 1)), J14)
else
some (.inr s.1, I)

noncomputable def f_M_bestPair  (I : Mem) : Option ((Int) × Mem) :=
bnd (f_M_laysPairs I) fun _ J2 =>
bnd (f_M_laysLengths J2) fun _ J5 =>
bnd (f_M_freeRule J5) fun x9 J8 =>
bnd (whl (f_M_bestPair_w17 x9) ((-1), 0) J8) fun r37 J38 =>
some (r37, J38)
set_option maxRecDepth 20000 in
theorem R_M_bestPair (Z : ZT)  (I : Mem) (r : Int) (J : Mem) (hf : f_M_bestPair I = some (r, J)) : Runs Z yX13_bestPair cX13_bestPair 4 (some .int) 4 [vr Z 26 0] I (some (vi r), J) := by
  refine Runs.of (rv := fun x => some (vi x)) (by decide +kernel) (Nat.le_of_ble_eq_true rfl) hf (fun gr => ?_)
  unfold f_M_bestPair
  refine WQ.loc [0] (lv' := [(0, vr Z 26 0)]) rfl ?_
  refine wq_aload_n dX13_bestPair_0 0 rfl rfl ?_
  refine wq_cVv M_M_laysPairs (R_M_laysPairs Z _) ob_26 rfl rfl (by decide) (by decide) (Nat.le_of_ble_eq_true rfl) ln_RX13_160 dX13_bestPair_1 (fun gr1 _ J2 => ?_)
  refine wq_aload_n dX13_bestPair_4 0 rfl rfl ?_
  refine wq_cVv M_M_laysLengths (R_M_laysLengths Z _) ob_26 rfl rfl (by decide) (by decide) (Nat.le_of_ble_eq_true rfl) ln_RX13_137 dX13_bestPair_5 (fun gr4 _ J5 => ?_)
  refine wq_aload_n dX13_bestPair_8 0 rfl rfl ?_
  refine wq_cVi M_M_freeRule (R_M_freeRule Z _) ob_26 rfl rfl (by decide) (by decide) (Nat.le_of_ble_eq_true rfl) ln_RX13_163 dX13_bestPair_9 (fun gr7 x9 J8 => ?_)
  refine wq_istore_n (lv' := [(1, vi x9), (0, vr Z 26 0)]) dX13_bestPair_12 rfl (by decide) rfl ?_
  refine wq_iconst dX13_bestPair_13 ?_
  refine wq_istore_n (lv' := [(2, vi (-1)), (1, vi x9), (0, vr Z 26 0)]) dX13_bestPair_14 rfl (by decide) rfl ?_
  refine wq_iconst dX13_bestPair_15 ?_
  refine wq_istore_n (lv' := [(3, vi 0), (2, vi (-1)), (1, vi x9), (0, vr Z 26 0)]) dX13_bestPair_16 rfl (by decide) rfl ?_
  refine WQ.loc [3, 2, 1, 0] (lv' := [(0, vr Z 26 0), (1, vi x9), (2, vi (-1)), (3, vi 0)]) rfl ?_
  refine wq_loopS (fun s26 => [(0, vr Z 26 0), (1, vi x9), (2, vi s26.1), (3, vi s26.2)]) 55 (fun r37 => [(2, vi r37)]) (fun κ20 bk21 ex22 gr25 s26 J24 => ?_) (fun gr39 r37 J38 => ?_) gr7 _ rfl
  · unfold f_M_bestPair_w17
    refine wq_iload_n dX13_bestPair_17 3 rfl rfl ?_
    refine wq_sipush dX13_bestPair_18 (by decide) ?_
    refine wq_icmp_ge 55 dX13_bestPair_21 (by decide) rfl rfl (fun c36 => ?_) (fun c36 => ?_)
    · refine wq_aload_n dX13_bestPair_24 0 rfl rfl ?_
      refine wq_iload_n dX13_bestPair_25 3 rfl rfl ?_
      refine wq_iload_n dX13_bestPair_26 1 rfl rfl ?_
      refine wq_cVi M_M_isWorth (R_M_isWorth Z s26.2 x9 _) ob_26 rfl rfl (by decide) (by decide) (Nat.le_of_ble_eq_true rfl) ln_RX13_166 dX13_bestPair_27 (fun gr27 x29 J28 => ?_)
      refine wq_if_eq 49 dX13_bestPair_30 (by decide) rfl (fun c35 => ?_) (fun c35 => ?_)
      · refine wq_iinc (lv' := [(3, vi (s26.2 + 1)), (0, vr Z 26 0), (1, vi x9), (2, vi s26.1)]) dX13_bestPair_49 3 rfl (by decide) rfl ?_
        refine wq_goto 17 dX13_bestPair_52 (by decide) ?_
        exact WQ.loc [1, 2, 3, 0] rfl (bk21 _ _ _)
      · refine wq_iload_n dX13_bestPair_33 2 rfl rfl ?_
        refine wq_iconst dX13_bestPair_34 ?_
        refine wq_icmp_eq 47 dX13_bestPair_35 (by decide) rfl rfl (fun c34 => ?_) (fun c34 => ?_)
        · refine wq_iload_n dX13_bestPair_47 3 rfl rfl ?_
          refine wq_istore_n (lv' := [(2, vi s26.2), (0, vr Z 26 0), (1, vi x9), (3, vi s26.2)]) dX13_bestPair_48 rfl (by decide) rfl ?_
          refine wq_iinc (lv' := [(3, vi (s26.2 + 1)), (2, vi s26.2), (0, vr Z 26 0), (1, vi x9)]) dX13_bestPair_49 3 rfl (by decide) rfl ?_
          refine wq_goto 17 dX13_bestPair_52 (by decide) ?_
          exact WQ.loc [2, 3, 1, 0] rfl (bk21 _ _ _)
        · refine wq_aload_n dX13_bestPair_38 0 rfl rfl ?_
          refine wq_iload_n dX13_bestPair_39 3 rfl rfl ?_
          refine wq_iload_n dX13_bestPair_40 2 rfl rfl ?_
          refine wq_cVi M_M_isAhead (R_M_isAhead Z s26.2 s26.1 _) ob_26 rfl rfl (by decide) (by decide) (Nat.le_of_ble_eq_true rfl) ln_RX13_170 dX13_bestPair_41 (fun gr30 x32 J31 => ?_)
          refine wq_if_eq 49 dX13_bestPair_44 (by decide) rfl (fun c33 => ?_) (fun c33 => ?_)
          · refine wq_iinc (lv' := [(3, vi (s26.2 + 1)), (0, vr Z 26 0), (1, vi x9), (2, vi s26.1)]) dX13_bestPair_49 3 rfl (by decide) rfl ?_
            refine wq_goto 17 dX13_bestPair_52 (by decide) ?_
            exact WQ.loc [1, 2, 3, 0] rfl (bk21 _ _ _)
          · refine wq_iload_n dX13_bestPair_47 3 rfl rfl ?_
            refine wq_istore_n (lv' := [(2, vi s26.2), (0, vr Z 26 0), (1, vi x9), (3, vi s26.2)]) dX13_bestPair_48 rfl (by decide) rfl ?_
            refine wq_iinc (lv' := [(3, vi (s26.2 + 1)), (2, vi s26.2), (0, vr Z 26 0), (1, vi x9)]) dX13_bestPair_49 3 rfl (by decide) rfl ?_
            refine wq_goto 17 dX13_bestPair_52 (by decide) ?_
            exact WQ.loc [2, 3, 1, 0] rfl (bk21 _ _ _)
    · exact WQ.loc [2] rfl (ex22 _ _ _)
  · refine wq_iload_n dX13_bestPair_55 0 rfl rfl ?_
    exact wq_iret rfl rfl dX13_bestPair_56

noncomputable def f_M_worthy_j49 (v1 : Int) (v2 : Int) (v4 : Int) (b0 : Int) (e0 : Int) (I : Mem) : Option (((Int × Int) ⊕ (Int)) × Mem) :=
bnd (f_M_one e0 I) fun x15 J14 =>
some (.inl ((b0 + x15), (v4 + 1)), J14)

noncomputable def f_M_worthy_j48 (v1 : Int) (v2 : Int) (v4 : Int) (b0 : Int)  (I : Mem) : Option (((Int × Int) ⊕ (Int)) × Mem) :=
f_M_worthy_j49 v1 v2 v4 b0 0 I

noncomputable def f_M_worthy_w10 (v1 : Int) (v2 : Int) (s : Int × Int) (I : Mem) : Option (((Int × Int) ⊕ (Int)) × Mem) :=
if (w32 s.2) < 4356 then
bnd (f_M_isWorth s.2 v2 I) fun x6 J5 =>
if (w32 x6) = 0 then
f_M_worthy_j48 v1 v2 s.2 s.1 J5
else
if (w32 v1) = 0 then
f_M_worthy_j49 v1 v2 s.2 s.1 1 J5
else
if 0 ≤ (w32 s.2) ∧ (w32 s.2) < 4356 then
if (w32 (J5 27 11 (w32 s.2).toNat)) = (w32 v1) then
f_M_worthy_j49 v1 v2 s.2 s.1 1 J5
else
f_M_worthy_j48 v1 v2 s.2 s.1 J5
else none
else
some (.inr s.1, I)

noncomputable def f_M_worthy (a1 : Int) (I : Mem) : Option ((Int) × Mem) :=
bnd (f_M_freeRule I) fun x3 J2 =>
bnd (whl (f_M_worthy_w10 a1 x3) (0, 0) J2) fun r48 J49 =>
some (r48, J49)
set_option maxRecDepth 20000 in
theorem R_M_worthy (Z : ZT) (a1 : Int) (I : Mem) (r : Int) (J : Mem) (hf : f_M_worthy a1 I = some (r, J)) : Runs Z yX13_worthy cX13_worthy 5 (some .int) 4 [vr Z 26 0, vi a1] I (some (vi r), J) := by
  refine Runs.of (rv := fun x => some (vi x)) (by decide +kernel) (Nat.le_of_ble_eq_true rfl) hf (fun gr => ?_)
  unfold f_M_worthy
  refine WQ.loc [0, 1] (lv' := [(0, vr Z 26 0), (1, vi a1)]) rfl ?_
  refine wq_aload_n dX13_worthy_0 0 rfl rfl ?_
  refine wq_cVi M_M_freeRule (R_M_freeRule Z _) ob_26 rfl rfl (by decide) (by decide) (Nat.le_of_ble_eq_true rfl) ln_RX13_163 dX13_worthy_1 (fun gr1 x3 J2 => ?_)
  refine wq_istore_n (lv' := [(2, vi x3), (0, vr Z 26 0), (1, vi a1)]) dX13_worthy_4 rfl (by decide) rfl ?_
  refine wq_iconst dX13_worthy_5 ?_
  refine wq_istore_n (lv' := [(3, vi 0), (2, vi x3), (0, vr Z 26 0), (1, vi a1)]) dX13_worthy_6 rfl (by decide) rfl ?_
  refine wq_iconst dX13_worthy_7 ?_
  refine wq_istore (lv' := [(4, vi 0), (3, vi 0), (2, vi x3), (0, vr Z 26 0), (1, vi a1)]) dX13_worthy_8 (by decide) rfl ?_
  refine WQ.loc [3, 4, 2, 1, 0] (lv' := [(0, vr Z 26 0), (1, vi a1), (2, vi x3), (3, vi 0), (4, vi 0)]) rfl ?_
  refine wq_loopS (fun s30 => [(0, vr Z 26 0), (1, vi a1), (2, vi x3), (3, vi s30.1), (4, vi s30.2)]) 60 (fun r48 => [(3, vi r48)]) (fun κ24 bk25 ex26 gr29 s30 J28 => ?_) (fun gr50 r48 J49 => ?_) gr1 _ rfl
  · unfold f_M_worthy_w10
    refine wq_iload dX13_worthy_10 4 rfl ?_
    refine wq_sipush dX13_worthy_12 (by decide) ?_
    refine wq_icmp_ge 60 dX13_worthy_15 (by decide) rfl rfl (fun c47 => ?_) (fun c47 => ?_)
    · refine wq_iload_n dX13_worthy_18 3 rfl rfl ?_
      refine wq_aload_n dX13_worthy_19 0 rfl rfl ?_
      refine wq_iload dX13_worthy_20 4 rfl ?_
      refine wq_iload_n dX13_worthy_22 2 rfl rfl ?_
      refine wq_cVi M_M_isWorth (R_M_isWorth Z s30.2 x3 _) ob_26 rfl rfl (by decide) (by decide) (Nat.le_of_ble_eq_true rfl) ln_RX13_166 dX13_worthy_23 (fun gr31 x33 J32 => ?_)
      have hj34 : ∀ (gr41 : Nat → Nat)  (hj34e0 : Int) (J40 : Mem), WQ Z (yX13_worthy, cX13_worthy, 5, some .int, 4) I gr41 49 [(0, vr Z 26 0), (1, vi a1), (2, vi x3), (4, vi s30.2)] [vi hj34e0, vi s30.1] J40 (f_M_worthy_j49 a1 x3 s30.2 s30.1 hj34e0 J40) κ24 := by
        intro gr41 hj34e0 J40
        unfold f_M_worthy_j49
        refine wq_cSi M_M_one (R_M_one Z hj34e0 _) rfl rfl rfl (by decide) (by decide) (Nat.le_of_ble_eq_true rfl) ln_RX13_115 dX13_worthy_49 (fun gr42 x44 J43 => ?_)
        refine wq_iadd dX13_worthy_52 ?_
        refine wq_istore_n (lv' := [(3, vi (s30.1 + x44)), (0, vr Z 26 0), (1, vi a1), (2, vi x3), (4, vi s30.2)]) dX13_worthy_53 rfl (by decide) rfl ?_
        refine wq_iinc (lv' := [(4, vi (s30.2 + 1)), (3, vi (s30.1 + x44)), (0, vr Z 26 0), (1, vi a1), (2, vi x3)]) dX13_worthy_54 4 rfl (by decide) rfl ?_
        refine wq_goto 10 dX13_worthy_57 (by decide) ?_
        exact WQ.loc [2, 3, 4, 1, 0] rfl (bk25 _ _ _)
      have hj35 : ∀ (gr46 : Nat → Nat)   (J45 : Mem), WQ Z (yX13_worthy, cX13_worthy, 5, some .int, 4) I gr46 48 [(0, vr Z 26 0), (1, vi a1), (2, vi x3), (4, vi s30.2)] [vi s30.1] J45 (f_M_worthy_j48 a1 x3 s30.2 s30.1 J45) κ24 := by
        intro gr46 J45
        unfold f_M_worthy_j48
        refine wq_iconst dX13_worthy_48 ?_
        exact WQ.loc [0, 1, 2, 3] rfl (hj34 _  _ _)
      refine wq_if_eq 48 dX13_worthy_26 (by decide) rfl (fun c39 => ?_) (fun c39 => ?_)
      · exact WQ.loc [0, 1, 2, 4] rfl (hj35 _   _)
      · refine wq_iload_n dX13_worthy_29 1 rfl rfl ?_
        refine wq_if_eq 44 dX13_worthy_30 (by decide) rfl (fun c38 => ?_) (fun c38 => ?_)
        · refine wq_iconst dX13_worthy_44 ?_
          refine wq_goto 49 dX13_worthy_45 (by decide) ?_
          exact WQ.loc [0, 1, 2, 4] rfl (hj34 _  _ _)
        · refine wq_aload_n dX13_worthy_33 0 rfl rfl ?_
          refine g_26_15 ln_RX13_49 dX13_worthy_34 ?_
          refine wq_iload dX13_worthy_37 4 rfl ?_
          refine wq_grd (fun g36 => ?_)
          refine wq_iald (k := 27) (i := 11) rfl (by decide) rfl rfl (m := 4356) g36 (Nat.le_of_ble_eq_true rfl) dX13_worthy_39 ?_
          refine wq_iload_n dX13_worthy_40 1 rfl rfl ?_
          refine wq_icmp_ne 48 dX13_worthy_41 (by decide) rfl rfl (fun c37 => ?_) (fun c37 => ?_)
          · refine wq_iconst dX13_worthy_44 ?_
            refine wq_goto 49 dX13_worthy_45 (by decide) ?_
            exact WQ.loc [0, 1, 2, 4] rfl (hj34 _  _ _)
          · exact WQ.loc [0, 1, 2, 4] rfl (hj35 _   _)
    · exact WQ.loc [3] rfl (ex26 _ _ _)
  · refine wq_iload_n dX13_worthy_60 0 rfl rfl ?_
    exact wq_iret rfl rfl dX13_worthy_61

noncomputable def f_M_joins_j83 (v1 : Int) (v2 : Int) (v3 : Int) (v4 : Int) (v5 : Int) (v6 : Int) (v7 : Int) (v8 : Int) (b1 : Int) (b2 : Int) (e0 : Int) (I : Mem) : Option (((Int × Int × Int) ⊕ (Int × Int)) × Mem) :=
bnd (f_M_puts b1 b2 e0 I) fun _ J24 =>
bnd (f_M_one v8 J24) fun x28 J27 =>
some (.inl ((v5 + x28), (v6 + 1), (v7 + (if (w32 v8) = 0 then 1 else 2))), J27)

noncomputable def f_M_joins_j60 (v1 : Int) (v2 : Int) (v3 : Int) (v4 : Int) (v5 : Int) (v6 : Int) (v7 : Int)  (e0 : Int) (I : Mem) : Option (((Int × Int × Int) ⊕ (Int × Int)) × Mem) :=
if (w32 e0) = 0 then
bnd (f_M_at v1 v7 I) fun x21 J20 =>
f_M_joins_j83 v1 v2 v3 v4 v5 v6 v7 e0 v1 v6 x21 J20
else
f_M_joins_j83 v1 v2 v3 v4 v5 v6 v7 e0 v1 v6 v4 I

noncomputable def f_M_joins_j59 (v1 : Int) (v2 : Int) (v3 : Int) (v4 : Int) (v5 : Int) (v6 : Int) (v7 : Int)   (I : Mem) : Option (((Int × Int × Int) ⊕ (Int × Int)) × Mem) :=
f_M_joins_j60 v1 v2 v3 v4 v5 v6 v7 0 I

noncomputable def f_M_joins_w9 (v1 : Int) (v2 : Int) (v3 : Int) (v4 : Int) (s : Int × Int × Int) (I : Mem) : Option (((Int × Int × Int) ⊕ (Int × Int)) × Mem) :=
bnd (f_M_many v1 I) fun x3 J2 =>
if (w32 s.2.2) < (w32 x3) then
bnd (f_M_many v1 J2) fun x6 J5 =>
if (w32 (s.2.2 + 1)) < (w32 x6) then
bnd (f_M_at v1 s.2.2 J5) fun x11 J10 =>
if (w32 x11) = (w32 v2) then
bnd (f_M_at v1 (s.2.2 + 1) J10) fun x14 J13 =>
if (w32 x14) = (w32 v3) then
f_M_joins_j60 v1 v2 v3 v4 s.1 s.2.1 s.2.2 1 J13
else
f_M_joins_j59 v1 v2 v3 v4 s.1 s.2.1 s.2.2 J13
else
f_M_joins_j59 v1 v2 v3 v4 s.1 s.2.1 s.2.2 J10
else
f_M_joins_j59 v1 v2 v3 v4 s.1 s.2.1 s.2.2 J5
else
some (.inr (s.1, s.2.1), J2)

noncomputable def f_M_joins (a1 : Int) (a2 : Int) (a3 : Int) (a4 : Int) (I : Mem) : Option ((Int) × Mem) :=
bnd (whl (f_M_joins_w9 a1 a2 a3 a4) (0, 0, 0) I) fun r105 J106 =>
if 0 ≤ (w32 (16 + a1)) ∧ (w32 (16 + a1)) < 16860 then
ltI (sI J106 27 0 (w32 (16 + a1)).toNat r105.2) fun J109 =>
some (r105.1, J109)
else none
set_option maxRecDepth 20000 in
theorem R_M_joins (Z : ZT) (a1 : Int) (a2 : Int) (a3 : Int) (a4 : Int) (I : Mem) (r : Int) (J : Mem) (hf : f_M_joins a1 a2 a3 a4 I = some (r, J)) : Runs Z yX13_joins cX13_joins 9 (some .int) 2 [vr Z 26 0, vi a1, vi a2, vi a3, vi a4] I (some (vi r), J) := by
  refine Runs.of (rv := fun x => some (vi x)) (by decide +kernel) (Nat.le_of_ble_eq_true rfl) hf (fun gr => ?_)
  unfold f_M_joins
  refine WQ.loc [0, 1, 2, 3, 4] (lv' := [(0, vr Z 26 0), (1, vi a1), (2, vi a2), (3, vi a3), (4, vi a4)]) rfl ?_
  refine wq_iconst dX13_joins_0 ?_
  refine wq_istore (lv' := [(5, vi 0), (0, vr Z 26 0), (1, vi a1), (2, vi a2), (3, vi a3), (4, vi a4)]) dX13_joins_1 (by decide) rfl ?_
  refine wq_iconst dX13_joins_3 ?_
  refine wq_istore (lv' := [(6, vi 0), (5, vi 0), (0, vr Z 26 0), (1, vi a1), (2, vi a2), (3, vi a3), (4, vi a4)]) dX13_joins_4 (by decide) rfl ?_
  refine wq_iconst dX13_joins_6 ?_
  refine wq_istore (lv' := [(7, vi 0), (6, vi 0), (5, vi 0), (0, vr Z 26 0), (1, vi a1), (2, vi a2), (3, vi a3), (4, vi a4)]) dX13_joins_7 (by decide) rfl ?_
  refine WQ.loc [3, 4, 5, 6, 7, 2, 1, 0] (lv' := [(0, vr Z 26 0), (1, vi a1), (2, vi a2), (3, vi a3), (4, vi a4), (5, vi 0), (6, vi 0), (7, vi 0)]) rfl ?_
  refine wq_loopS (fun s67 => [(0, vr Z 26 0), (1, vi a1), (2, vi a2), (3, vi a3), (4, vi a4), (5, vi s67.1), (6, vi s67.2.1), (7, vi s67.2.2)]) 117 (fun r105 => [(0, vr Z 26 0), (1, vi a1), (5, vi r105.1), (6, vi r105.2)]) (fun κ61 bk62 ex63 gr66 s67 J65 => ?_) (fun gr107 r105 J106 => ?_) gr _ rfl
  · unfold f_M_joins_w9
    refine wq_iload dX13_joins_9 7 rfl ?_
    refine wq_aload_n dX13_joins_11 0 rfl rfl ?_
    refine wq_iload_n dX13_joins_12 1 rfl rfl ?_
    refine wq_cVi M_M_many (R_M_many Z a1 _) ob_26 rfl rfl (by decide) (by decide) (Nat.le_of_ble_eq_true rfl) ln_RX13_103 dX13_joins_13 (fun gr68 x70 J69 => ?_)
    refine wq_icmp_ge 117 dX13_joins_16 (by decide) rfl rfl (fun c104 => ?_) (fun c104 => ?_)
    · refine wq_iload dX13_joins_19 7 rfl ?_
      refine wq_iconst dX13_joins_21 ?_
      refine wq_iadd dX13_joins_22 ?_
      refine wq_aload_n dX13_joins_23 0 rfl rfl ?_
      refine wq_iload_n dX13_joins_24 1 rfl rfl ?_
      refine wq_cVi M_M_many (R_M_many Z a1 _) ob_26 rfl rfl (by decide) (by decide) (Nat.le_of_ble_eq_true rfl) ln_RX13_103 dX13_joins_25 (fun gr71 x73 J72 => ?_)
      have hj74 : ∀ (gr86 : Nat → Nat)  (hj74e0 : Int) (J85 : Mem), WQ Z (yX13_joins, cX13_joins, 9, some .int, 2) I gr86 60 [(0, vr Z 26 0), (1, vi a1), (2, vi a2), (3, vi a3), (4, vi a4), (5, vi s67.1), (6, vi s67.2.1), (7, vi s67.2.2)] [vi hj74e0] J85 (f_M_joins_j60 a1 a2 a3 a4 s67.1 s67.2.1 s67.2.2 hj74e0 J85) κ61 := by
        intro gr86 hj74e0 J85
        unfold f_M_joins_j60
        refine wq_istore (lv' := [(8, vi hj74e0), (0, vr Z 26 0), (1, vi a1), (2, vi a2), (3, vi a3), (4, vi a4), (5, vi s67.1), (6, vi s67.2.1), (7, vi s67.2.2)]) dX13_joins_60 (by decide) rfl ?_
        refine wq_aload_n dX13_joins_62 1 rfl rfl ?_
        refine wq_iload_n dX13_joins_63 2 rfl rfl ?_
        refine wq_iload dX13_joins_64 7 rfl ?_
        refine wq_iload dX13_joins_66 0 rfl ?_
        have hj87 : ∀ (gr93 : Nat → Nat)  (hj87e0 : Int) (J92 : Mem), WQ Z (yX13_joins, cX13_joins, 9, some .int, 2) I gr93 83 [(0, vr Z 26 0), (1, vi a1), (2, vi a2), (3, vi a3), (4, vi a4), (5, vi s67.1), (6, vi s67.2.1), (7, vi s67.2.2), (8, vi hj74e0)] [vi hj87e0, vi s67.2.1, vi a1, vr Z 26 0] J92 (f_M_joins_j83 a1 a2 a3 a4 s67.1 s67.2.1 s67.2.2 hj74e0 a1 s67.2.1 hj87e0 J92) κ61 := by
          intro gr93 hj87e0 J92
          unfold f_M_joins_j83
          refine wq_cVv M_M_puts (R_M_puts Z a1 s67.2.1 hj87e0 _) ob_26 rfl rfl (by decide) (by decide) (Nat.le_of_ble_eq_true rfl) ln_RX13_107 dX13_joins_83 (fun gr94 _ J95 => ?_)
          refine wq_iinc (lv' := [(6, vi (s67.2.1 + 1)), (0, vr Z 26 0), (1, vi a1), (2, vi a2), (3, vi a3), (4, vi a4), (5, vi s67.1), (7, vi s67.2.2), (8, vi hj74e0)]) dX13_joins_86 6 rfl (by decide) rfl ?_
          refine wq_iload dX13_joins_89 7 rfl ?_
          refine wq_iload dX13_joins_91 8 rfl ?_
          refine WQ.via 101 [vi (if (w32 hj74e0) = 0 then 1 else 2), vi s67.2.2] (by
              refine wq_iadd dX13_joins_101 ?_
              refine wq_istore (lv' := [(7, vi (s67.2.2 + (if (w32 hj74e0) = 0 then 1 else 2))), (6, vi (s67.2.1 + 1)), (0, vr Z 26 0), (1, vi a1), (2, vi a2), (3, vi a3), (4, vi a4), (5, vi s67.1), (8, vi hj74e0)]) dX13_joins_102 (by decide) rfl ?_
              refine wq_iload dX13_joins_104 7 rfl ?_
              refine wq_iload dX13_joins_106 8 rfl ?_
              refine wq_cSi M_M_one (R_M_one Z hj74e0 _) rfl rfl rfl (by decide) (by decide) (Nat.le_of_ble_eq_true rfl) ln_RX13_115 dX13_joins_108 (fun gr97 x99 J98 => ?_)
              refine wq_iadd dX13_joins_111 ?_
              refine wq_istore (lv' := [(5, vi (s67.1 + x99)), (7, vi (s67.2.2 + (if (w32 hj74e0) = 0 then 1 else 2))), (6, vi (s67.2.1 + 1)), (0, vr Z 26 0), (1, vi a1), (2, vi a2), (3, vi a3), (4, vi a4), (8, vi hj74e0)]) dX13_joins_112 (by decide) rfl ?_
              refine wq_goto 9 dX13_joins_114 (by decide) ?_
              exact WQ.loc [3, 4, 5, 6, 7, 0, 2, 1] rfl (bk62 _ _ _)) (fun hj100 => ?_)
          refine WQ.both ((w32 hj74e0) = 0) ?_
          refine wq_if_eq 100 dX13_joins_93 (by decide) rfl (fun c101 => ?_) (fun c101 => ?_)
          · refine wq_iconst dX13_joins_100 ?_
            exact WQ.top (if_pos c101) hj100
          · refine wq_iconst dX13_joins_96 ?_
            refine wq_goto 101 dX13_joins_97 (by decide) ?_
            exact WQ.top (if_neg c101) hj100
        refine wq_if_eq 76 dX13_joins_68 (by decide) rfl (fun c91 => ?_) (fun c91 => ?_)
        · refine wq_aload_n dX13_joins_76 1 rfl rfl ?_
          refine wq_iload_n dX13_joins_77 2 rfl rfl ?_
          refine wq_iload dX13_joins_78 8 rfl ?_
          refine wq_cVi M_M_at (R_M_at Z a1 s67.2.2 _) ob_26 rfl rfl (by decide) (by decide) (Nat.le_of_ble_eq_true rfl) ln_RX13_119 dX13_joins_80 (fun gr88 x90 J89 => ?_)
          exact WQ.loc [1, 2, 3, 4, 5, 6, 7, 8, 0] rfl (hj87 _  _ _)
        · refine wq_iload dX13_joins_71 5 rfl ?_
          refine wq_goto 83 dX13_joins_73 (by decide) ?_
          exact WQ.loc [1, 2, 3, 4, 5, 6, 7, 8, 0] rfl (hj87 _  _ _)
      have hj75 : ∀ (gr103 : Nat → Nat)   (J102 : Mem), WQ Z (yX13_joins, cX13_joins, 9, some .int, 2) I gr103 59 [(0, vr Z 26 0), (1, vi a1), (2, vi a2), (3, vi a3), (4, vi a4), (5, vi s67.1), (6, vi s67.2.1), (7, vi s67.2.2)] [] J102 (f_M_joins_j59 a1 a2 a3 a4 s67.1 s67.2.1 s67.2.2 J102) κ61 := by
        intro gr103 J102
        unfold f_M_joins_j59
        refine wq_iconst dX13_joins_59 ?_
        exact WQ.loc [0, 1, 2, 3, 4, 5, 6, 7] rfl (hj74 _  _ _)
      refine wq_icmp_ge 59 dX13_joins_28 (by decide) rfl rfl (fun c84 => ?_) (fun c84 => ?_)
      · refine wq_aload_n dX13_joins_31 0 rfl rfl ?_
        refine wq_iload_n dX13_joins_32 1 rfl rfl ?_
        refine wq_iload dX13_joins_33 7 rfl ?_
        refine wq_cVi M_M_at (R_M_at Z a1 s67.2.2 _) ob_26 rfl rfl (by decide) (by decide) (Nat.le_of_ble_eq_true rfl) ln_RX13_119 dX13_joins_35 (fun gr76 x78 J77 => ?_)
        refine wq_iload_n dX13_joins_38 2 rfl rfl ?_
        refine wq_icmp_ne 59 dX13_joins_39 (by decide) rfl rfl (fun c83 => ?_) (fun c83 => ?_)
        · refine wq_aload_n dX13_joins_42 0 rfl rfl ?_
          refine wq_iload_n dX13_joins_43 1 rfl rfl ?_
          refine wq_iload dX13_joins_44 7 rfl ?_
          refine wq_iconst dX13_joins_46 ?_
          refine wq_iadd dX13_joins_47 ?_
          refine wq_cVi M_M_at (R_M_at Z a1 (s67.2.2 + 1) _) ob_26 rfl rfl (by decide) (by decide) (Nat.le_of_ble_eq_true rfl) ln_RX13_119 dX13_joins_48 (fun gr79 x81 J80 => ?_)
          refine wq_iload_n dX13_joins_51 3 rfl rfl ?_
          refine wq_icmp_ne 59 dX13_joins_52 (by decide) rfl rfl (fun c82 => ?_) (fun c82 => ?_)
          · refine wq_iconst dX13_joins_55 ?_
            refine wq_goto 60 dX13_joins_56 (by decide) ?_
            exact WQ.loc [0, 1, 2, 3, 4, 5, 6, 7] rfl (hj74 _  _ _)
          · exact WQ.loc [0, 1, 2, 3, 4, 5, 6, 7] rfl (hj75 _   _)
        · exact WQ.loc [0, 1, 2, 3, 4, 5, 6, 7] rfl (hj75 _   _)
      · exact WQ.loc [0, 1, 2, 3, 4, 5, 6, 7] rfl (hj75 _   _)
    · exact WQ.loc [0, 1, 5, 6] rfl (ex63 _ _ _)
  · refine wq_aload_n dX13_joins_117 0 rfl rfl ?_
    refine g_26_0 ln_RX13_9 dX13_joins_118 ?_
    refine wq_bipush dX13_joins_121 (by decide) ?_
    refine wq_iload_n dX13_joins_123 1 rfl rfl ?_
    refine wq_iadd dX13_joins_124 ?_
    refine wq_iload dX13_joins_125 3 rfl ?_
    refine wq_grd (fun g108 => ?_)
    refine wq_iast (k := 27) (i := 0) (fun _ _ => rfl) (by decide) rfl rfl (m := 16860) g108 (Nat.le_of_ble_eq_true rfl) (by decide) (by decide) (by decide) dX13_joins_127 (fun J109 => ?_)
    refine wq_iload dX13_joins_128 2 rfl ?_
    exact wq_iret rfl rfl dX13_joins_130

theorem M_M_joins : MwV yX13_joins cX13_joins 9 (some .int) 4 := ⟨li_8 175 (by decide +kernel) (by decide +kernel), li_8 174 (by decide +kernel) (by decide +kernel), lw_in 98 (by decide +kernel) (by decide +kernel), li_1 16 (by decide +kernel) (by decide +kernel), by decide +kernel⟩
theorem M_M_counts : MwV yX13_counts cX13_counts 3 (none) 2 := ⟨li_8 179 (by decide +kernel) (by decide +kernel), li_8 178 (by decide +kernel) (by decide +kernel), lw_in 99 (by decide +kernel) (by decide +kernel), li_1 16 (by decide +kernel) (by decide +kernel), by decide +kernel⟩
theorem ln_RX13_177 : Cond.methodLink RX13 177 yX13_counts ∈ lw_good := li_8 176 (by decide +kernel) (by decide +kernel)
theorem ln_RX13_173 : Cond.methodLink RX13 173 yX13_joins ∈ lw_good := li_8 172 (by decide +kernel) (by decide +kernel)
theorem M_M_adds : MwV yX13_adds cX13_adds 3 (none) 2 := ⟨li_7 22 (by decide +kernel) (by decide +kernel), li_7 21 (by decide +kernel) (by decide +kernel), lw_in 48 (by decide +kernel) (by decide +kernel), li_1 16 (by decide +kernel) (by decide +kernel), by decide +kernel⟩
theorem ln_RX13_93 : Cond.methodLink RX13 93 yX13_adds ∈ lw_good := li_7 19 (by decide +kernel) (by decide +kernel)
noncomputable def f_M_makes_j79 (v1 : Int) (v2 : Int) (v3 : Int) (v4 : Int) (v5 : Int)   (I : Mem) : Option (((Int) ⊕ (Unit)) × Mem) :=
bnd (f_M_joins v5 v2 v3 (26 + v4) I) fun x22 J21 =>
bnd (f_M_counts 5 x22 J21) fun _ J24 =>
some (.inl (v5 + 1), J24)

noncomputable def f_M_makes_w38 (v1 : Int) (v2 : Int) (v3 : Int) (v4 : Int) (s : Int) (I : Mem) : Option (((Int) ⊕ (Unit)) × Mem) :=
if (w32 s) < 41 then
bnd (f_M_isAlone s I) fun x9 J8 =>
if (w32 x9) = 0 then
f_M_makes_j79 v1 v2 v3 v4 s J8
else
bnd (f_M_at s 0 J8) fun x13 J12 =>
if (w32 x13) = (w32 v2) then
bnd (f_M_at s 1 J12) fun x16 J15 =>
if (w32 x16) = (w32 v3) then
some (.inl (s + 1), J15)
else
f_M_makes_j79 v1 v2 v3 v4 s J15
else
f_M_makes_j79 v1 v2 v3 v4 s J12
else
some (.inr (), I)

noncomputable def f_M_makes_j33 (v1 : Int) (v2 : Int) (v3 : Int)  (e0 : Int) (I : Mem) : Option ((Int) × Mem) :=
bnd (whl (f_M_makes_w38 v1 v2 v3 e0) 0 I) fun r64 J65 =>
if 0 ≤ (w32 v1) ∧ (w32 v1) < 4356 then
if (w32 (J65 27 13 (w32 v1).toNat)) = (-1) then
bnd (f_M_adds (e0 + 1) v2 J65) fun _ J69 =>
bnd (f_M_adds (e0 + 1) v3 J69) fun _ J72 =>
bnd (f_M_counts 1 1 J72) fun _ J75 =>
some (e0, J75)
else
some (e0, J65)
else none

noncomputable def f_M_makes (a1 : Int) (I : Mem) : Option ((Int) × Mem) :=
if 0 ≤ (w32 a1) ∧ (w32 a1) < 4356 then
if (w32 (I 27 13 (w32 a1).toNat)) = (-1) then
bnd (f_M_freeRule I) fun x5 J4 =>
f_M_makes_j33 a1 (idv a1 66) (irm a1 66) x5 J4
else
f_M_makes_j33 a1 (idv a1 66) (irm a1 66) (I 27 13 (w32 a1).toNat) I
else none
set_option maxRecDepth 20000 in
theorem R_M_makes (Z : ZT) (a1 : Int) (I : Mem) (r : Int) (J : Mem) (hf : f_M_makes a1 I = some (r, J)) : Runs Z yX13_makes cX13_makes 6 (some .int) 4 [vr Z 26 0, vi a1] I (some (vi r), J) := by
  refine Runs.of (rv := fun x => some (vi x)) (by decide +kernel) (Nat.le_of_ble_eq_true rfl) hf (fun gr => ?_)
  unfold f_M_makes
  refine WQ.loc [0, 1] (lv' := [(0, vr Z 26 0), (1, vi a1)]) rfl ?_
  refine wq_iload_n dX13_makes_0 1 rfl rfl ?_
  refine wq_bipush dX13_makes_1 (by decide) ?_
  refine wq_idiv dX13_makes_3 (by decide) ?_
  refine wq_istore_n (lv' := [(2, vi (idv a1 66)), (0, vr Z 26 0), (1, vi a1)]) dX13_makes_4 rfl (by decide) rfl ?_
  refine wq_iload_n dX13_makes_5 2 rfl rfl ?_
  refine wq_bipush dX13_makes_6 (by decide) ?_
  refine wq_irem dX13_makes_8 (by decide) ?_
  refine wq_istore_n (lv' := [(3, vi (irm a1 66)), (2, vi (idv a1 66)), (0, vr Z 26 0), (1, vi a1)]) dX13_makes_9 rfl (by decide) rfl ?_
  refine wq_aload_n dX13_makes_10 2 rfl rfl ?_
  refine g_26_17 ln_RX13_55 dX13_makes_11 ?_
  refine wq_iload_n dX13_makes_14 3 rfl rfl ?_
  refine wq_grd (fun g1 => ?_)
  refine wq_iald (k := 27) (i := 13) rfl (by decide) rfl rfl (m := 4356) g1 (Nat.le_of_ble_eq_true rfl) dX13_makes_15 ?_
  refine wq_iconst dX13_makes_16 ?_
  have hj2 : ∀ (gr79 : Nat → Nat)  (hj2e0 : Int) (J78 : Mem), WQ Z (yX13_makes, cX13_makes, 6, some .int, 4) I gr79 33 [(0, vr Z 26 0), (1, vi a1), (2, vi (idv a1 66)), (3, vi (irm a1 66))] [vi hj2e0] J78 (f_M_makes_j33 a1 (idv a1 66) (irm a1 66) hj2e0 J78) (fun b K => some (.inl ((fun x => some (vi x)) b), K)) := by
    intro gr79 hj2e0 J78
    unfold f_M_makes_j33
    refine wq_istore (lv' := [(4, vi hj2e0), (0, vr Z 26 0), (1, vi a1), (2, vi (idv a1 66)), (3, vi (irm a1 66))]) dX13_makes_33 (by decide) rfl ?_
    refine wq_iconst dX13_makes_35 ?_
    refine wq_istore (lv' := [(5, vi 0), (4, vi hj2e0), (0, vr Z 26 0), (1, vi a1), (2, vi (idv a1 66)), (3, vi (irm a1 66))]) dX13_makes_36 (by decide) rfl ?_
    refine WQ.loc [2, 3, 4, 5, 1, 0] (lv' := [(0, vr Z 26 0), (1, vi a1), (2, vi (idv a1 66)), (3, vi (irm a1 66)), (4, vi hj2e0), (5, vi 0)]) rfl ?_
    refine wq_loopS (fun s86 => [(0, vr Z 26 0), (1, vi a1), (2, vi (idv a1 66)), (3, vi (irm a1 66)), (4, vi hj2e0), (5, vi s86)]) 103 (fun _ => [(0, vr Z 26 0), (1, vi a1), (2, vi (idv a1 66)), (3, vi (irm a1 66)), (4, vi hj2e0)]) (fun κ80 bk81 ex82 gr85 s86 J84 => ?_) (fun gr111 r109 J110 => ?_) gr79 _ rfl
    · unfold f_M_makes_w38
      refine wq_iload dX13_makes_38 5 rfl ?_
      refine wq_bipush dX13_makes_40 (by decide) ?_
      refine wq_icmp_ge 103 dX13_makes_42 (by decide) rfl rfl (fun c108 => ?_) (fun c108 => ?_)
      · refine wq_aload_n dX13_makes_45 0 rfl rfl ?_
        refine wq_iload dX13_makes_46 5 rfl ?_
        refine wq_cVi M_M_isAlone (R_M_isAlone Z s86 _) ob_26 rfl rfl (by decide) (by decide) (Nat.le_of_ble_eq_true rfl) ln_RX13_153 dX13_makes_48 (fun gr87 x89 J88 => ?_)
        have hj90 : ∀ (gr101 : Nat → Nat)   (J100 : Mem), WQ Z (yX13_makes, cX13_makes, 6, some .int, 4) I gr101 79 [(0, vr Z 26 0), (1, vi a1), (2, vi (idv a1 66)), (3, vi (irm a1 66)), (4, vi hj2e0), (5, vi s86)] [] J100 (f_M_makes_j79 a1 (idv a1 66) (irm a1 66) hj2e0 s86 J100) κ80 := by
          intro gr101 J100
          unfold f_M_makes_j79
          refine wq_aload_n dX13_makes_79 0 rfl rfl ?_
          refine wq_iconst dX13_makes_80 ?_
          refine wq_aload_n dX13_makes_81 0 rfl rfl ?_
          refine wq_iload dX13_makes_82 5 rfl ?_
          refine wq_iload_n dX13_makes_84 2 rfl rfl ?_
          refine wq_iload_n dX13_makes_85 3 rfl rfl ?_
          refine wq_bipush dX13_makes_86 (by decide) ?_
          refine wq_iload dX13_makes_88 4 rfl ?_
          refine wq_iadd dX13_makes_90 ?_
          refine wq_cVi M_M_joins (R_M_joins Z s86 (idv a1 66) (irm a1 66) (26 + hj2e0) _) ob_26 rfl rfl (by decide) (by decide) (Nat.le_of_ble_eq_true rfl) ln_RX13_173 dX13_makes_91 (fun gr102 x104 J103 => ?_)
          refine wq_cVv M_M_counts (R_M_counts Z 5 x104 _) ob_26 rfl rfl (by decide) (by decide) (Nat.le_of_ble_eq_true rfl) ln_RX13_177 dX13_makes_94 (fun gr105 _ J106 => ?_)
          refine wq_iinc (lv' := [(5, vi (s86 + 1)), (0, vr Z 26 0), (1, vi a1), (2, vi (idv a1 66)), (3, vi (irm a1 66)), (4, vi hj2e0)]) dX13_makes_97 5 rfl (by decide) rfl ?_
          refine wq_goto 38 dX13_makes_100 (by decide) ?_
          exact WQ.loc [1, 2, 3, 4, 5, 0] rfl (bk81 _ _ _)
        refine wq_if_eq 79 dX13_makes_51 (by decide) rfl (fun c99 => ?_) (fun c99 => ?_)
        · exact WQ.loc [0, 1, 2, 3, 4, 5] rfl (hj90 _   _)
        · refine wq_aload_n dX13_makes_54 0 rfl rfl ?_
          refine wq_iload dX13_makes_55 5 rfl ?_
          refine wq_iconst dX13_makes_57 ?_
          refine wq_cVi M_M_at (R_M_at Z s86 0 _) ob_26 rfl rfl (by decide) (by decide) (Nat.le_of_ble_eq_true rfl) ln_RX13_119 dX13_makes_58 (fun gr91 x93 J92 => ?_)
          refine wq_iload_n dX13_makes_61 2 rfl rfl ?_
          refine wq_icmp_ne 79 dX13_makes_62 (by decide) rfl rfl (fun c98 => ?_) (fun c98 => ?_)
          · refine wq_aload_n dX13_makes_65 0 rfl rfl ?_
            refine wq_iload dX13_makes_66 5 rfl ?_
            refine wq_iconst dX13_makes_68 ?_
            refine wq_cVi M_M_at (R_M_at Z s86 1 _) ob_26 rfl rfl (by decide) (by decide) (Nat.le_of_ble_eq_true rfl) ln_RX13_119 dX13_makes_69 (fun gr94 x96 J95 => ?_)
            refine wq_iload_n dX13_makes_72 3 rfl rfl ?_
            refine wq_icmp_ne 79 dX13_makes_73 (by decide) rfl rfl (fun c97 => ?_) (fun c97 => ?_)
            · refine wq_goto 97 dX13_makes_76 (by decide) ?_
              refine wq_iinc (lv' := [(5, vi (s86 + 1)), (0, vr Z 26 0), (1, vi a1), (2, vi (idv a1 66)), (3, vi (irm a1 66)), (4, vi hj2e0)]) dX13_makes_97 5 rfl (by decide) rfl ?_
              refine wq_goto 38 dX13_makes_100 (by decide) ?_
              exact WQ.loc [1, 2, 3, 4, 5, 0] rfl (bk81 _ _ _)
            · exact WQ.loc [0, 1, 2, 3, 4, 5] rfl (hj90 _   _)
          · exact WQ.loc [0, 1, 2, 3, 4, 5] rfl (hj90 _   _)
      · exact WQ.loc [0, 1, 2, 3, 4] rfl (ex82 _ _ _)
    · refine wq_aload_n dX13_makes_103 0 rfl rfl ?_
      refine g_26_17 ln_RX13_55 dX13_makes_104 ?_
      refine wq_iload_n dX13_makes_107 1 rfl rfl ?_
      refine wq_grd (fun g112 => ?_)
      refine wq_iald (k := 27) (i := 13) rfl (by decide) rfl rfl (m := 4356) g112 (Nat.le_of_ble_eq_true rfl) dX13_makes_108 ?_
      refine wq_iconst dX13_makes_109 ?_
      refine wq_icmp_eq 116 dX13_makes_110 (by decide) rfl rfl (fun c122 => ?_) (fun c122 => ?_)
      · refine wq_aload_n dX13_makes_116 0 rfl rfl ?_
        refine wq_iload dX13_makes_117 4 rfl ?_
        refine wq_iconst dX13_makes_119 ?_
        refine wq_iadd dX13_makes_120 ?_
        refine wq_iload_n dX13_makes_121 2 rfl rfl ?_
        refine wq_cVv M_M_adds (R_M_adds Z (hj2e0 + 1) (idv a1 66) _) ob_26 rfl rfl (by decide) (by decide) (Nat.le_of_ble_eq_true rfl) ln_RX13_93 dX13_makes_122 (fun gr113 _ J114 => ?_)
        refine wq_aload_n dX13_makes_125 0 rfl rfl ?_
        refine wq_iload dX13_makes_126 4 rfl ?_
        refine wq_iconst dX13_makes_128 ?_
        refine wq_iadd dX13_makes_129 ?_
        refine wq_iload_n dX13_makes_130 3 rfl rfl ?_
        refine wq_cVv M_M_adds (R_M_adds Z (hj2e0 + 1) (irm a1 66) _) ob_26 rfl rfl (by decide) (by decide) (Nat.le_of_ble_eq_true rfl) ln_RX13_93 dX13_makes_131 (fun gr116 _ J117 => ?_)
        refine wq_aload_n dX13_makes_134 0 rfl rfl ?_
        refine wq_iconst dX13_makes_135 ?_
        refine wq_iconst dX13_makes_136 ?_
        refine wq_cVv M_M_counts (R_M_counts Z 1 1 _) ob_26 rfl rfl (by decide) (by decide) (Nat.le_of_ble_eq_true rfl) ln_RX13_177 dX13_makes_137 (fun gr119 _ J120 => ?_)
        refine wq_iload dX13_makes_140 4 rfl ?_
        exact wq_iret rfl rfl dX13_makes_142
      · refine wq_iload dX13_makes_113 4 rfl ?_
        exact wq_iret rfl rfl dX13_makes_115
  refine wq_icmp_eq 29 dX13_makes_17 (by decide) rfl rfl (fun c6 => ?_) (fun c6 => ?_)
  · refine wq_aload_n dX13_makes_29 2 rfl rfl ?_
    refine wq_cVi M_M_freeRule (R_M_freeRule Z _) ob_26 rfl rfl (by decide) (by decide) (Nat.le_of_ble_eq_true rfl) ln_RX13_163 dX13_makes_30 (fun gr3 x5 J4 => ?_)
    exact WQ.loc [2, 3, 1, 0] rfl (hj2 _  _ _)
  · refine wq_aload_n dX13_makes_20 2 rfl rfl ?_
    refine g_26_17 ln_RX13_55 dX13_makes_21 ?_
    refine wq_iload_n dX13_makes_24 3 rfl rfl ?_
    refine wq_iald (k := 27) (i := 13) rfl (by decide) rfl rfl (m := 4356) g1 (Nat.le_of_ble_eq_true rfl) dX13_makes_25 ?_
    refine wq_goto 33 dX13_makes_26 (by decide) ?_
    exact WQ.loc [2, 3, 1, 0] rfl (hj2 _  _ _)

theorem M_M_usesOf : MwV yX13_usesOf cX13_usesOf 4 (some .int) 1 := ⟨li_8 191 (by decide +kernel) (by decide +kernel), li_8 190 (by decide +kernel) (by decide +kernel), lw_in 102 (by decide +kernel) (by decide +kernel), li_1 16 (by decide +kernel) (by decide +kernel), by decide +kernel⟩
theorem ln_RX13_180 : Cond.methodLink RX13 180 yX13_usesOf ∈ lw_good := li_8 188 (by decide +kernel) (by decide +kernel)
noncomputable def f_M_lonely_w2  (s : Int) (I : Mem) : Option (((Int) ⊕ (Int)) × Mem) :=
if (w32 s) < 40 then
bnd (f_M_isHere s I) fun x3 J2 =>
if (w32 x3) = 0 then
some (.inl (s + 1), J2)
else
bnd (f_M_usesOf s J2) fun x6 J5 =>
if (w32 x6) < 2 then
some (.inr (s), J5)
else
some (.inl (s + 1), J5)
else
some (.inr ((-1)), I)

noncomputable def f_M_lonely  (I : Mem) : Option ((Int) × Mem) :=
whl (f_M_lonely_w2) 0 I
set_option maxRecDepth 20000 in
theorem R_M_lonely (Z : ZT)  (I : Mem) (r : Int) (J : Mem) (hf : f_M_lonely I = some (r, J)) : Runs Z yX13_lonely cX13_lonely 2 (some .int) 4 [vr Z 26 0] I (some (vi r), J) := by
  refine Runs.of (rv := fun x => some (vi x)) (by decide +kernel) (Nat.le_of_ble_eq_true rfl) hf (fun gr => ?_)
  unfold f_M_lonely
  refine WQ.loc [0] (lv' := [(0, vr Z 26 0)]) rfl ?_
  refine wq_iconst dX13_lonely_0 ?_
  refine wq_istore_n (lv' := [(1, vi 0), (0, vr Z 26 0)]) dX13_lonely_1 rfl (by decide) rfl ?_
  refine WQ.loc [1, 0] (lv' := [(0, vr Z 26 0), (1, vi 0)]) rfl ?_
  refine wq_loop (fun s16 => [(0, vr Z 26 0), (1, vi s16)]) (fun κ10 bk11 hr13 gr15 s16 J14 => ?_) gr _ rfl
  unfold f_M_lonely_w2
  refine wq_iload_n dX13_lonely_2 1 rfl rfl ?_
  refine wq_bipush dX13_lonely_3 (by decide) ?_
  refine wq_icmp_ge 33 dX13_lonely_5 (by decide) rfl rfl (fun c25 => ?_) (fun c25 => ?_)
  · refine wq_aload_n dX13_lonely_8 0 rfl rfl ?_
    refine wq_iload_n dX13_lonely_9 1 rfl rfl ?_
    refine wq_cVi M_M_isHere (R_M_isHere Z s16 _) ob_26 rfl rfl (by decide) (by decide) (Nat.le_of_ble_eq_true rfl) ln_RX13_111 dX13_lonely_10 (fun gr17 x19 J18 => ?_)
    refine wq_if_eq 27 dX13_lonely_13 (by decide) rfl (fun c24 => ?_) (fun c24 => ?_)
    · refine wq_iinc (lv' := [(1, vi (s16 + 1)), (0, vr Z 26 0)]) dX13_lonely_27 1 rfl (by decide) rfl ?_
      refine wq_goto 2 dX13_lonely_30 (by decide) ?_
      exact WQ.loc [1, 0] rfl (bk11 _ _ _)
    · refine wq_aload_n dX13_lonely_16 0 rfl rfl ?_
      refine wq_iload_n dX13_lonely_17 1 rfl rfl ?_
      refine wq_cVi M_M_usesOf (R_M_usesOf Z s16 _) ob_26 rfl rfl (by decide) (by decide) (Nat.le_of_ble_eq_true rfl) ln_RX13_180 dX13_lonely_18 (fun gr20 x22 J21 => ?_)
      refine wq_iconst dX13_lonely_21 ?_
      refine wq_icmp_ge 27 dX13_lonely_22 (by decide) rfl rfl (fun c23 => ?_) (fun c23 => ?_)
      · refine wq_iload_n dX13_lonely_25 1 rfl rfl ?_
        exact wq_iret rfl ((hr13 _ _).trans rfl) dX13_lonely_26
      · refine wq_iinc (lv' := [(1, vi (s16 + 1)), (0, vr Z 26 0)]) dX13_lonely_27 1 rfl (by decide) rfl ?_
        refine wq_goto 2 dX13_lonely_30 (by decide) ?_
        exact WQ.loc [1, 0] rfl (bk11 _ _ _)
  · refine wq_iconst dX13_lonely_33 ?_
    exact wq_iret rfl ((hr13 _ _).trans rfl) dX13_lonely_34

theorem M_M_opens : MwV yX13_opens cX13_opens 6 (none) 3 := ⟨li_8 203 (by decide +kernel) (by decide +kernel), li_8 202 (by decide +kernel) (by decide +kernel), lw_in 105 (by decide +kernel) (by decide +kernel), li_1 16 (by decide +kernel) (by decide +kernel), by decide +kernel⟩
theorem ln_RX13_183 : Cond.methodLink RX13 183 yX13_opens ∈ lw_good := li_8 200 (by decide +kernel) (by decide +kernel)
theorem M_M_removes : MwV yX13_removes cX13_removes 2 (none) 1 := ⟨li_8 207 (by decide +kernel) (by decide +kernel), li_8 206 (by decide +kernel) (by decide +kernel), lw_in 106 (by decide +kernel) (by decide +kernel), li_1 16 (by decide +kernel) (by decide +kernel), by decide +kernel⟩
theorem ln_RX13_186 : Cond.methodLink RX13 186 yX13_removes ∈ lw_good := li_8 204 (by decide +kernel) (by decide +kernel)
noncomputable def f_M_unmakes_w19 (v1 : Int) (v3 : Int) (s : Int × Int) (I : Mem) : Option (((Int × Int) ⊕ (Int)) × Mem) :=
if (w32 s.2) < 0 then
some (.inr s.1, I)
else
bnd (f_M_at v3 s.2 I) fun x6 J5 =>
if (w32 x6) = (w32 (26 + v1)) then
bnd (f_M_opens v3 s.2 v1 J5) fun _ J8 =>
some (.inl ((s.1 + 1), (s.2 + (-1))), J8)
else
some (.inl (s.1, (s.2 + (-1))), J5)

noncomputable def f_M_unmakes_w4 (v1 : Int) (s : Int × Int) (I : Mem) : Option (((Int × Int) ⊕ (Int)) × Mem) :=
if (w32 s.2) < 41 then
bnd (f_M_many s.2 I) fun x3 J2 =>
bnd (whl (f_M_unmakes_w19 v1 s.2) (s.1, (x3 - 1)) J2) fun r27 J28 =>
some (.inl (r27, (s.2 + 1)), J28)
else
some (.inr s.1, I)

noncomputable def f_M_unmakes (a1 : Int) (I : Mem) : Option ((Int) × Mem) :=
bnd (whl (f_M_unmakes_w4 a1) (0, 0) I) fun r60 J61 =>
bnd (f_M_removes a1 J61) fun _ J64 =>
some (r60, J64)
set_option maxRecDepth 20000 in
theorem R_M_unmakes (Z : ZT) (a1 : Int) (I : Mem) (r : Int) (J : Mem) (hf : f_M_unmakes a1 I = some (r, J)) : Runs Z yX13_unmakes cX13_unmakes 5 (some .int) 3 [vr Z 26 0, vi a1] I (some (vi r), J) := by
  refine Runs.of (rv := fun x => some (vi x)) (by decide +kernel) (Nat.le_of_ble_eq_true rfl) hf (fun gr => ?_)
  unfold f_M_unmakes
  refine WQ.loc [0, 1] (lv' := [(0, vr Z 26 0), (1, vi a1)]) rfl ?_
  refine wq_iconst dX13_unmakes_0 ?_
  refine wq_istore_n (lv' := [(2, vi 0), (0, vr Z 26 0), (1, vi a1)]) dX13_unmakes_1 rfl (by decide) rfl ?_
  refine wq_iconst dX13_unmakes_2 ?_
  refine wq_istore_n (lv' := [(3, vi 0), (2, vi 0), (0, vr Z 26 0), (1, vi a1)]) dX13_unmakes_3 rfl (by decide) rfl ?_
  refine WQ.loc [2, 3, 1, 0] (lv' := [(0, vr Z 26 0), (1, vi a1), (2, vi 0), (3, vi 0)]) rfl ?_
  refine wq_loopS (fun s37 => [(0, vr Z 26 0), (1, vi a1), (2, vi s37.1), (3, vi s37.2)]) 64 (fun r60 => [(0, vr Z 26 0), (1, vi a1), (2, vi r60)]) (fun κ31 bk32 ex33 gr36 s37 J35 => ?_) (fun gr62 r60 J61 => ?_) gr _ rfl
  · unfold f_M_unmakes_w4
    refine wq_iload_n dX13_unmakes_4 3 rfl rfl ?_
    refine wq_bipush dX13_unmakes_5 (by decide) ?_
    refine wq_icmp_ge 64 dX13_unmakes_7 (by decide) rfl rfl (fun c59 => ?_) (fun c59 => ?_)
    · refine wq_aload_n dX13_unmakes_10 0 rfl rfl ?_
      refine wq_iload_n dX13_unmakes_11 3 rfl rfl ?_
      refine wq_cVi M_M_many (R_M_many Z s37.2 _) ob_26 rfl rfl (by decide) (by decide) (Nat.le_of_ble_eq_true rfl) ln_RX13_103 dX13_unmakes_12 (fun gr38 x40 J39 => ?_)
      refine wq_iconst dX13_unmakes_15 ?_
      refine wq_isub dX13_unmakes_16 ?_
      refine wq_istore (lv' := [(4, vi (x40 - 1)), (0, vr Z 26 0), (1, vi a1), (2, vi s37.1), (3, vi s37.2)]) dX13_unmakes_17 (by decide) rfl ?_
      refine WQ.loc [1, 2, 3, 4, 0] (lv' := [(0, vr Z 26 0), (1, vi a1), (2, vi s37.1), (3, vi s37.2), (4, vi (x40 - 1))]) rfl ?_
      refine wq_loopS (fun s47 => [(0, vr Z 26 0), (1, vi a1), (2, vi s47.1), (3, vi s37.2), (4, vi s47.2)]) 58 (fun r56 => [(0, vr Z 26 0), (1, vi a1), (2, vi r56), (3, vi s37.2)]) (fun κ41 bk42 ex43 gr46 s47 J45 => ?_) (fun gr58 r56 J57 => ?_) gr38 _ rfl
      · unfold f_M_unmakes_w19
        refine wq_iload dX13_unmakes_19 4 rfl ?_
        refine wq_if_lt 58 dX13_unmakes_21 (by decide) rfl (fun c55 => ?_) (fun c55 => ?_)
        · exact WQ.loc [0, 1, 2, 3] rfl (ex43 _ _ _)
        · refine wq_aload_n dX13_unmakes_24 0 rfl rfl ?_
          refine wq_iload_n dX13_unmakes_25 3 rfl rfl ?_
          refine wq_iload dX13_unmakes_26 4 rfl ?_
          refine wq_cVi M_M_at (R_M_at Z s37.2 s47.2 _) ob_26 rfl rfl (by decide) (by decide) (Nat.le_of_ble_eq_true rfl) ln_RX13_119 dX13_unmakes_28 (fun gr48 x50 J49 => ?_)
          refine wq_bipush dX13_unmakes_31 (by decide) ?_
          refine wq_iload_n dX13_unmakes_33 1 rfl rfl ?_
          refine wq_iadd dX13_unmakes_34 ?_
          refine wq_icmp_eq 41 dX13_unmakes_35 (by decide) rfl rfl (fun c54 => ?_) (fun c54 => ?_)
          · refine wq_aload_n dX13_unmakes_41 0 rfl rfl ?_
            refine wq_iload_n dX13_unmakes_42 3 rfl rfl ?_
            refine wq_iload dX13_unmakes_43 4 rfl ?_
            refine wq_iload_n dX13_unmakes_45 1 rfl rfl ?_
            refine wq_cVv M_M_opens (R_M_opens Z s37.2 s47.2 a1 _) ob_26 rfl rfl (by decide) (by decide) (Nat.le_of_ble_eq_true rfl) ln_RX13_183 dX13_unmakes_46 (fun gr51 _ J52 => ?_)
            refine wq_iinc (lv' := [(2, vi (s47.1 + 1)), (0, vr Z 26 0), (1, vi a1), (3, vi s37.2), (4, vi s47.2)]) dX13_unmakes_49 2 rfl (by decide) rfl ?_
            refine wq_iinc (lv' := [(4, vi (s47.2 + (-1))), (2, vi (s47.1 + 1)), (0, vr Z 26 0), (1, vi a1), (3, vi s37.2)]) dX13_unmakes_52 4 rfl (by decide) rfl ?_
            refine wq_goto 19 dX13_unmakes_55 (by decide) ?_
            exact WQ.loc [2, 3, 1, 4, 0] rfl (bk42 _ _ _)
          · refine wq_goto 52 dX13_unmakes_38 (by decide) ?_
            refine wq_iinc (lv' := [(4, vi (s47.2 + (-1))), (0, vr Z 26 0), (1, vi a1), (2, vi s47.1), (3, vi s37.2)]) dX13_unmakes_52 4 rfl (by decide) rfl ?_
            refine wq_goto 19 dX13_unmakes_55 (by decide) ?_
            exact WQ.loc [1, 2, 3, 4, 0] rfl (bk42 _ _ _)
      · refine wq_iinc (lv' := [(3, vi (s37.2 + 1)), (0, vr Z 26 0), (1, vi a1), (2, vi r56)]) dX13_unmakes_58 3 rfl (by decide) rfl ?_
        refine wq_goto 4 dX13_unmakes_61 (by decide) ?_
        exact WQ.loc [1, 2, 3, 0] rfl (bk32 _ _ _)
    · exact WQ.loc [0, 1, 2] rfl (ex33 _ _ _)
  · refine wq_aload_n dX13_unmakes_64 0 rfl rfl ?_
    refine wq_iload_n dX13_unmakes_65 1 rfl rfl ?_
    refine wq_cVv M_M_removes (R_M_removes Z a1 _) ob_26 rfl rfl (by decide) (by decide) (Nat.le_of_ble_eq_true rfl) ln_RX13_186 dX13_unmakes_66 (fun gr63 _ J64 => ?_)
    refine wq_iload_n dX13_unmakes_69 2 rfl rfl ?_
    exact wq_iret rfl rfl dX13_unmakes_70

theorem M_M_lonely : MwV yX13_lonely cX13_lonely 2 (some .int) 0 := ⟨li_8 187 (by decide +kernel) (by decide +kernel), li_8 186 (by decide +kernel) (by decide +kernel), lw_in 101 (by decide +kernel) (by decide +kernel), li_1 16 (by decide +kernel) (by decide +kernel), by decide +kernel⟩
theorem M_M_unmakes : MwV yX13_unmakes cX13_unmakes 5 (some .int) 1 := ⟨li_8 199 (by decide +kernel) (by decide +kernel), li_8 198 (by decide +kernel) (by decide +kernel), lw_in 104 (by decide +kernel) (by decide +kernel), li_1 16 (by decide +kernel) (by decide +kernel), by decide +kernel⟩
theorem ln_RX13_189 : Cond.methodLink RX13 189 yX13_lonely ∈ lw_good := li_8 184 (by decide +kernel) (by decide +kernel)
theorem ln_RX13_192 : Cond.methodLink RX13 192 yX13_unmakes ∈ lw_good := li_8 196 (by decide +kernel) (by decide +kernel)
noncomputable def f_M_inlines_w7  (s : Int × Int) (I : Mem) : Option (((Int × Int) ⊕ (Int)) × Mem) :=
if (w32 s.2) = (-1) then
some (.inr s.1, I)
else
bnd (f_M_unmakes s.2 I) fun x6 J5 =>
bnd (f_M_counts (if 0 < (w32 x6) then 2 else 3) 1 J5) fun _ J8 =>
bnd (f_M_lonely J8) fun x12 J11 =>
some (.inl ((s.1 + 1), x12), J11)

noncomputable def f_M_inlines  (I : Mem) : Option ((Int) × Mem) :=
bnd (f_M_lonely I) fun x3 J2 =>
bnd (whl (f_M_inlines_w7) (0, x3) J2) fun r35 J36 =>
some (r35, J36)
set_option maxRecDepth 20000 in
theorem R_M_inlines (Z : ZT)  (I : Mem) (r : Int) (J : Mem) (hf : f_M_inlines I = some (r, J)) : Runs Z yX13_inlines cX13_inlines 3 (some .int) 5 [vr Z 26 0] I (some (vi r), J) := by
  refine Runs.of (rv := fun x => some (vi x)) (by decide +kernel) (Nat.le_of_ble_eq_true rfl) hf (fun gr => ?_)
  unfold f_M_inlines
  refine WQ.loc [0] (lv' := [(0, vr Z 26 0)]) rfl ?_
  refine wq_iconst dX13_inlines_0 ?_
  refine wq_istore_n (lv' := [(1, vi 0), (0, vr Z 26 0)]) dX13_inlines_1 rfl (by decide) rfl ?_
  refine wq_aload_n dX13_inlines_2 1 rfl rfl ?_
  refine wq_cVi M_M_lonely (R_M_lonely Z _) ob_26 rfl rfl (by decide) (by decide) (Nat.le_of_ble_eq_true rfl) ln_RX13_189 dX13_inlines_3 (fun gr1 x3 J2 => ?_)
  refine wq_istore_n (lv' := [(2, vi x3), (1, vi 0), (0, vr Z 26 0)]) dX13_inlines_6 rfl (by decide) rfl ?_
  refine WQ.loc [2, 1, 0] (lv' := [(0, vr Z 26 0), (1, vi 0), (2, vi x3)]) rfl ?_
  refine wq_loopS (fun s22 => [(0, vr Z 26 0), (1, vi s22.1), (2, vi s22.2)]) 41 (fun r35 => [(1, vi r35)]) (fun κ16 bk17 ex18 gr21 s22 J20 => ?_) (fun gr37 r35 J36 => ?_) gr1 _ rfl
  · unfold f_M_inlines_w7
    refine wq_iload_n dX13_inlines_7 2 rfl rfl ?_
    refine wq_iconst dX13_inlines_8 ?_
    refine wq_icmp_eq 41 dX13_inlines_9 (by decide) rfl rfl (fun c34 => ?_) (fun c34 => ?_)
    · exact WQ.loc [1] rfl (ex18 _ _ _)
    · refine wq_aload_n dX13_inlines_12 0 rfl rfl ?_
      refine wq_aload_n dX13_inlines_13 0 rfl rfl ?_
      refine wq_iload_n dX13_inlines_14 2 rfl rfl ?_
      refine wq_cVi M_M_unmakes (R_M_unmakes Z s22.2 _) ob_26 rfl rfl (by decide) (by decide) (Nat.le_of_ble_eq_true rfl) ln_RX13_192 dX13_inlines_15 (fun gr23 x25 J24 => ?_)
      refine WQ.via 26 [vi (if 0 < (w32 x25) then 2 else 3), vr Z 26 0] (by
          refine wq_iconst dX13_inlines_26 ?_
          refine wq_cVv M_M_counts (R_M_counts Z (if 0 < (w32 x25) then 2 else 3) 1 _) ob_26 rfl rfl (by decide) (by decide) (Nat.le_of_ble_eq_true rfl) ln_RX13_177 dX13_inlines_27 (fun gr26 _ J27 => ?_)
          refine wq_iinc (lv' := [(1, vi (s22.1 + 1)), (0, vr Z 26 0), (2, vi s22.2)]) dX13_inlines_30 1 rfl (by decide) rfl ?_
          refine wq_aload_n dX13_inlines_33 1 rfl rfl ?_
          refine wq_cVi M_M_lonely (R_M_lonely Z _) ob_26 rfl rfl (by decide) (by decide) (Nat.le_of_ble_eq_true rfl) ln_RX13_189 dX13_inlines_34 (fun gr29 x31 J30 => ?_)
          refine wq_istore_n (lv' := [(2, vi x31), (1, vi (s22.1 + 1)), (0, vr Z 26 0)]) dX13_inlines_37 rfl (by decide) rfl ?_
          refine wq_goto 7 dX13_inlines_38 (by decide) ?_
          exact WQ.loc [2, 1, 0] rfl (bk17 _ _ _)) (fun hj32 => ?_)
      refine WQ.both (0 < (w32 x25)) ?_
      refine wq_if_le 25 dX13_inlines_18 (by decide) rfl (fun c33 => ?_) (fun c33 => ?_)
      · refine wq_iconst dX13_inlines_21 ?_
        refine wq_goto 26 dX13_inlines_22 (by decide) ?_
        exact WQ.top (if_pos c33) hj32
      · refine wq_iconst dX13_inlines_25 ?_
        exact WQ.top (if_neg c33) hj32
  · refine wq_iload_n dX13_inlines_41 0 rfl rfl ?_
    exact wq_iret rfl rfl dX13_inlines_42

theorem M_M_bestPair : MwV yX13_bestPair cX13_bestPair 4 (some .int) 0 := ⟨li_8 140 (by decide +kernel) (by decide +kernel), li_8 139 (by decide +kernel) (by decide +kernel), lw_in 90 (by decide +kernel) (by decide +kernel), li_1 16 (by decide +kernel) (by decide +kernel), by decide +kernel⟩
theorem M_M_makes : MwV yX13_makes cX13_makes 6 (some .int) 1 := ⟨li_8 171 (by decide +kernel) (by decide +kernel), li_8 170 (by decide +kernel) (by decide +kernel), lw_in 97 (by decide +kernel) (by decide +kernel), li_1 16 (by decide +kernel) (by decide +kernel), by decide +kernel⟩
theorem M_M_inlines : MwV yX13_inlines cX13_inlines 3 (some .int) 0 := ⟨li_8 183 (by decide +kernel) (by decide +kernel), li_8 182 (by decide +kernel) (by decide +kernel), lw_in 100 (by decide +kernel) (by decide +kernel), li_1 16 (by decide +kernel) (by decide +kernel), by decide +kernel⟩
theorem ln_RX13_201 : Cond.methodLink RX13 201 yX13_inlines ∈ lw_good := li_8 180 (by decide +kernel) (by decide +kernel)
theorem ln_RX13_198 : Cond.methodLink RX13 198 yX13_makes ∈ lw_good := li_8 168 (by decide +kernel) (by decide +kernel)
theorem ln_RX13_195 : Cond.methodLink RX13 195 yX13_bestPair ∈ lw_good := li_8 137 (by decide +kernel) (by decide +kernel)
noncomputable def f_M_steps_j42 (v2 : Int)  (e0 : Int) (I : Mem) : Option ((Int) × Mem) :=
if (w32 v2) < 0 then
some (0, I)
else
if (w32 e0) < 0 then
some (0, I)
else
some (1, I)

noncomputable def f_M_steps  (I : Mem) : Option ((Int) × Mem) :=
bnd (f_M_bestPair I) fun x3 J2 =>
if (w32 x3) = (-1) then
some (0, J2)
else
bnd (f_M_makes x3 J2) fun x6 J5 =>
bnd (f_M_counts 0 1 J5) fun _ J8 =>
if (w32 (J8 27 0 2)) = 1 then
bnd (f_M_inlines J8) fun x14 J13 =>
f_M_steps_j42 x6 x14 J13
else
f_M_steps_j42 x6 0 J8
set_option maxRecDepth 20000 in
theorem R_M_steps (Z : ZT)  (I : Mem) (r : Int) (J : Mem) (hf : f_M_steps I = some (r, J)) : Runs Z yX13_steps cX13_steps 4 (some .boolean) 6 [vr Z 26 0] I (some (vi r), J) := by
  refine Runs.of (rv := fun x => some (vi x)) (by decide +kernel) (Nat.le_of_ble_eq_true rfl) hf (fun gr => ?_)
  unfold f_M_steps
  refine WQ.loc [0] (lv' := [(0, vr Z 26 0)]) rfl ?_
  refine wq_aload_n dX13_steps_0 0 rfl rfl ?_
  refine wq_cVi M_M_bestPair (R_M_bestPair Z _) ob_26 rfl rfl (by decide) (by decide) (Nat.le_of_ble_eq_true rfl) ln_RX13_195 dX13_steps_1 (fun gr1 x3 J2 => ?_)
  refine wq_istore_n (lv' := [(1, vi x3), (0, vr Z 26 0)]) dX13_steps_4 rfl (by decide) rfl ?_
  refine wq_iload_n dX13_steps_5 0 rfl rfl ?_
  refine wq_iconst dX13_steps_6 ?_
  refine wq_icmp_ne 12 dX13_steps_7 (by decide) rfl rfl (fun c22 => ?_) (fun c22 => ?_)
  · refine wq_iconst dX13_steps_10 ?_
    exact wq_zret rfl (by decide) rfl dX13_steps_11
  · refine wq_aload_n dX13_steps_12 1 rfl rfl ?_
    refine wq_iload_n dX13_steps_13 0 rfl rfl ?_
    refine wq_cVi M_M_makes (R_M_makes Z x3 _) ob_26 rfl rfl (by decide) (by decide) (Nat.le_of_ble_eq_true rfl) ln_RX13_198 dX13_steps_14 (fun gr4 x6 J5 => ?_)
    refine wq_istore_n (lv' := [(2, vi x6), (1, vi x3), (0, vr Z 26 0)]) dX13_steps_17 rfl (by decide) rfl ?_
    refine wq_aload_n dX13_steps_18 2 rfl rfl ?_
    refine wq_iconst dX13_steps_19 ?_
    refine wq_iconst dX13_steps_20 ?_
    refine wq_cVv M_M_counts (R_M_counts Z 0 1 _) ob_26 rfl rfl (by decide) (by decide) (Nat.le_of_ble_eq_true rfl) ln_RX13_177 dX13_steps_21 (fun gr7 _ J8 => ?_)
    refine wq_aload_n dX13_steps_24 2 rfl rfl ?_
    refine g_26_0 ln_RX13_9 dX13_steps_25 ?_
    refine wq_iconst dX13_steps_28 ?_
    refine wq_iald (k := 27) (i := 0) rfl (by decide) rfl rfl (m := 16860) (by decide) (Nat.le_of_ble_eq_true rfl) dX13_steps_29 ?_
    refine wq_iconst dX13_steps_30 ?_
    have hj11 : ∀ (gr19 : Nat → Nat)  (hj11e0 : Int) (J18 : Mem), WQ Z (yX13_steps, cX13_steps, 4, some .boolean, 6) I gr19 42 [(2, vi x6)] [vi hj11e0] J18 (f_M_steps_j42 x6 hj11e0 J18) (fun b K => some (.inl ((fun x => some (vi x)) b), K)) := by
      intro gr19 hj11e0 J18
      unfold f_M_steps_j42
      refine wq_istore_n (lv' := [(3, vi hj11e0), (2, vi x6)]) dX13_steps_42 rfl (by decide) rfl ?_
      refine wq_iload_n dX13_steps_43 1 rfl rfl ?_
      refine wq_if_lt 55 dX13_steps_44 (by decide) rfl (fun c21 => ?_) (fun c21 => ?_)
      · refine wq_iconst dX13_steps_55 ?_
        exact wq_zret rfl (by decide) rfl dX13_steps_56
      · refine wq_iload_n dX13_steps_47 0 rfl rfl ?_
        refine wq_if_lt 55 dX13_steps_48 (by decide) rfl (fun c20 => ?_) (fun c20 => ?_)
        · refine wq_iconst dX13_steps_55 ?_
          exact wq_zret rfl (by decide) rfl dX13_steps_56
        · refine wq_iconst dX13_steps_51 ?_
          refine wq_goto 56 dX13_steps_52 (by decide) ?_
          exact wq_zret rfl (by decide) rfl dX13_steps_56
    refine wq_icmp_ne 41 dX13_steps_31 (by decide) rfl rfl (fun c15 => ?_) (fun c15 => ?_)
    · refine wq_aload_n dX13_steps_34 2 rfl rfl ?_
      refine wq_cVi M_M_inlines (R_M_inlines Z _) ob_26 rfl rfl (by decide) (by decide) (Nat.le_of_ble_eq_true rfl) ln_RX13_201 dX13_steps_35 (fun gr12 x14 J13 => ?_)
      refine wq_goto 42 dX13_steps_38 (by decide) ?_
      exact WQ.loc [0] rfl (hj11 _  _ _)
    · refine wq_iconst dX13_steps_41 ?_
      exact WQ.loc [0] rfl (hj11 _  _ _)

theorem M_M_steps : MwV yX13_steps cX13_steps 4 (some .boolean) 0 := ⟨li_8 136 (by decide +kernel) (by decide +kernel), li_8 135 (by decide +kernel) (by decide +kernel), lw_in 89 (by decide +kernel) (by decide +kernel), li_1 16 (by decide +kernel) (by decide +kernel), by decide +kernel⟩
theorem ln_RX13_204 : Cond.methodLink RX13 204 yX13_steps ∈ lw_good := li_8 133 (by decide +kernel) (by decide +kernel)
noncomputable def f_M_stepsMany_w2 (v1 : Int) (s : Int) (I : Mem) : Option (((Int) ⊕ (Int)) × Mem) :=
if (w32 s) < (w32 v1) then
bnd (f_M_steps I) fun x3 J2 =>
if (w32 x3) = 0 then
some (.inr s, J2)
else
some (.inl (s + 1), J2)
else
some (.inr s, I)

noncomputable def f_M_stepsMany (a1 : Int) (I : Mem) : Option ((Int) × Mem) :=
bnd (whl (f_M_stepsMany_w2 a1) 0 I) fun r18 J19 =>
some (r18, J19)
set_option maxRecDepth 20000 in
theorem R_M_stepsMany (Z : ZT) (a1 : Int) (I : Mem) (r : Int) (J : Mem) (hf : f_M_stepsMany a1 I = some (r, J)) : Runs Z yX13_stepsMany cX13_stepsMany 3 (some .int) 7 [vr Z 26 0, vi a1] I (some (vi r), J) := by
  refine Runs.of (rv := fun x => some (vi x)) (by decide +kernel) (Nat.le_of_ble_eq_true rfl) hf (fun gr => ?_)
  unfold f_M_stepsMany
  refine WQ.loc [0, 1] (lv' := [(0, vr Z 26 0), (1, vi a1)]) rfl ?_
  refine wq_iconst dX13_stepsMany_0 ?_
  refine wq_istore_n (lv' := [(2, vi 0), (0, vr Z 26 0), (1, vi a1)]) dX13_stepsMany_1 rfl (by decide) rfl ?_
  refine WQ.loc [1, 2, 0] (lv' := [(0, vr Z 26 0), (1, vi a1), (2, vi 0)]) rfl ?_
  refine wq_loopS (fun s12 => [(0, vr Z 26 0), (1, vi a1), (2, vi s12)]) 20 (fun r18 => [(2, vi r18)]) (fun κ6 bk7 ex8 gr11 s12 J10 => ?_) (fun gr20 r18 J19 => ?_) gr _ rfl
  · unfold f_M_stepsMany_w2
    refine wq_iload_n dX13_stepsMany_2 2 rfl rfl ?_
    refine wq_iload_n dX13_stepsMany_3 1 rfl rfl ?_
    refine wq_icmp_ge 20 dX13_stepsMany_4 (by decide) rfl rfl (fun c17 => ?_) (fun c17 => ?_)
    · refine wq_aload_n dX13_stepsMany_7 0 rfl rfl ?_
      refine wq_cVi M_M_steps (R_M_steps Z _) ob_26 rfl rfl (by decide) (by decide) (Nat.le_of_ble_eq_true rfl) ln_RX13_204 dX13_stepsMany_8 (fun gr13 x15 J14 => ?_)
      refine wq_if_eq 20 dX13_stepsMany_11 (by decide) rfl (fun c16 => ?_) (fun c16 => ?_)
      · exact WQ.loc [2] rfl (ex8 _ _ _)
      · refine wq_iinc (lv' := [(2, vi (s12 + 1)), (0, vr Z 26 0), (1, vi a1)]) dX13_stepsMany_14 2 rfl (by decide) rfl ?_
        refine wq_goto 2 dX13_stepsMany_17 (by decide) ?_
        exact WQ.loc [1, 2, 0] rfl (bk7 _ _ _)
    · exact WQ.loc [2] rfl (ex8 _ _ _)
  · refine wq_iload_n dX13_stepsMany_20 0 rfl rfl ?_
    exact wq_iret rfl rfl dX13_stepsMany_21

theorem ln_RX13_13 : Cond.fieldLink RX13 13 RX13 "other" "[I" ∈ lw_good := li_7 55 (by decide +kernel) (by decide +kernel)
theorem M_M_lays : MwS yX13_lays cX13_lays 5 (none) 4 := ⟨li_7 212 (by decide +kernel) (by decide +kernel), li_7 211 (by decide +kernel) (by decide +kernel), li_1 16 (by decide +kernel) (by decide +kernel), by decide +kernel⟩
theorem ln_RX13_208 : Cond.methodLink RX13 208 yX13_lays ∈ lw_good := li_7 210 (by decide +kernel) (by decide +kernel)
noncomputable def f_M_aside  (I : Mem) : Option ((Unit) × Mem) :=
bnd (f_M_lays 0 0 1 0 I) fun _ J2 =>
some ((), J2)
set_option maxRecDepth 20000 in
theorem R_M_aside (Z : ZT)  (I : Mem) (r : Unit) (J : Mem) (hf : f_M_aside I = some (r, J)) : Runs Z yX13_aside cX13_aside 1 (none) 2 [vr Z 26 0] I (none, J) := by
  refine Runs.of (rv := fun _ => none) (by decide +kernel) (Nat.le_of_ble_eq_true rfl) hf (fun gr => ?_)
  unfold f_M_aside
  refine WQ.loc [0] (lv' := [(0, vr Z 26 0)]) rfl ?_
  refine wq_aload_n dX13_aside_0 0 rfl rfl ?_
  refine g_26_0 ln_RX13_9 dX13_aside_1 ?_
  refine wq_iconst dX13_aside_4 ?_
  refine wq_aload_n dX13_aside_5 0 rfl rfl ?_
  refine g_26_1 ln_RX13_13 dX13_aside_6 ?_
  refine wq_iconst dX13_aside_9 ?_
  refine wq_cSv M_M_lays (R_M_lays Z 0 0 1 0 _) rfl rfl rfl (by decide) (by decide) (Nat.le_of_ble_eq_true rfl) ln_RX13_208 dX13_aside_10 (fun gr1 _ J2 => ?_)
  exact wq_vret rfl rfl dX13_aside_13

noncomputable def f_M_back (a1 : Int) (I : Mem) : Option ((Int) × Mem) :=
bnd (f_M_lays 1 0 0 0 I) fun _ J2 =>
some (a1, J2)
set_option maxRecDepth 20000 in
theorem R_M_back (Z : ZT) (a1 : Int) (I : Mem) (r : Int) (J : Mem) (hf : f_M_back a1 I = some (r, J)) : Runs Z yX13_back cX13_back 2 (some .int) 2 [vr Z 26 0, vi a1] I (some (vi r), J) := by
  refine Runs.of (rv := fun x => some (vi x)) (by decide +kernel) (Nat.le_of_ble_eq_true rfl) hf (fun gr => ?_)
  unfold f_M_back
  refine WQ.loc [0, 1] (lv' := [(0, vr Z 26 0), (1, vi a1)]) rfl ?_
  refine wq_aload_n dX13_back_0 0 rfl rfl ?_
  refine g_26_1 ln_RX13_13 dX13_back_1 ?_
  refine wq_iconst dX13_back_4 ?_
  refine wq_aload_n dX13_back_5 0 rfl rfl ?_
  refine g_26_0 ln_RX13_9 dX13_back_6 ?_
  refine wq_iconst dX13_back_9 ?_
  refine wq_cSv M_M_lays (R_M_lays Z 1 0 0 0 _) rfl rfl rfl (by decide) (by decide) (Nat.le_of_ble_eq_true rfl) ln_RX13_208 dX13_back_10 (fun gr1 _ J2 => ?_)
  refine wq_iload_n dX13_back_13 1 rfl rfl ?_
  exact wq_iret rfl rfl dX13_back_14

theorem ln_RX13_58 : Cond.fieldLink RX13 58 RX13 "buffer" "[I" ∈ lw_good := li_7 73 (by decide +kernel) (by decide +kernel)
theorem ln_RX13_212 : Cond.fieldLink RX13 212 RX13 "filled" "I" ∈ lw_good := li_7 74 (by decide +kernel) (by decide +kernel)
noncomputable def f_M_feeds_w3 (v1 : Int) (s : Int) (I : Mem) : Option (((Int) ⊕ (Unit)) × Mem) :=
if (w32 s) < 0 then
some (.inr (), I)
else
if (w32 (ian (isr v1 s) 255)) = 0 then
some (.inl (s + (-8)), I)
else
if 0 ≤ (w32 (I 26 0 20)) ∧ (w32 (I 26 0 20)) < 600 then
ltI (sI I 27 14 (w32 (I 26 0 20)).toNat (ian (isr v1 s) 255)) fun J2 =>
ltI (sI J2 26 0 20 ((J2 26 0 20) + 1)) fun J3 =>
some (.inl (s + (-8)), J3)
else none

noncomputable def f_M_feeds (a1 : Int) (I : Mem) : Option ((Unit) × Mem) :=
bnd (whl (f_M_feeds_w3 a1) 24 I) fun r18 J19 =>
some ((), J19)
set_option maxRecDepth 20000 in
theorem R_M_feeds (Z : ZT) (a1 : Int) (I : Mem) (r : Unit) (J : Mem) (hf : f_M_feeds a1 I = some (r, J)) : Runs Z yX13_feeds cX13_feeds 4 (none) 1 [vr Z 26 0, vi a1] I (none, J) := by
  refine Runs.of (rv := fun _ => none) (by decide +kernel) (Nat.le_of_ble_eq_true rfl) hf (fun gr => ?_)
  unfold f_M_feeds
  refine WQ.loc [0, 1] (lv' := [(0, vr Z 26 0), (1, vi a1)]) rfl ?_
  refine wq_bipush dX13_feeds_0 (by decide) ?_
  refine wq_istore_n (lv' := [(2, vi 24), (0, vr Z 26 0), (1, vi a1)]) dX13_feeds_2 rfl (by decide) rfl ?_
  refine WQ.loc [1, 2, 0] (lv' := [(0, vr Z 26 0), (1, vi a1), (2, vi 24)]) rfl ?_
  refine wq_loopS (fun s12 => [(0, vr Z 26 0), (1, vi a1), (2, vi s12)]) 48 (fun _ => []) (fun κ6 bk7 ex8 gr11 s12 J10 => ?_) (fun gr20 r18 J19 => ?_) gr _ rfl
  · unfold f_M_feeds_w3
    refine wq_iload_n dX13_feeds_3 2 rfl rfl ?_
    refine wq_if_lt 48 dX13_feeds_4 (by decide) rfl (fun c17 => ?_) (fun c17 => ?_)
    · exact WQ.loc [] rfl (ex8 _ _ _)
    · refine wq_iload_n dX13_feeds_7 1 rfl rfl ?_
      refine wq_iload_n dX13_feeds_8 2 rfl rfl ?_
      refine wq_ishr dX13_feeds_9 ?_
      refine wq_sipush dX13_feeds_10 (by decide) ?_
      refine wq_iand dX13_feeds_13 ?_
      refine wq_istore_n (lv' := [(3, vi (ian (isr a1 s12) 255)), (0, vr Z 26 0), (1, vi a1), (2, vi s12)]) dX13_feeds_14 rfl (by decide) rfl ?_
      refine wq_iload_n dX13_feeds_15 0 rfl rfl ?_
      refine wq_if_ne 22 dX13_feeds_16 (by decide) rfl (fun c16 => ?_) (fun c16 => ?_)
      · refine wq_goto 42 dX13_feeds_19 (by decide) ?_
        refine wq_iinc (lv' := [(2, vi (s12 + (-8))), (3, vi (ian (isr a1 s12) 255)), (0, vr Z 26 0), (1, vi a1)]) dX13_feeds_42 3 rfl (by decide) rfl ?_
        refine wq_goto 3 dX13_feeds_45 (by decide) ?_
        exact WQ.loc [2, 3, 0] rfl (bk7 _ _ _)
      · refine wq_aload_n dX13_feeds_22 1 rfl rfl ?_
        refine g_26_19 ln_RX13_58 dX13_feeds_23 ?_
        refine wq_aload_n dX13_feeds_26 1 rfl rfl ?_
        refine g_26_20 ln_RX13_212 dX13_feeds_27 ?_
        refine wq_iload_n dX13_feeds_30 0 rfl rfl ?_
        refine wq_grd (fun g13 => ?_)
        refine wq_iast (k := 27) (i := 14) (fun _ _ => rfl) (by decide) rfl rfl (m := 600) g13 (Nat.le_of_ble_eq_true rfl) (by decide) (by decide) (by decide) dX13_feeds_31 (fun J14 => ?_)
        refine wq_aload_n dX13_feeds_32 1 rfl rfl ?_
        refine wq_dup dX13_feeds_33 rfl ?_
        refine g_26_20 ln_RX13_212 dX13_feeds_34 ?_
        refine wq_iconst dX13_feeds_37 ?_
        refine wq_iadd dX13_feeds_38 ?_
        refine p_26_20 ln_RX13_212 dX13_feeds_39 (fun J15 => ?_)
        refine wq_iinc (lv' := [(2, vi (s12 + (-8))), (3, vi (ian (isr a1 s12) 255)), (0, vr Z 26 0), (1, vi a1)]) dX13_feeds_42 3 rfl (by decide) rfl ?_
        refine wq_goto 3 dX13_feeds_45 (by decide) ?_
        exact WQ.loc [2, 3, 0] rfl (bk7 _ _ _)
  · exact wq_vret rfl rfl dX13_feeds_48
end
section
noncomputable def f_M_bytesIn (a0 : Int) (I : Mem) : Option ((Int) × Mem) :=
bnd (f_M_one (if 0 < (w32 (ian (isr a0 24) 255)) then 1 else 0) I) fun x3 J2 =>
bnd (f_M_one (if 0 < (w32 (ian (isr a0 16) 255)) then 1 else 0) J2) fun x6 J5 =>
bnd (f_M_one (if 0 < (w32 (ian (isr a0 8) 255)) then 1 else 0) J5) fun x9 J8 =>
bnd (f_M_one (if 0 < (w32 (ian a0 255)) then 1 else 0) J8) fun x12 J11 =>
some ((((x3 + x6) + x9) + x12), J11)
set_option maxRecDepth 20000 in
theorem R_M_bytesIn (Z : ZT) (a0 : Int) (I : Mem) (r : Int) (J : Mem) (hf : f_M_bytesIn a0 I = some (r, J)) : Runs Z yX13_bytesIn cX13_bytesIn 1 (some .int) 2 [vi a0] I (some (vi r), J) := by
  refine Runs.of (rv := fun x => some (vi x)) (by decide +kernel) (Nat.le_of_ble_eq_true rfl) hf (fun gr => ?_)
  unfold f_M_bytesIn
  refine WQ.loc [0] (lv' := [(0, vi a0)]) rfl ?_
  refine wq_iload_n dX13_bytesIn_0 0 rfl rfl ?_
  refine wq_bipush dX13_bytesIn_1 (by decide) ?_
  refine wq_ishr dX13_bytesIn_3 ?_
  refine wq_sipush dX13_bytesIn_4 (by decide) ?_
  refine wq_iand dX13_bytesIn_7 ?_
  refine WQ.via 16 [vi (if 0 < (w32 (ian (isr a0 24) 255)) then 1 else 0)] (by
      refine wq_cSi M_M_one (R_M_one Z (if 0 < (w32 (ian (isr a0 24) 255)) then 1 else 0) _) rfl rfl rfl (by decide) (by decide) (Nat.le_of_ble_eq_true rfl) ln_RX13_115 dX13_bytesIn_16 (fun gr1 x3 J2 => ?_)
      refine wq_iload_n dX13_bytesIn_19 0 rfl rfl ?_
      refine wq_bipush dX13_bytesIn_20 (by decide) ?_
      refine wq_ishr dX13_bytesIn_22 ?_
      refine wq_sipush dX13_bytesIn_23 (by decide) ?_
      refine wq_iand dX13_bytesIn_26 ?_
      refine WQ.via 35 [vi (if 0 < (w32 (ian (isr a0 16) 255)) then 1 else 0), vi x3] (by
          refine wq_cSi M_M_one (R_M_one Z (if 0 < (w32 (ian (isr a0 16) 255)) then 1 else 0) _) rfl rfl rfl (by decide) (by decide) (Nat.le_of_ble_eq_true rfl) ln_RX13_115 dX13_bytesIn_35 (fun gr4 x6 J5 => ?_)
          refine wq_iadd dX13_bytesIn_38 ?_
          refine wq_iload_n dX13_bytesIn_39 0 rfl rfl ?_
          refine wq_bipush dX13_bytesIn_40 (by decide) ?_
          refine wq_ishr dX13_bytesIn_42 ?_
          refine wq_sipush dX13_bytesIn_43 (by decide) ?_
          refine wq_iand dX13_bytesIn_46 ?_
          refine WQ.via 55 [vi (if 0 < (w32 (ian (isr a0 8) 255)) then 1 else 0), vi (x3 + x6)] (by
              refine wq_cSi M_M_one (R_M_one Z (if 0 < (w32 (ian (isr a0 8) 255)) then 1 else 0) _) rfl rfl rfl (by decide) (by decide) (Nat.le_of_ble_eq_true rfl) ln_RX13_115 dX13_bytesIn_55 (fun gr7 x9 J8 => ?_)
              refine wq_iadd dX13_bytesIn_58 ?_
              refine wq_iload_n dX13_bytesIn_59 0 rfl rfl ?_
              refine wq_sipush dX13_bytesIn_60 (by decide) ?_
              refine wq_iand dX13_bytesIn_63 ?_
              refine WQ.via 72 [vi (if 0 < (w32 (ian a0 255)) then 1 else 0), vi ((x3 + x6) + x9)] (by
                  refine wq_cSi M_M_one (R_M_one Z (if 0 < (w32 (ian a0 255)) then 1 else 0) _) rfl rfl rfl (by decide) (by decide) (Nat.le_of_ble_eq_true rfl) ln_RX13_115 dX13_bytesIn_72 (fun gr10 x12 J11 => ?_)
                  refine wq_iadd dX13_bytesIn_75 ?_
                  exact wq_iret rfl rfl dX13_bytesIn_76) (fun hj13 => ?_)
              refine WQ.both (0 < (w32 (ian a0 255))) ?_
              refine wq_if_le 71 dX13_bytesIn_64 (by decide) rfl (fun c14 => ?_) (fun c14 => ?_)
              · refine wq_iconst dX13_bytesIn_67 ?_
                refine wq_goto 72 dX13_bytesIn_68 (by decide) ?_
                exact WQ.top (if_pos c14) hj13
              · refine wq_iconst dX13_bytesIn_71 ?_
                exact WQ.top (if_neg c14) hj13) (fun hj15 => ?_)
          refine WQ.both (0 < (w32 (ian (isr a0 8) 255))) ?_
          refine wq_if_le 54 dX13_bytesIn_47 (by decide) rfl (fun c16 => ?_) (fun c16 => ?_)
          · refine wq_iconst dX13_bytesIn_50 ?_
            refine wq_goto 55 dX13_bytesIn_51 (by decide) ?_
            exact WQ.top (if_pos c16) hj15
          · refine wq_iconst dX13_bytesIn_54 ?_
            exact WQ.top (if_neg c16) hj15) (fun hj17 => ?_)
      refine WQ.both (0 < (w32 (ian (isr a0 16) 255))) ?_
      refine wq_if_le 34 dX13_bytesIn_27 (by decide) rfl (fun c18 => ?_) (fun c18 => ?_)
      · refine wq_iconst dX13_bytesIn_30 ?_
        refine wq_goto 35 dX13_bytesIn_31 (by decide) ?_
        exact WQ.top (if_pos c18) hj17
      · refine wq_iconst dX13_bytesIn_34 ?_
        exact WQ.top (if_neg c18) hj17) (fun hj19 => ?_)
  refine WQ.both (0 < (w32 (ian (isr a0 24) 255))) ?_
  refine wq_if_le 15 dX13_bytesIn_8 (by decide) rfl (fun c20 => ?_) (fun c20 => ?_)
  · refine wq_iconst dX13_bytesIn_11 ?_
    refine wq_goto 16 dX13_bytesIn_12 (by decide) ?_
    exact WQ.top (if_pos c20) hj19
  · refine wq_iconst dX13_bytesIn_15 ?_
    exact WQ.top (if_neg c20) hj19

theorem M_M_bytesIn : MwS yX13_bytesIn cX13_bytesIn 1 (some .int) 1 := ⟨li_7 197 (by decide +kernel) (by decide +kernel), li_7 196 (by decide +kernel) (by decide +kernel), li_1 16 (by decide +kernel) (by decide +kernel), by decide +kernel⟩
theorem M_M_feeds : MwV yX13_feeds cX13_feeds 4 (none) 1 := ⟨li_7 201 (by decide +kernel) (by decide +kernel), li_7 200 (by decide +kernel) (by decide +kernel), lw_in 56 (by decide +kernel) (by decide +kernel), li_1 16 (by decide +kernel) (by decide +kernel), by decide +kernel⟩
theorem ln_RX13_218 : Cond.methodLink RX13 218 yX13_feeds ∈ lw_good := li_7 198 (by decide +kernel) (by decide +kernel)
theorem ln_RX13_215 : Cond.methodLink RX13 215 yX13_bytesIn ∈ lw_good := li_7 195 (by decide +kernel) (by decide +kernel)
noncomputable def f_M_feed (a1 : Int) (a2 : Int) (a3 : Int) (a4 : Int) (a5 : Int) (I : Mem) : Option ((Int) × Mem) :=
ltI (sI I 26 0 7 0) fun J1 =>
bnd (f_M_bytesIn a1 J1) fun x4 J3 =>
bnd (f_M_bytesIn a2 J3) fun x7 J6 =>
bnd (f_M_bytesIn a3 J6) fun x10 J9 =>
bnd (f_M_bytesIn a4 J9) fun x13 J12 =>
bnd (f_M_bytesIn a5 J12) fun x16 J15 =>
if 600 < (w32 ((((((J1 26 0 20) + x4) + x7) + x10) + x13) + x16)) then
some ((-1), J15)
else
bnd (f_M_feeds a1 J15) fun _ J18 =>
bnd (f_M_feeds a2 J18) fun _ J21 =>
bnd (f_M_feeds a3 J21) fun _ J24 =>
bnd (f_M_feeds a4 J24) fun _ J27 =>
bnd (f_M_feeds a5 J27) fun _ J30 =>
some ((J30 26 0 20), J30)
set_option maxRecDepth 20000 in
theorem R_M_feed (Z : ZT) (a1 : Int) (a2 : Int) (a3 : Int) (a4 : Int) (a5 : Int) (I : Mem) (r : Int) (J : Mem) (hf : f_M_feed a1 a2 a3 a4 a5 I = some (r, J)) : Runs Z yX13_feed cX13_feed 6 (some .int) 3 [vr Z 26 0, vi a1, vi a2, vi a3, vi a4, vi a5] I (some (vi r), J) := by
  refine Runs.of (rv := fun x => some (vi x)) (by decide +kernel) (Nat.le_of_ble_eq_true rfl) hf (fun gr => ?_)
  unfold f_M_feed
  refine WQ.loc [0, 1, 2, 3, 4, 5] (lv' := [(0, vr Z 26 0), (1, vi a1), (2, vi a2), (3, vi a3), (4, vi a4), (5, vi a5)]) rfl ?_
  refine wq_aload_n dX13_feed_0 0 rfl rfl ?_
  refine wq_iconst dX13_feed_1 ?_
  refine p_26_7 ln_RX13_100 dX13_feed_2 (fun J1 => ?_)
  refine wq_aload_n dX13_feed_5 0 rfl rfl ?_
  refine g_26_20 ln_RX13_212 dX13_feed_6 ?_
  refine wq_iload_n dX13_feed_9 1 rfl rfl ?_
  refine wq_cSi M_M_bytesIn (R_M_bytesIn Z a1 _) rfl rfl rfl (by decide) (by decide) (Nat.le_of_ble_eq_true rfl) ln_RX13_215 dX13_feed_10 (fun gr2 x4 J3 => ?_)
  refine wq_iadd dX13_feed_13 ?_
  refine wq_iload_n dX13_feed_14 2 rfl rfl ?_
  refine wq_cSi M_M_bytesIn (R_M_bytesIn Z a2 _) rfl rfl rfl (by decide) (by decide) (Nat.le_of_ble_eq_true rfl) ln_RX13_215 dX13_feed_15 (fun gr5 x7 J6 => ?_)
  refine wq_iadd dX13_feed_18 ?_
  refine wq_iload_n dX13_feed_19 3 rfl rfl ?_
  refine wq_cSi M_M_bytesIn (R_M_bytesIn Z a3 _) rfl rfl rfl (by decide) (by decide) (Nat.le_of_ble_eq_true rfl) ln_RX13_215 dX13_feed_20 (fun gr8 x10 J9 => ?_)
  refine wq_iadd dX13_feed_23 ?_
  refine wq_iload dX13_feed_24 4 rfl ?_
  refine wq_cSi M_M_bytesIn (R_M_bytesIn Z a4 _) rfl rfl rfl (by decide) (by decide) (Nat.le_of_ble_eq_true rfl) ln_RX13_215 dX13_feed_26 (fun gr11 x13 J12 => ?_)
  refine wq_iadd dX13_feed_29 ?_
  refine wq_iload dX13_feed_30 5 rfl ?_
  refine wq_cSi M_M_bytesIn (R_M_bytesIn Z a5 _) rfl rfl rfl (by decide) (by decide) (Nat.le_of_ble_eq_true rfl) ln_RX13_215 dX13_feed_32 (fun gr14 x16 J15 => ?_)
  refine wq_iadd dX13_feed_35 ?_
  refine wq_sipush dX13_feed_36 (by decide) ?_
  refine wq_icmp_le 44 dX13_feed_39 (by decide) rfl rfl (fun c32 => ?_) (fun c32 => ?_)
  · refine wq_iconst dX13_feed_42 ?_
    exact wq_iret rfl rfl dX13_feed_43
  · refine wq_aload_n dX13_feed_44 0 rfl rfl ?_
    refine wq_iload_n dX13_feed_45 1 rfl rfl ?_
    refine wq_cVv M_M_feeds (R_M_feeds Z a1 _) ob_26 rfl rfl (by decide) (by decide) (Nat.le_of_ble_eq_true rfl) ln_RX13_218 dX13_feed_46 (fun gr17 _ J18 => ?_)
    refine wq_aload_n dX13_feed_49 0 rfl rfl ?_
    refine wq_iload_n dX13_feed_50 2 rfl rfl ?_
    refine wq_cVv M_M_feeds (R_M_feeds Z a2 _) ob_26 rfl rfl (by decide) (by decide) (Nat.le_of_ble_eq_true rfl) ln_RX13_218 dX13_feed_51 (fun gr20 _ J21 => ?_)
    refine wq_aload_n dX13_feed_54 0 rfl rfl ?_
    refine wq_iload_n dX13_feed_55 3 rfl rfl ?_
    refine wq_cVv M_M_feeds (R_M_feeds Z a3 _) ob_26 rfl rfl (by decide) (by decide) (Nat.le_of_ble_eq_true rfl) ln_RX13_218 dX13_feed_56 (fun gr23 _ J24 => ?_)
    refine wq_aload_n dX13_feed_59 0 rfl rfl ?_
    refine wq_iload dX13_feed_60 4 rfl ?_
    refine wq_cVv M_M_feeds (R_M_feeds Z a4 _) ob_26 rfl rfl (by decide) (by decide) (Nat.le_of_ble_eq_true rfl) ln_RX13_218 dX13_feed_62 (fun gr26 _ J27 => ?_)
    refine wq_aload_n dX13_feed_65 0 rfl rfl ?_
    refine wq_iload dX13_feed_66 5 rfl ?_
    refine wq_cVv M_M_feeds (R_M_feeds Z a5 _) ob_26 rfl rfl (by decide) (by decide) (Nat.le_of_ble_eq_true rfl) ln_RX13_218 dX13_feed_68 (fun gr29 _ J30 => ?_)
    refine wq_aload_n dX13_feed_71 0 rfl rfl ?_
    refine g_26_20 ln_RX13_212 dX13_feed_72 ?_
    exact wq_iret rfl rfl dX13_feed_75

noncomputable def f_M_byteAt (a1 : Int) (I : Mem) : Option ((Int) × Mem) :=
if (w32 a1) < (w32 (I 26 0 20)) then
if 0 ≤ (w32 a1) ∧ (w32 a1) < 600 then
some ((I 27 14 (w32 a1).toNat), I)
else none
else
some ((-1), I)
set_option maxRecDepth 20000 in
theorem R_M_byteAt (Z : ZT) (a1 : Int) (I : Mem) (r : Int) (J : Mem) (hf : f_M_byteAt a1 I = some (r, J)) : Runs Z yX13_byteAt cX13_byteAt 2 (some .int) 1 [vr Z 26 0, vi a1] I (some (vi r), J) := by
  refine Runs.of (rv := fun x => some (vi x)) (by decide +kernel) (Nat.le_of_ble_eq_true rfl) hf (fun gr => ?_)
  unfold f_M_byteAt
  refine WQ.loc [0, 1] (lv' := [(0, vr Z 26 0), (1, vi a1)]) rfl ?_
  refine wq_iload_n dX13_byteAt_0 1 rfl rfl ?_
  refine wq_aload_n dX13_byteAt_1 0 rfl rfl ?_
  refine g_26_20 ln_RX13_212 dX13_byteAt_2 ?_
  refine wq_icmp_ge 17 dX13_byteAt_5 (by decide) rfl rfl (fun c2 => ?_) (fun c2 => ?_)
  · refine wq_aload_n dX13_byteAt_8 0 rfl rfl ?_
    refine g_26_19 ln_RX13_58 dX13_byteAt_9 ?_
    refine wq_iload_n dX13_byteAt_12 1 rfl rfl ?_
    refine wq_grd (fun g1 => ?_)
    refine wq_iald (k := 27) (i := 14) rfl (by decide) rfl rfl (m := 600) g1 (Nat.le_of_ble_eq_true rfl) dX13_byteAt_13 ?_
    refine wq_goto 18 dX13_byteAt_14 (by decide) ?_
    exact wq_iret rfl rfl dX13_byteAt_18
  · refine wq_iconst dX13_byteAt_17 ?_
    exact wq_iret rfl rfl dX13_byteAt_18

theorem M_M_byteAt : MwV yX13_byteAt cX13_byteAt 2 (some .int) 1 := ⟨li_7 224 (by decide +kernel) (by decide +kernel), li_7 223 (by decide +kernel) (by decide +kernel), lw_in 60 (by decide +kernel) (by decide +kernel), li_1 16 (by decide +kernel) (by decide +kernel), by decide +kernel⟩
theorem M_M_in : MwS yX13_in cX13_in 3 (some .boolean) 3 := ⟨li_7 231 (by decide +kernel) (by decide +kernel), li_7 230 (by decide +kernel) (by decide +kernel), li_1 16 (by decide +kernel) (by decide +kernel), by decide +kernel⟩
theorem ln_RX13_224 : Cond.methodLink RX13 224 yX13_in ∈ lw_good := li_7 229 (by decide +kernel) (by decide +kernel)
theorem ln_RX13_221 : Cond.methodLink RX13 221 yX13_byteAt ∈ lw_good := li_7 221 (by decide +kernel) (by decide +kernel)
noncomputable def f_M_isLetterAt (a1 : Int) (I : Mem) : Option ((Int) × Mem) :=
bnd (f_M_byteAt a1 I) fun x3 J2 =>
bnd (f_M_in x3 97 122 J2) fun x6 J5 =>
if x6 = 0 ∨ x6 = 1 then
some (x6, J5)
else none
set_option maxRecDepth 20000 in
theorem R_M_isLetterAt (Z : ZT) (a1 : Int) (I : Mem) (r : Int) (J : Mem) (hf : f_M_isLetterAt a1 I = some (r, J)) : Runs Z yX13_isLetterAt cX13_isLetterAt 2 (some .boolean) 2 [vr Z 26 0, vi a1] I (some (vi r), J) := by
  refine Runs.of (rv := fun x => some (vi x)) (by decide +kernel) (Nat.le_of_ble_eq_true rfl) hf (fun gr => ?_)
  unfold f_M_isLetterAt
  refine WQ.loc [0, 1] (lv' := [(0, vr Z 26 0), (1, vi a1)]) rfl ?_
  refine wq_aload_n dX13_isLetterAt_0 0 rfl rfl ?_
  refine wq_iload_n dX13_isLetterAt_1 1 rfl rfl ?_
  refine wq_cVi M_M_byteAt (R_M_byteAt Z a1 _) ob_26 rfl rfl (by decide) (by decide) (Nat.le_of_ble_eq_true rfl) ln_RX13_221 dX13_isLetterAt_2 (fun gr1 x3 J2 => ?_)
  refine wq_bipush dX13_isLetterAt_5 (by decide) ?_
  refine wq_bipush dX13_isLetterAt_7 (by decide) ?_
  refine wq_cSi M_M_in (R_M_in Z x3 97 122 _) rfl rfl rfl (by decide) (by decide) (Nat.le_of_ble_eq_true rfl) ln_RX13_224 dX13_isLetterAt_9 (fun gr4 x6 J5 => ?_)
  refine wq_grd (fun g7 => ?_)
  exact wq_zret rfl g7 rfl dX13_isLetterAt_12

noncomputable def f_M_isDigitAt (a1 : Int) (I : Mem) : Option ((Int) × Mem) :=
bnd (f_M_byteAt a1 I) fun x3 J2 =>
bnd (f_M_in x3 48 57 J2) fun x6 J5 =>
if x6 = 0 ∨ x6 = 1 then
some (x6, J5)
else none
set_option maxRecDepth 20000 in
theorem R_M_isDigitAt (Z : ZT) (a1 : Int) (I : Mem) (r : Int) (J : Mem) (hf : f_M_isDigitAt a1 I = some (r, J)) : Runs Z yX13_isDigitAt cX13_isDigitAt 2 (some .boolean) 2 [vr Z 26 0, vi a1] I (some (vi r), J) := by
  refine Runs.of (rv := fun x => some (vi x)) (by decide +kernel) (Nat.le_of_ble_eq_true rfl) hf (fun gr => ?_)
  unfold f_M_isDigitAt
  refine WQ.loc [0, 1] (lv' := [(0, vr Z 26 0), (1, vi a1)]) rfl ?_
  refine wq_aload_n dX13_isDigitAt_0 0 rfl rfl ?_
  refine wq_iload_n dX13_isDigitAt_1 1 rfl rfl ?_
  refine wq_cVi M_M_byteAt (R_M_byteAt Z a1 _) ob_26 rfl rfl (by decide) (by decide) (Nat.le_of_ble_eq_true rfl) ln_RX13_221 dX13_isDigitAt_2 (fun gr1 x3 J2 => ?_)
  refine wq_bipush dX13_isDigitAt_5 (by decide) ?_
  refine wq_bipush dX13_isDigitAt_7 (by decide) ?_
  refine wq_cSi M_M_in (R_M_in Z x3 48 57 _) rfl rfl rfl (by decide) (by decide) (Nat.le_of_ble_eq_true rfl) ln_RX13_224 dX13_isDigitAt_9 (fun gr4 x6 J5 => ?_)
  refine wq_grd (fun g7 => ?_)
  exact wq_zret rfl g7 rfl dX13_isDigitAt_12

theorem ln_RX13_228 : Cond.fieldLink RX13 228 RX13 "next" "I" ∈ lw_good := li_7 76 (by decide +kernel) (by decide +kernel)
theorem ln_RX13_231 : Cond.fieldLink RX13 231 RX13 "begin" "I" ∈ lw_good := li_7 75 (by decide +kernel) (by decide +kernel)
theorem ln_RX13_234 : Cond.fieldLink RX13 234 RX13 "value" "I" ∈ lw_good := li_7 78 (by decide +kernel) (by decide +kernel)
theorem M_M_isLetterAt : MwV yX13_isLetterAt cX13_isLetterAt 2 (some .boolean) 1 := ⟨li_7 228 (by decide +kernel) (by decide +kernel), li_7 227 (by decide +kernel) (by decide +kernel), lw_in 61 (by decide +kernel) (by decide +kernel), li_1 16 (by decide +kernel) (by decide +kernel), by decide +kernel⟩
theorem M_M_isDigitAt : MwV yX13_isDigitAt cX13_isDigitAt 2 (some .boolean) 1 := ⟨li_7 235 (by decide +kernel) (by decide +kernel), li_7 234 (by decide +kernel) (by decide +kernel), lw_in 62 (by decide +kernel) (by decide +kernel), li_1 16 (by decide +kernel) (by decide +kernel), by decide +kernel⟩
theorem ln_RX13_237 : Cond.fieldLink RX13 237 RX13 "token" "I" ∈ lw_good := li_7 77 (by decide +kernel) (by decide +kernel)
theorem ln_RX13_246 : Cond.constant RX13 246 (Int32.ofInt 1000000) ∈ lw_good := li_7 236 (by decide +kernel) (by decide +kernel)
theorem ln_RX13_243 : Cond.methodLink RX13 243 yX13_isDigitAt ∈ lw_good := li_7 232 (by decide +kernel) (by decide +kernel)
theorem ln_RX13_240 : Cond.methodLink RX13 240 yX13_isLetterAt ∈ lw_good := li_7 225 (by decide +kernel) (by decide +kernel)
noncomputable def f_M_advance_j26    (I : Mem) : Option (((Unit) ⊕ (Unit)) × Mem) :=
ltI (sI I 26 0 22 ((I 26 0 22) + 1)) fun J10 =>
some (.inl (), J10)

noncomputable def f_M_advance_w0  (s : Unit) (I : Mem) : Option (((Unit) ⊕ (Unit)) × Mem) :=
bnd (f_M_byteAt (I 26 0 22) I) fun x3 J2 =>
if (w32 x3) = 32 then
f_M_advance_j26 J2
else
bnd (f_M_byteAt (J2 26 0 22) J2) fun x7 J6 =>
if (w32 x7) = 10 then
f_M_advance_j26 J6
else
some (.inr (), J6)

noncomputable def f_M_advance_j228   (e0 : Int) (I : Mem) : Option ((Unit) × Mem) :=
ltI (sI I 26 0 23 e0) fun J50 =>
ltI (sI J50 26 0 22 ((J50 26 0 22) + 1)) fun J51 =>
some ((), J51)

noncomputable def f_M_advance_j223    (I : Mem) : Option ((Unit) × Mem) :=
f_M_advance_j228 3 I

noncomputable def f_M_advance_j178   (e0 : Int) (I : Mem) : Option (((Unit) ⊕ (Unit)) × Mem) :=
ltI (sI I 26 0 24 e0) fun J65 =>
ltI (sI J65 26 0 22 ((J65 26 0 22) + 1)) fun J66 =>
some (.inl (), J66)

noncomputable def f_M_advance_w127  (s : Unit) (I : Mem) : Option (((Unit) ⊕ (Unit)) × Mem) :=
bnd (f_M_isDigitAt (I 26 0 22) I) fun x61 J60 =>
if (w32 x61) = 0 then
some (.inr (), J60)
else
if (w32 ((J60 26 0 22) - (J60 26 0 21))) < 6 then
if 0 ≤ (w32 (J60 26 0 22)) ∧ (w32 (J60 26 0 22)) < 600 then
f_M_advance_j178 (((10 * (J60 26 0 24)) + (J60 27 14 (w32 (J60 26 0 22)).toNat)) - 48) J60
else none
else
f_M_advance_j178 1000000 J60

noncomputable def f_M_advance_w87  (s : Unit) (I : Mem) : Option (((Unit) ⊕ (Unit)) × Mem) :=
bnd (f_M_isLetterAt (I 26 0 22) I) fun x97 J96 =>
if (w32 x97) = 0 then
some (.inr (), J96)
else
ltI (sI J96 26 0 22 ((J96 26 0 22) + 1)) fun J98 =>
some (.inl (), J98)

noncomputable def f_M_advance  (I : Mem) : Option ((Unit) × Mem) :=
bnd (whl (f_M_advance_w0) () I) fun r33 J34 =>
ltI (sI J34 26 0 21 (J34 26 0 22)) fun J36 =>
ltI (sI J36 26 0 24 0) fun J37 =>
if (w32 (J37 26 0 21)) = (w32 (J37 26 0 20)) then
ltI (sI J37 26 0 23 0) fun J116 =>
some ((), J116)
else
bnd (f_M_isLetterAt (J37 26 0 21) J37) fun x40 J39 =>
if (w32 x40) = 0 then
bnd (f_M_isDigitAt (J39 26 0 21) J39) fun x43 J42 =>
if (w32 x43) = 0 then
if 0 ≤ (w32 (J42 26 0 21)) ∧ (w32 (J42 26 0 21)) < 600 then
if (w32 (J42 27 14 (w32 (J42 26 0 21)).toNat)) = 59 then
f_M_advance_j223 J42
else
if (w32 (J42 27 14 (w32 (J42 26 0 21)).toNat)) = 40 then
f_M_advance_j223 J42
else
if (w32 (J42 27 14 (w32 (J42 26 0 21)).toNat)) = 41 then
f_M_advance_j223 J42
else
f_M_advance_j228 4 J42
else none
else
ltI (sI J42 26 0 23 2) fun J58 =>
bnd (whl (f_M_advance_w127) () J58) fun r90 J91 =>
some ((), J91)
else
ltI (sI J39 26 0 23 1) fun J94 =>
bnd (whl (f_M_advance_w87) () J94) fun r112 J113 =>
some ((), J113)
set_option maxRecDepth 20000 in
theorem R_M_advance (Z : ZT)  (I : Mem) (r : Unit) (J : Mem) (hf : f_M_advance I = some (r, J)) : Runs Z yX13_advance cX13_advance 2 (none) 3 [vr Z 26 0] I (none, J) := by
  refine Runs.of (rv := fun _ => none) (by decide +kernel) (Nat.le_of_ble_eq_true rfl) hf (fun gr => ?_)
  unfold f_M_advance
  refine WQ.loc [0] (lv' := [(0, vr Z 26 0)]) rfl ?_
  refine wq_loopS (fun _ => [(0, vr Z 26 0)]) 39 (fun _ => [(0, vr Z 26 0)]) (fun κ14 bk15 ex16 gr19 s20 J18 => ?_) (fun gr35 r33 J34 => ?_) gr _ rfl
  · unfold f_M_advance_w0
    refine wq_aload_n dX13_advance_0 0 rfl rfl ?_
    refine wq_aload_n dX13_advance_1 0 rfl rfl ?_
    refine g_26_22 ln_RX13_228 dX13_advance_2 ?_
    refine wq_cVi M_M_byteAt (R_M_byteAt Z (J18 26 0 22) _) ob_26 rfl rfl (by decide) (by decide) (Nat.le_of_ble_eq_true rfl) ln_RX13_221 dX13_advance_5 (fun gr21 x23 J22 => ?_)
    refine wq_bipush dX13_advance_8 (by decide) ?_
    have hj24 : ∀ (gr31 : Nat → Nat)   (J30 : Mem), WQ Z (yX13_advance, cX13_advance, 2, none, 3) I gr31 26 [(0, vr Z 26 0)] [] J30 (f_M_advance_j26 J30) κ14 := by
      intro gr31 J30
      unfold f_M_advance_j26
      refine wq_aload_n dX13_advance_26 0 rfl rfl ?_
      refine wq_dup dX13_advance_27 rfl ?_
      refine g_26_22 ln_RX13_228 dX13_advance_28 ?_
      refine wq_iconst dX13_advance_31 ?_
      refine wq_iadd dX13_advance_32 ?_
      refine p_26_22 ln_RX13_228 dX13_advance_33 (fun J32 => ?_)
      refine wq_goto 0 dX13_advance_36 (by decide) ?_
      exact WQ.loc [0] rfl (bk15 _ _ _)
    refine wq_icmp_eq 26 dX13_advance_10 (by decide) rfl rfl (fun c29 => ?_) (fun c29 => ?_)
    · exact WQ.loc [0] rfl (hj24 _   _)
    · refine wq_aload_n dX13_advance_13 0 rfl rfl ?_
      refine wq_aload_n dX13_advance_14 0 rfl rfl ?_
      refine g_26_22 ln_RX13_228 dX13_advance_15 ?_
      refine wq_cVi M_M_byteAt (R_M_byteAt Z (J22 26 0 22) _) ob_26 rfl rfl (by decide) (by decide) (Nat.le_of_ble_eq_true rfl) ln_RX13_221 dX13_advance_18 (fun gr25 x27 J26 => ?_)
      refine wq_bipush dX13_advance_21 (by decide) ?_
      refine wq_icmp_ne 39 dX13_advance_23 (by decide) rfl rfl (fun c28 => ?_) (fun c28 => ?_)
      · exact WQ.loc [0] rfl (hj24 _   _)
      · exact WQ.loc [0] rfl (ex16 _ _ _)
  · refine wq_aload_n dX13_advance_39 0 rfl rfl ?_
    refine wq_aload_n dX13_advance_40 0 rfl rfl ?_
    refine g_26_22 ln_RX13_228 dX13_advance_41 ?_
    refine p_26_21 ln_RX13_231 dX13_advance_44 (fun J36 => ?_)
    refine wq_aload_n dX13_advance_47 0 rfl rfl ?_
    refine wq_iconst dX13_advance_48 ?_
    refine p_26_24 ln_RX13_234 dX13_advance_49 (fun J37 => ?_)
    refine wq_aload_n dX13_advance_52 0 rfl rfl ?_
    refine g_26_21 ln_RX13_231 dX13_advance_53 ?_
    refine wq_aload_n dX13_advance_56 0 rfl rfl ?_
    refine g_26_20 ln_RX13_212 dX13_advance_57 ?_
    refine wq_icmp_ne 71 dX13_advance_60 (by decide) rfl rfl (fun c117 => ?_) (fun c117 => ?_)
    · refine wq_aload_n dX13_advance_63 0 rfl rfl ?_
      refine wq_iconst dX13_advance_64 ?_
      refine p_26_23 ln_RX13_237 dX13_advance_65 (fun J116 => ?_)
      refine wq_goto 241 dX13_advance_68 (by decide) ?_
      exact wq_vret rfl rfl dX13_advance_241
    · refine wq_aload_n dX13_advance_71 0 rfl rfl ?_
      refine wq_aload_n dX13_advance_72 0 rfl rfl ?_
      refine g_26_21 ln_RX13_231 dX13_advance_73 ?_
      refine wq_cVi M_M_isLetterAt (R_M_isLetterAt Z (J37 26 0 21) _) ob_26 rfl rfl (by decide) (by decide) (Nat.le_of_ble_eq_true rfl) ln_RX13_240 dX13_advance_76 (fun gr38 x40 J39 => ?_)
      refine wq_if_eq 111 dX13_advance_79 (by decide) rfl (fun c115 => ?_) (fun c115 => ?_)
      · refine wq_aload_n dX13_advance_111 0 rfl rfl ?_
        refine wq_aload_n dX13_advance_112 0 rfl rfl ?_
        refine g_26_21 ln_RX13_231 dX13_advance_113 ?_
        refine wq_cVi M_M_isDigitAt (R_M_isDigitAt Z (J39 26 0 21) _) ob_26 rfl rfl (by decide) (by decide) (Nat.le_of_ble_eq_true rfl) ln_RX13_243 dX13_advance_116 (fun gr41 x43 J42 => ?_)
        refine wq_if_eq 194 dX13_advance_119 (by decide) rfl (fun c93 => ?_) (fun c93 => ?_)
        · refine wq_aload_n dX13_advance_194 0 rfl rfl ?_
          refine g_26_19 ln_RX13_58 dX13_advance_195 ?_
          refine wq_aload_n dX13_advance_198 0 rfl rfl ?_
          refine g_26_21 ln_RX13_231 dX13_advance_199 ?_
          refine wq_grd (fun g44 => ?_)
          refine wq_iald (k := 27) (i := 14) rfl (by decide) rfl rfl (m := 600) g44 (Nat.le_of_ble_eq_true rfl) dX13_advance_202 ?_
          refine wq_istore_n (lv' := [(1, vi (J42 27 14 (w32 (J42 26 0 21)).toNat)), (0, vr Z 26 0)]) dX13_advance_203 rfl (by decide) rfl ?_
          refine wq_aload_n dX13_advance_204 1 rfl rfl ?_
          refine wq_iload_n dX13_advance_205 0 rfl rfl ?_
          refine wq_bipush dX13_advance_206 (by decide) ?_
          have hj45 : ∀ (gr53 : Nat → Nat)  (hj45e0 : Int) (J52 : Mem), WQ Z (yX13_advance, cX13_advance, 2, none, 3) I gr53 228 [(0, vr Z 26 0)] [vi hj45e0, vr Z 26 0] J52 (f_M_advance_j228 hj45e0 J52) (fun b K => some (.inl ((fun _ => none) b), K)) := by
            intro gr53 hj45e0 J52
            unfold f_M_advance_j228
            refine p_26_23 ln_RX13_237 dX13_advance_228 (fun J54 => ?_)
            refine wq_aload_n dX13_advance_231 0 rfl rfl ?_
            refine wq_dup dX13_advance_232 rfl ?_
            refine g_26_22 ln_RX13_228 dX13_advance_233 ?_
            refine wq_iconst dX13_advance_236 ?_
            refine wq_iadd dX13_advance_237 ?_
            refine p_26_22 ln_RX13_228 dX13_advance_238 (fun J55 => ?_)
            exact wq_vret rfl rfl dX13_advance_241
          have hj46 : ∀ (gr57 : Nat → Nat)   (J56 : Mem), WQ Z (yX13_advance, cX13_advance, 2, none, 3) I gr57 223 [(0, vr Z 26 0)] [vr Z 26 0] J56 (f_M_advance_j223 J56) (fun b K => some (.inl ((fun _ => none) b), K)) := by
            intro gr57 J56
            unfold f_M_advance_j223
            refine wq_iconst dX13_advance_223 ?_
            refine wq_goto 228 dX13_advance_224 (by decide) ?_
            exact WQ.loc [0] rfl (hj45 _  _ _)
          refine wq_icmp_eq 223 dX13_advance_208 (by decide) rfl rfl (fun c49 => ?_) (fun c49 => ?_)
          · exact WQ.loc [1] rfl (hj46 _   _)
          · refine wq_iload_n dX13_advance_211 0 rfl rfl ?_
            refine wq_bipush dX13_advance_212 (by decide) ?_
            refine wq_icmp_eq 223 dX13_advance_214 (by decide) rfl rfl (fun c48 => ?_) (fun c48 => ?_)
            · exact WQ.loc [1] rfl (hj46 _   _)
            · refine wq_iload_n dX13_advance_217 0 rfl rfl ?_
              refine wq_bipush dX13_advance_218 (by decide) ?_
              refine wq_icmp_ne 227 dX13_advance_220 (by decide) rfl rfl (fun c47 => ?_) (fun c47 => ?_)
              · exact WQ.loc [1] rfl (hj46 _   _)
              · refine wq_iconst dX13_advance_227 ?_
                exact WQ.loc [1] rfl (hj45 _  _ _)
        · refine wq_aload_n dX13_advance_122 0 rfl rfl ?_
          refine wq_iconst dX13_advance_123 ?_
          refine p_26_23 ln_RX13_237 dX13_advance_124 (fun J58 => ?_)
          refine wq_loopS (fun _ => [(0, vr Z 26 0)]) 241 (fun _ => []) (fun κ72 bk73 ex74 gr77 s78 J76 => ?_) (fun gr92 r90 J91 => ?_) gr41 _ rfl
          · unfold f_M_advance_w127
            refine wq_aload_n dX13_advance_127 0 rfl rfl ?_
            refine wq_aload_n dX13_advance_128 0 rfl rfl ?_
            refine g_26_22 ln_RX13_228 dX13_advance_129 ?_
            refine wq_cVi M_M_isDigitAt (R_M_isDigitAt Z (J76 26 0 22) _) ob_26 rfl rfl (by decide) (by decide) (Nat.le_of_ble_eq_true rfl) ln_RX13_243 dX13_advance_132 (fun gr79 x81 J80 => ?_)
            refine wq_if_eq 241 dX13_advance_135 (by decide) rfl (fun c89 => ?_) (fun c89 => ?_)
            · exact WQ.loc [] rfl (ex74 _ _ _)
            · refine wq_aload_n dX13_advance_138 0 rfl rfl ?_
              refine wq_aload_n dX13_advance_139 0 rfl rfl ?_
              refine g_26_22 ln_RX13_228 dX13_advance_140 ?_
              refine wq_aload_n dX13_advance_143 0 rfl rfl ?_
              refine g_26_21 ln_RX13_231 dX13_advance_144 ?_
              refine wq_isub dX13_advance_147 ?_
              refine wq_bipush dX13_advance_148 (by decide) ?_
              have hj82 : ∀ (gr86 : Nat → Nat)  (hj82e0 : Int) (J85 : Mem), WQ Z (yX13_advance, cX13_advance, 2, none, 3) I gr86 178 [(0, vr Z 26 0)] [vi hj82e0, vr Z 26 0] J85 (f_M_advance_j178 hj82e0 J85) κ72 := by
                intro gr86 hj82e0 J85
                unfold f_M_advance_j178
                refine p_26_24 ln_RX13_234 dX13_advance_178 (fun J87 => ?_)
                refine wq_aload_n dX13_advance_181 0 rfl rfl ?_
                refine wq_dup dX13_advance_182 rfl ?_
                refine g_26_22 ln_RX13_228 dX13_advance_183 ?_
                refine wq_iconst dX13_advance_186 ?_
                refine wq_iadd dX13_advance_187 ?_
                refine p_26_22 ln_RX13_228 dX13_advance_188 (fun J88 => ?_)
                refine wq_goto 127 dX13_advance_191 (by decide) ?_
                exact WQ.loc [0] rfl (bk73 _ _ _)
              refine wq_icmp_ge 176 dX13_advance_150 (by decide) rfl rfl (fun c84 => ?_) (fun c84 => ?_)
              · refine wq_bipush dX13_advance_153 (by decide) ?_
                refine wq_aload_n dX13_advance_155 0 rfl rfl ?_
                refine g_26_24 ln_RX13_234 dX13_advance_156 ?_
                refine wq_imul dX13_advance_159 ?_
                refine wq_aload_n dX13_advance_160 0 rfl rfl ?_
                refine g_26_19 ln_RX13_58 dX13_advance_161 ?_
                refine wq_aload_n dX13_advance_164 0 rfl rfl ?_
                refine g_26_22 ln_RX13_228 dX13_advance_165 ?_
                refine wq_grd (fun g83 => ?_)
                refine wq_iald (k := 27) (i := 14) rfl (by decide) rfl rfl (m := 600) g83 (Nat.le_of_ble_eq_true rfl) dX13_advance_168 ?_
                refine wq_iadd dX13_advance_169 ?_
                refine wq_bipush dX13_advance_170 (by decide) ?_
                refine wq_isub dX13_advance_172 ?_
                refine wq_goto 178 dX13_advance_173 (by decide) ?_
                exact WQ.loc [0] rfl (hj82 _  _ _)
              · refine wq_ldc ln_RX13_246 dX13_advance_176 ?_
                exact WQ.loc [0] rfl (hj82 _  _ _)
          · exact wq_vret rfl rfl dX13_advance_241
      · refine wq_aload_n dX13_advance_82 0 rfl rfl ?_
        refine wq_iconst dX13_advance_83 ?_
        refine p_26_23 ln_RX13_237 dX13_advance_84 (fun J94 => ?_)
        refine wq_loopS (fun _ => [(0, vr Z 26 0)]) 241 (fun _ => []) (fun κ100 bk101 ex102 gr105 s106 J104 => ?_) (fun gr114 r112 J113 => ?_) gr38 _ rfl
        · unfold f_M_advance_w87
          refine wq_aload_n dX13_advance_87 0 rfl rfl ?_
          refine wq_aload_n dX13_advance_88 0 rfl rfl ?_
          refine g_26_22 ln_RX13_228 dX13_advance_89 ?_
          refine wq_cVi M_M_isLetterAt (R_M_isLetterAt Z (J104 26 0 22) _) ob_26 rfl rfl (by decide) (by decide) (Nat.le_of_ble_eq_true rfl) ln_RX13_240 dX13_advance_92 (fun gr107 x109 J108 => ?_)
          refine wq_if_eq 241 dX13_advance_95 (by decide) rfl (fun c111 => ?_) (fun c111 => ?_)
          · exact WQ.loc [] rfl (ex102 _ _ _)
          · refine wq_aload_n dX13_advance_98 0 rfl rfl ?_
            refine wq_dup dX13_advance_99 rfl ?_
            refine g_26_22 ln_RX13_228 dX13_advance_100 ?_
            refine wq_iconst dX13_advance_103 ?_
            refine wq_iadd dX13_advance_104 ?_
            refine p_26_22 ln_RX13_228 dX13_advance_105 (fun J110 => ?_)
            refine wq_goto 87 dX13_advance_108 (by decide) ?_
            exact WQ.loc [0] rfl (bk101 _ _ _)
        · exact wq_vret rfl rfl dX13_advance_241

theorem ln_RX13_247 : Cond.fieldLink RX13 247 RX13 "error" "I" ∈ lw_good := li_7 79 (by decide +kernel) (by decide +kernel)
theorem ln_RX13_250 : Cond.fieldLink RX13 250 RX13 "errorAt" "I" ∈ lw_good := li_7 80 (by decide +kernel) (by decide +kernel)
noncomputable def f_M_faulty_j24    (I : Mem) : Option ((Int) × Mem) :=
if (w32 (I 26 0 25)) = 0 then
some (0, I)
else
some (1, I)

noncomputable def f_M_faulty (a1 : Int) (a2 : Int) (I : Mem) : Option ((Int) × Mem) :=
if (w32 (I 26 0 25)) = 0 then
if (w32 a1) = 0 then
f_M_faulty_j24 I
else
ltI (sI I 26 0 25 a2) fun J2 =>
ltI (sI J2 26 0 26 (J2 26 0 21)) fun J3 =>
f_M_faulty_j24 J3
else
f_M_faulty_j24 I
set_option maxRecDepth 20000 in
theorem R_M_faulty (Z : ZT) (a1 : Int) (a2 : Int) (I : Mem) (r : Int) (J : Mem) (hf : f_M_faulty a1 a2 I = some (r, J)) : Runs Z yX13_faulty cX13_faulty 3 (some .boolean) 1 [vr Z 26 0, vi a1, vi a2] I (some (vi r), J) := by
  refine Runs.of (rv := fun x => some (vi x)) (by decide +kernel) (Nat.le_of_ble_eq_true rfl) hf (fun gr => ?_)
  unfold f_M_faulty
  refine WQ.loc [0, 1, 2] (lv' := [(0, vr Z 26 0), (1, vi a1), (2, vi a2)]) rfl ?_
  refine wq_aload_n dX13_faulty_0 0 rfl rfl ?_
  refine g_26_25 ln_RX13_247 dX13_faulty_1 ?_
  have hj1 : ∀ (gr8 : Nat → Nat)   (J7 : Mem), WQ Z (yX13_faulty, cX13_faulty, 3, some .boolean, 1) I gr8 24 [(0, vr Z 26 0)] [] J7 (f_M_faulty_j24 J7) (fun b K => some (.inl ((fun x => some (vi x)) b), K)) := by
    intro gr8 J7
    unfold f_M_faulty_j24
    refine wq_aload_n dX13_faulty_24 0 rfl rfl ?_
    refine g_26_25 ln_RX13_247 dX13_faulty_25 ?_
    refine wq_if_eq 35 dX13_faulty_28 (by decide) rfl (fun c9 => ?_) (fun c9 => ?_)
    · refine wq_iconst dX13_faulty_35 ?_
      exact wq_zret rfl (by decide) rfl dX13_faulty_36
    · refine wq_iconst dX13_faulty_31 ?_
      refine wq_goto 36 dX13_faulty_32 (by decide) ?_
      exact wq_zret rfl (by decide) rfl dX13_faulty_36
  refine wq_if_ne 24 dX13_faulty_4 (by decide) rfl (fun c5 => ?_) (fun c5 => ?_)
  · refine wq_iload_n dX13_faulty_7 1 rfl rfl ?_
    refine wq_if_eq 24 dX13_faulty_8 (by decide) rfl (fun c4 => ?_) (fun c4 => ?_)
    · exact WQ.loc [0] rfl (hj1 _   _)
    · refine wq_aload_n dX13_faulty_11 0 rfl rfl ?_
      refine wq_iload_n dX13_faulty_12 2 rfl rfl ?_
      refine p_26_25 ln_RX13_247 dX13_faulty_13 (fun J2 => ?_)
      refine wq_aload_n dX13_faulty_16 0 rfl rfl ?_
      refine wq_aload_n dX13_faulty_17 0 rfl rfl ?_
      refine g_26_21 ln_RX13_231 dX13_faulty_18 ?_
      refine p_26_26 ln_RX13_250 dX13_faulty_21 (fun J3 => ?_)
      exact WQ.loc [0] rfl (hj1 _   _)
  · exact WQ.loc [0] rfl (hj1 _   _)

noncomputable def f_M_length  (I : Mem) : Option ((Int) × Mem) :=
some (((I 26 0 22) - (I 26 0 21)), I)
set_option maxRecDepth 20000 in
theorem R_M_length (Z : ZT)  (I : Mem) (r : Int) (J : Mem) (hf : f_M_length I = some (r, J)) : Runs Z yX13_length cX13_length 1 (some .int) 1 [vr Z 26 0] I (some (vi r), J) := by
  refine Runs.of (rv := fun x => some (vi x)) (by decide +kernel) (Nat.le_of_ble_eq_true rfl) hf (fun gr => ?_)
  unfold f_M_length
  refine WQ.loc [0] (lv' := [(0, vr Z 26 0)]) rfl ?_
  refine wq_aload_n dX13_length_0 0 rfl rfl ?_
  refine g_26_22 ln_RX13_228 dX13_length_1 ?_
  refine wq_aload_n dX13_length_4 0 rfl rfl ?_
  refine g_26_21 ln_RX13_231 dX13_length_5 ?_
  refine wq_isub dX13_length_8 ?_
  exact wq_iret rfl rfl dX13_length_9

theorem M_M_length : MwV yX13_length cX13_length 1 (some .int) 0 := ⟨li_8 5 (by decide +kernel) (by decide +kernel), li_8 4 (by decide +kernel) (by decide +kernel), lw_in 64 (by decide +kernel) (by decide +kernel), li_1 16 (by decide +kernel) (by decide +kernel), by decide +kernel⟩
theorem ln_RX13_253 : Cond.methodLink RX13 253 yX13_length ∈ lw_good := li_8 2 (by decide +kernel) (by decide +kernel)
theorem ln_RX13_256 : Cond.methodLink RX13 256 yJ0_length_8abf5 ∈ lw_good := li_8 6 (by decide +kernel) (by decide +kernel)
theorem ln_RX13_259 : Cond.methodLink RX13 259 yJ0_charAt_5068e ∈ lw_good := li_8 7 (by decide +kernel) (by decide +kernel)
noncomputable def f_M_isKey_w30 (v1 : Nat) (s : Int) (I : Mem) : Option (((Int) ⊕ (Int)) × Mem) :=
if (w32 s) < (w32 ((I 26 0 22) - (I 26 0 21))) then
if 0 ≤ (w32 ((I 26 0 21) + s)) ∧ (w32 ((I 26 0 21) + s)) < 600 then
if 0 ≤ (w32 s) ∧ (w32 s) < wLen v1 then
if (w32 (I 27 14 (w32 ((I 26 0 21) + s)).toNat)) = (w32 (wAt v1 (w32 s).toNat)) then
some (.inl (s + 1), I)
else
some (.inr (0), I)
else none
else none
else
some (.inr (1), I)

noncomputable def f_M_isKey (a1 : Nat) (I : Mem) : Option ((Int) × Mem) :=
if a1 < 15 then
if (w32 (I 26 0 25)) = 0 then
if (w32 (I 26 0 23)) = 1 then
if (w32 ((I 26 0 22) - (I 26 0 21))) = (w32 (wLen a1)) then
whl (f_M_isKey_w30 a1) 0 I
else
some (0, I)
else
some (0, I)
else
some (0, I)
else none
set_option maxRecDepth 20000 in
theorem R_M_isKey (Z : ZT) (a1 : Nat) (I : Mem) (r : Int) (J : Mem) (hf : f_M_isKey a1 I = some (r, J)) : Runs Z yX13_isKey cX13_isKey 3 (some .boolean) 5 [vr Z 26 0, vr Z 34 a1] I (some (vi r), J) := by
  refine Runs.of (rv := fun x => some (vi x)) (by decide +kernel) (Nat.le_of_ble_eq_true rfl) hf (fun gr => ?_)
  unfold f_M_isKey
  refine WQ.loc [0, 1] (lv' := [(0, vr Z 26 0), (1, vr Z 34 a1)]) rfl ?_
  refine wq_grd (fun h1 => ?_)
  refine wq_aload_n dX13_isKey_0 0 rfl rfl ?_
  refine g_26_25 ln_RX13_247 dX13_isKey_1 ?_
  refine wq_if_ne 26 dX13_isKey_4 (by decide) rfl (fun c24 => ?_) (fun c24 => ?_)
  · refine wq_aload_n dX13_isKey_7 0 rfl rfl ?_
    refine g_26_23 ln_RX13_237 dX13_isKey_8 ?_
    refine wq_iconst dX13_isKey_11 ?_
    refine wq_icmp_ne 26 dX13_isKey_12 (by decide) rfl rfl (fun c23 => ?_) (fun c23 => ?_)
    · refine wq_aload_n dX13_isKey_15 0 rfl rfl ?_
      refine wq_pV (v := vi ((I 26 0 22) - (I 26 0 21))) M_M_length (R_M_length Z  _ _ _ rfl) ob_26 rfl rfl (by decide) (by decide) (Nat.le_of_ble_eq_true rfl) ln_RX13_253 dX13_isKey_16 (fun gr1 => ?_)
      refine wq_aload_n dX13_isKey_19 1 rfl rfl ?_
      refine wq_strlen h1 (by decide) (Nat.le_of_ble_eq_true rfl) ln_RX13_256 dX13_isKey_20 (fun gr2 => ?_)
      refine wq_icmp_eq 28 dX13_isKey_23 (by decide) rfl rfl (fun c22 => ?_) (fun c22 => ?_)
      · refine wq_iconst dX13_isKey_28 ?_
        refine wq_istore_n (lv' := [(2, vi 0), (0, vr Z 26 0), (1, vr Z 34 a1)]) dX13_isKey_29 rfl (by decide) rfl ?_
        refine WQ.loc [1, 2, 0] (lv' := [(0, vr Z 26 0), (1, vr Z 34 a1), (2, vi 0)]) rfl ?_
        refine wq_loop (fun s15 => [(0, vr Z 26 0), (1, vr Z 34 a1), (2, vi s15)]) (fun κ9 bk10 hr12 gr14 s15 J13 => ?_) gr2 _ rfl
        unfold f_M_isKey_w30
        refine wq_iload_n dX13_isKey_30 2 rfl rfl ?_
        refine wq_aload_n dX13_isKey_31 0 rfl rfl ?_
        refine wq_pV (v := vi ((J13 26 0 22) - (J13 26 0 21))) M_M_length (R_M_length Z  _ _ _ rfl) ob_26 rfl rfl (by decide) (by decide) (Nat.le_of_ble_eq_true rfl) ln_RX13_253 dX13_isKey_32 (fun gr16 => ?_)
        refine wq_icmp_ge 65 dX13_isKey_35 (by decide) rfl rfl (fun c21 => ?_) (fun c21 => ?_)
        · refine wq_aload_n dX13_isKey_38 0 rfl rfl ?_
          refine g_26_19 ln_RX13_58 dX13_isKey_39 ?_
          refine wq_aload_n dX13_isKey_42 0 rfl rfl ?_
          refine g_26_21 ln_RX13_231 dX13_isKey_43 ?_
          refine wq_iload_n dX13_isKey_46 2 rfl rfl ?_
          refine wq_iadd dX13_isKey_47 ?_
          refine wq_grd (fun g17 => ?_)
          refine wq_iald (k := 27) (i := 14) rfl (by decide) rfl rfl (m := 600) g17 (Nat.le_of_ble_eq_true rfl) dX13_isKey_48 ?_
          refine wq_aload_n dX13_isKey_49 1 rfl rfl ?_
          refine wq_iload_n dX13_isKey_50 2 rfl rfl ?_
          refine wq_grd (fun g19 => ?_)
          refine wq_charAt h1 rfl g19 (by decide) (Nat.le_of_ble_eq_true rfl) ln_RX13_259 dX13_isKey_51 (fun gr18 => ?_)
          refine wq_icmp_eq 59 dX13_isKey_54 (by decide) rfl rfl (fun c20 => ?_) (fun c20 => ?_)
          · refine wq_iinc (lv' := [(2, vi (s15 + 1)), (0, vr Z 26 0), (1, vr Z 34 a1)]) dX13_isKey_59 2 rfl (by decide) rfl ?_
            refine wq_goto 30 dX13_isKey_62 (by decide) ?_
            exact WQ.loc [1, 2, 0] rfl (bk10 _ _ _)
          · refine wq_iconst dX13_isKey_57 ?_
            exact wq_zret rfl (by decide) ((hr12 _ _).trans rfl) dX13_isKey_58
        · refine wq_iconst dX13_isKey_65 ?_
          exact wq_zret rfl (by decide) ((hr12 _ _).trans rfl) dX13_isKey_66
      · refine wq_iconst dX13_isKey_26 ?_
        exact wq_zret rfl (by decide) rfl dX13_isKey_27
    · refine wq_iconst dX13_isKey_26 ?_
      exact wq_zret rfl (by decide) rfl dX13_isKey_27
  · refine wq_iconst dX13_isKey_26 ?_
    exact wq_zret rfl (by decide) rfl dX13_isKey_27

noncomputable def f_M_isSign (a1 : Int) (I : Mem) : Option ((Int) × Mem) :=
if (w32 (I 26 0 25)) = 0 then
if (w32 (I 26 0 23)) = 3 then
if 0 ≤ (w32 (I 26 0 21)) ∧ (w32 (I 26 0 21)) < 600 then
if (w32 (I 27 14 (w32 (I 26 0 21)).toNat)) = (w32 a1) then
some (1, I)
else
some (0, I)
else none
else
some (0, I)
else
some (0, I)
set_option maxRecDepth 20000 in
theorem R_M_isSign (Z : ZT) (a1 : Int) (I : Mem) (r : Int) (J : Mem) (hf : f_M_isSign a1 I = some (r, J)) : Runs Z yX13_isSign cX13_isSign 2 (some .boolean) 1 [vr Z 26 0, vi a1] I (some (vi r), J) := by
  refine Runs.of (rv := fun x => some (vi x)) (by decide +kernel) (Nat.le_of_ble_eq_true rfl) hf (fun gr => ?_)
  unfold f_M_isSign
  refine WQ.loc [0, 1] (lv' := [(0, vr Z 26 0), (1, vi a1)]) rfl ?_
  refine wq_aload_n dX13_isSign_0 0 rfl rfl ?_
  refine g_26_25 ln_RX13_247 dX13_isSign_1 ?_
  refine wq_if_ne 32 dX13_isSign_4 (by decide) rfl (fun c4 => ?_) (fun c4 => ?_)
  · refine wq_aload_n dX13_isSign_7 0 rfl rfl ?_
    refine g_26_23 ln_RX13_237 dX13_isSign_8 ?_
    refine wq_iconst dX13_isSign_11 ?_
    refine wq_icmp_ne 32 dX13_isSign_12 (by decide) rfl rfl (fun c3 => ?_) (fun c3 => ?_)
    · refine wq_aload_n dX13_isSign_15 0 rfl rfl ?_
      refine g_26_19 ln_RX13_58 dX13_isSign_16 ?_
      refine wq_aload_n dX13_isSign_19 0 rfl rfl ?_
      refine g_26_21 ln_RX13_231 dX13_isSign_20 ?_
      refine wq_grd (fun g1 => ?_)
      refine wq_iald (k := 27) (i := 14) rfl (by decide) rfl rfl (m := 600) g1 (Nat.le_of_ble_eq_true rfl) dX13_isSign_23 ?_
      refine wq_iload_n dX13_isSign_24 1 rfl rfl ?_
      refine wq_icmp_ne 32 dX13_isSign_25 (by decide) rfl rfl (fun c2 => ?_) (fun c2 => ?_)
      · refine wq_iconst dX13_isSign_28 ?_
        refine wq_goto 33 dX13_isSign_29 (by decide) ?_
        exact wq_zret rfl (by decide) rfl dX13_isSign_33
      · refine wq_iconst dX13_isSign_32 ?_
        exact wq_zret rfl (by decide) rfl dX13_isSign_33
    · refine wq_iconst dX13_isSign_32 ?_
      exact wq_zret rfl (by decide) rfl dX13_isSign_33
  · refine wq_iconst dX13_isSign_32 ?_
    exact wq_zret rfl (by decide) rfl dX13_isSign_33

theorem M_M_isSign : MwV yX13_isSign cX13_isSign 2 (some .boolean) 1 := ⟨li_8 32 (by decide +kernel) (by decide +kernel), li_8 31 (by decide +kernel) (by decide +kernel), lw_in 70 (by decide +kernel) (by decide +kernel), li_1 16 (by decide +kernel) (by decide +kernel), by decide +kernel⟩
theorem M_M_faulty : MwV yX13_faulty cX13_faulty 3 (some .boolean) 2 := ⟨li_8 15 (by decide +kernel) (by decide +kernel), li_8 14 (by decide +kernel) (by decide +kernel), lw_in 66 (by decide +kernel) (by decide +kernel), li_1 16 (by decide +kernel) (by decide +kernel), by decide +kernel⟩
theorem M_M_advance : MwV yX13_advance cX13_advance 2 (none) 0 := ⟨li_7 220 (by decide +kernel) (by decide +kernel), li_7 219 (by decide +kernel) (by decide +kernel), lw_in 59 (by decide +kernel) (by decide +kernel), li_1 16 (by decide +kernel) (by decide +kernel), by decide +kernel⟩
theorem ln_RX13_270 : Cond.methodLink RX13 270 yX13_advance ∈ lw_good := li_7 217 (by decide +kernel) (by decide +kernel)
theorem ln_RX13_266 : Cond.methodLink RX13 266 yX13_faulty ∈ lw_good := li_8 12 (by decide +kernel) (by decide +kernel)
theorem ln_RX13_263 : Cond.methodLink RX13 263 yX13_isSign ∈ lw_good := li_8 29 (by decide +kernel) (by decide +kernel)
noncomputable def f_M_takesSign (a1 : Int) (I : Mem) : Option ((Unit) × Mem) :=
bnd (f_M_isSign a1 I) fun x3 J2 =>
bnd (f_M_faulty (if (w32 x3) = 0 then 1 else 0) 1 J2) fun x6 J5 =>
if (w32 x6) = 0 then
bnd (f_M_advance J5) fun _ J8 =>
some ((), J8)
else
some ((), J5)
set_option maxRecDepth 20000 in
theorem R_M_takesSign (Z : ZT) (a1 : Int) (I : Mem) (r : Unit) (J : Mem) (hf : f_M_takesSign a1 I = some (r, J)) : Runs Z yX13_takesSign cX13_takesSign 2 (none) 4 [vr Z 26 0, vi a1] I (none, J) := by
  refine Runs.of (rv := fun _ => none) (by decide +kernel) (Nat.le_of_ble_eq_true rfl) hf (fun gr => ?_)
  unfold f_M_takesSign
  refine WQ.loc [0, 1] (lv' := [(0, vr Z 26 0), (1, vi a1)]) rfl ?_
  refine wq_aload_n dX13_takesSign_0 0 rfl rfl ?_
  refine wq_aload_n dX13_takesSign_1 0 rfl rfl ?_
  refine wq_iload_n dX13_takesSign_2 1 rfl rfl ?_
  refine wq_cVi M_M_isSign (R_M_isSign Z a1 _) ob_26 rfl rfl (by decide) (by decide) (Nat.le_of_ble_eq_true rfl) ln_RX13_263 dX13_takesSign_3 (fun gr1 x3 J2 => ?_)
  refine WQ.via 14 [vi (if (w32 x3) = 0 then 1 else 0), vr Z 26 0] (by
      refine wq_iconst dX13_takesSign_14 ?_
      refine wq_cVi M_M_faulty (R_M_faulty Z (if (w32 x3) = 0 then 1 else 0) 1 _) ob_26 rfl rfl (by decide) (by decide) (Nat.le_of_ble_eq_true rfl) ln_RX13_266 dX13_takesSign_15 (fun gr4 x6 J5 => ?_)
      refine wq_if_ne 25 dX13_takesSign_18 (by decide) rfl (fun c10 => ?_) (fun c10 => ?_)
      · refine wq_aload_n dX13_takesSign_21 0 rfl rfl ?_
        refine wq_cVv M_M_advance (R_M_advance Z _) ob_26 rfl rfl (by decide) (by decide) (Nat.le_of_ble_eq_true rfl) ln_RX13_270 dX13_takesSign_22 (fun gr7 _ J8 => ?_)
        exact wq_vret rfl rfl dX13_takesSign_25
      · exact wq_vret rfl rfl dX13_takesSign_25) (fun hj11 => ?_)
  refine WQ.both ((w32 x3) = 0) ?_
  refine wq_if_ne 13 dX13_takesSign_6 (by decide) rfl (fun c12 => ?_) (fun c12 => ?_)
  · refine wq_iconst dX13_takesSign_9 ?_
    refine wq_goto 14 dX13_takesSign_10 (by decide) ?_
    exact WQ.top (if_pos c12) hj11
  · refine wq_iconst dX13_takesSign_13 ?_
    exact WQ.top (if_neg c12) hj11

noncomputable def f_M_number (a1 : Int) (a2 : Int) (I : Mem) : Option ((Int) × Mem) :=
bnd (f_M_faulty (if (w32 (I 26 0 23)) = 2 then 0 else 1) 1 I) fun x3 J2 =>
if (w32 x3) = 0 then
bnd (f_M_in (J2 26 0 24) a1 a2 J2) fun x6 J5 =>
bnd (f_M_faulty (if (w32 x6) = 0 then 1 else 0) 2 J5) fun x9 J8 =>
if (w32 x9) = 0 then
bnd (f_M_advance J8) fun _ J11 =>
some ((J8 26 0 24), J11)
else
some (a1, J8)
else
some (a1, J2)
set_option maxRecDepth 20000 in
theorem R_M_number (Z : ZT) (a1 : Int) (a2 : Int) (I : Mem) (r : Int) (J : Mem) (hf : f_M_number a1 a2 I = some (r, J)) : Runs Z yX13_number cX13_number 4 (some .int) 4 [vr Z 26 0, vi a1, vi a2] I (some (vi r), J) := by
  refine Runs.of (rv := fun x => some (vi x)) (by decide +kernel) (Nat.le_of_ble_eq_true rfl) hf (fun gr => ?_)
  unfold f_M_number
  refine WQ.loc [0, 1, 2] (lv' := [(0, vr Z 26 0), (1, vi a1), (2, vi a2)]) rfl ?_
  refine wq_aload_n dX13_number_0 0 rfl rfl ?_
  refine wq_aload_n dX13_number_1 0 rfl rfl ?_
  refine g_26_23 ln_RX13_237 dX13_number_2 ?_
  refine wq_iconst dX13_number_5 ?_
  refine WQ.via 14 [vi (if (w32 (I 26 0 23)) = 2 then 0 else 1), vr Z 26 0] (by
      refine wq_iconst dX13_number_14 ?_
      refine wq_cVi M_M_faulty (R_M_faulty Z (if (w32 (I 26 0 23)) = 2 then 0 else 1) 1 _) ob_26 rfl rfl (by decide) (by decide) (Nat.le_of_ble_eq_true rfl) ln_RX13_266 dX13_number_15 (fun gr1 x3 J2 => ?_)
      refine wq_if_ne 46 dX13_number_18 (by decide) rfl (fun c16 => ?_) (fun c16 => ?_)
      · refine wq_aload_n dX13_number_21 0 rfl rfl ?_
        refine wq_aload_n dX13_number_22 0 rfl rfl ?_
        refine g_26_24 ln_RX13_234 dX13_number_23 ?_
        refine wq_iload_n dX13_number_26 1 rfl rfl ?_
        refine wq_iload_n dX13_number_27 2 rfl rfl ?_
        refine wq_cSi M_M_in (R_M_in Z (J2 26 0 24) a1 a2 _) rfl rfl rfl (by decide) (by decide) (Nat.le_of_ble_eq_true rfl) ln_RX13_224 dX13_number_28 (fun gr4 x6 J5 => ?_)
        refine WQ.via 39 [vi (if (w32 x6) = 0 then 1 else 0), vr Z 26 0] (by
            refine wq_iconst dX13_number_39 ?_
            refine wq_cVi M_M_faulty (R_M_faulty Z (if (w32 x6) = 0 then 1 else 0) 2 _) ob_26 rfl rfl (by decide) (by decide) (Nat.le_of_ble_eq_true rfl) ln_RX13_266 dX13_number_40 (fun gr7 x9 J8 => ?_)
            refine wq_if_eq 48 dX13_number_43 (by decide) rfl (fun c13 => ?_) (fun c13 => ?_)
            · refine wq_aload_n dX13_number_48 0 rfl rfl ?_
              refine g_26_24 ln_RX13_234 dX13_number_49 ?_
              refine wq_istore_n (lv' := [(3, vi (J8 26 0 24)), (0, vr Z 26 0), (1, vi a1), (2, vi a2)]) dX13_number_52 rfl (by decide) rfl ?_
              refine wq_aload_n dX13_number_53 1 rfl rfl ?_
              refine wq_cVv M_M_advance (R_M_advance Z _) ob_26 rfl rfl (by decide) (by decide) (Nat.le_of_ble_eq_true rfl) ln_RX13_270 dX13_number_54 (fun gr10 _ J11 => ?_)
              refine wq_iload_n dX13_number_57 0 rfl rfl ?_
              exact wq_iret rfl rfl dX13_number_58
            · refine wq_iload_n dX13_number_46 1 rfl rfl ?_
              exact wq_iret rfl rfl dX13_number_47) (fun hj14 => ?_)
        refine WQ.both ((w32 x6) = 0) ?_
        refine wq_if_ne 38 dX13_number_31 (by decide) rfl (fun c15 => ?_) (fun c15 => ?_)
        · refine wq_iconst dX13_number_34 ?_
          refine wq_goto 39 dX13_number_35 (by decide) ?_
          exact WQ.top (if_pos c15) hj14
        · refine wq_iconst dX13_number_38 ?_
          exact WQ.top (if_neg c15) hj14
      · refine wq_iload_n dX13_number_46 1 rfl rfl ?_
        exact wq_iret rfl rfl dX13_number_47) (fun hj17 => ?_)
  refine WQ.both ((w32 (I 26 0 23)) = 2) ?_
  refine wq_icmp_eq 13 dX13_number_6 (by decide) rfl rfl (fun c18 => ?_) (fun c18 => ?_)
  · refine wq_iconst dX13_number_13 ?_
    exact WQ.top (if_pos c18) hj17
  · refine wq_iconst dX13_number_9 ?_
    refine wq_goto 14 dX13_number_10 (by decide) ?_
    exact WQ.top (if_neg c18) hj17

theorem ln_RX13_273 : Cond.fieldLink RX13 273 RX13 "soLong" "I" ∈ lw_good := li_7 83 (by decide +kernel) (by decide +kernel)
noncomputable def f_M_wordItem_w68 (v1 : Int) (s : Int) (I : Mem) : Option (((Int) ⊕ (Unit)) × Mem) :=
if (w32 s) < (w32 ((I 26 0 22) - (I 26 0 21))) then
if 0 ≤ (w32 ((I 26 0 21) + s)) ∧ (w32 ((I 26 0 21) + s)) < 600 then
bnd (f_M_adds v1 ((I 27 14 (w32 ((I 26 0 21) + s)).toNat) - 97) I) fun _ J19 =>
some (.inl (s + 1), J19)
else none
else
some (.inr (), I)

noncomputable def f_M_wordItem_j58 (v1 : Int)  (e0 : Int) (I : Mem) : Option ((Unit) × Mem) :=
bnd (f_M_faulty e0 5 I) fun x15 J14 =>
if (w32 x15) = 0 then
bnd (whl (f_M_wordItem_w68 v1) 0 J14) fun r35 J36 =>
ltI (sI J36 26 0 29 ((J36 26 0 29) + ((J36 26 0 22) - (J36 26 0 21)))) fun J39 =>
bnd (f_M_advance J39) fun _ J41 =>
some ((), J41)
else
some ((), J14)

noncomputable def f_M_wordItem_j53 (v1 : Int)   (I : Mem) : Option ((Unit) × Mem) :=
f_M_wordItem_j58 v1 1 I

noncomputable def f_M_wordItem (a1 : Int) (I : Mem) : Option ((Unit) × Mem) :=
bnd (f_M_faulty (if (w32 (I 26 0 23)) = 1 then 0 else 1) 1 I) fun x3 J2 =>
if (w32 x3) = 0 then
bnd (f_M_many a1 J2) fun x6 J5 =>
if 400 < (w32 (x6 + ((J5 26 0 22) - (J5 26 0 21)))) then
f_M_wordItem_j53 a1 J5
else
if 400 < (w32 ((J5 26 0 29) + ((J5 26 0 22) - (J5 26 0 21)))) then
f_M_wordItem_j53 a1 J5
else
f_M_wordItem_j58 a1 0 J5
else
some ((), J2)
set_option maxRecDepth 20000 in
theorem R_M_wordItem (Z : ZT) (a1 : Int) (I : Mem) (r : Unit) (J : Mem) (hf : f_M_wordItem a1 I = some (r, J)) : Runs Z yX13_wordItem cX13_wordItem 3 (none) 4 [vr Z 26 0, vi a1] I (none, J) := by
  refine Runs.of (rv := fun _ => none) (by decide +kernel) (Nat.le_of_ble_eq_true rfl) hf (fun gr => ?_)
  unfold f_M_wordItem
  refine WQ.loc [0, 1] (lv' := [(0, vr Z 26 0), (1, vi a1)]) rfl ?_
  refine wq_aload_n dX13_wordItem_0 0 rfl rfl ?_
  refine wq_aload_n dX13_wordItem_1 0 rfl rfl ?_
  refine g_26_23 ln_RX13_237 dX13_wordItem_2 ?_
  refine wq_iconst dX13_wordItem_5 ?_
  refine WQ.via 14 [vi (if (w32 (I 26 0 23)) = 1 then 0 else 1), vr Z 26 0] (by
      refine wq_iconst dX13_wordItem_14 ?_
      refine wq_cVi M_M_faulty (R_M_faulty Z (if (w32 (I 26 0 23)) = 1 then 0 else 1) 1 _) ob_26 rfl rfl (by decide) (by decide) (Nat.le_of_ble_eq_true rfl) ln_RX13_266 dX13_wordItem_15 (fun gr1 x3 J2 => ?_)
      refine wq_if_ne 65 dX13_wordItem_18 (by decide) rfl (fun c73 => ?_) (fun c73 => ?_)
      · refine wq_aload_n dX13_wordItem_21 0 rfl rfl ?_
        refine wq_aload_n dX13_wordItem_22 0 rfl rfl ?_
        refine wq_iload_n dX13_wordItem_23 1 rfl rfl ?_
        refine wq_cVi M_M_many (R_M_many Z a1 _) ob_26 rfl rfl (by decide) (by decide) (Nat.le_of_ble_eq_true rfl) ln_RX13_103 dX13_wordItem_24 (fun gr4 x6 J5 => ?_)
        refine wq_aload_n dX13_wordItem_27 0 rfl rfl ?_
        refine wq_pV (v := vi ((J5 26 0 22) - (J5 26 0 21))) M_M_length (R_M_length Z  _ _ _ rfl) ob_26 rfl rfl (by decide) (by decide) (Nat.le_of_ble_eq_true rfl) ln_RX13_253 dX13_wordItem_28 (fun gr7 => ?_)
        refine wq_iadd dX13_wordItem_31 ?_
        refine wq_sipush dX13_wordItem_32 (by decide) ?_
        have hj8 : ∀ (gr45 : Nat → Nat)  (hj8e0 : Int) (J44 : Mem), WQ Z (yX13_wordItem, cX13_wordItem, 3, none, 4) I gr45 58 [(0, vr Z 26 0), (1, vi a1)] [vi hj8e0, vr Z 26 0] J44 (f_M_wordItem_j58 a1 hj8e0 J44) (fun b K => some (.inl ((fun _ => none) b), K)) := by
          intro gr45 hj8e0 J44
          unfold f_M_wordItem_j58
          refine wq_iconst dX13_wordItem_58 ?_
          refine wq_cVi M_M_faulty (R_M_faulty Z hj8e0 5 _) ob_26 rfl rfl (by decide) (by decide) (Nat.le_of_ble_eq_true rfl) ln_RX13_266 dX13_wordItem_59 (fun gr46 x48 J47 => ?_)
          refine wq_if_eq 66 dX13_wordItem_62 (by decide) rfl (fun c70 => ?_) (fun c70 => ?_)
          · refine wq_iconst dX13_wordItem_66 ?_
            refine wq_istore_n (lv' := [(2, vi 0), (0, vr Z 26 0), (1, vi a1)]) dX13_wordItem_67 rfl (by decide) rfl ?_
            refine WQ.loc [1, 2, 0] (lv' := [(0, vr Z 26 0), (1, vi a1), (2, vi 0)]) rfl ?_
            refine wq_loopS (fun s55 => [(0, vr Z 26 0), (1, vi a1), (2, vi s55)]) 101 (fun _ => [(0, vr Z 26 0)]) (fun κ49 bk50 ex51 gr54 s55 J53 => ?_) (fun gr64 r62 J63 => ?_) gr46 _ rfl
            · unfold f_M_wordItem_w68
              refine wq_iload_n dX13_wordItem_68 2 rfl rfl ?_
              refine wq_aload_n dX13_wordItem_69 0 rfl rfl ?_
              refine wq_pV (v := vi ((J53 26 0 22) - (J53 26 0 21))) M_M_length (R_M_length Z  _ _ _ rfl) ob_26 rfl rfl (by decide) (by decide) (Nat.le_of_ble_eq_true rfl) ln_RX13_253 dX13_wordItem_70 (fun gr56 => ?_)
              refine wq_icmp_ge 101 dX13_wordItem_73 (by decide) rfl rfl (fun c61 => ?_) (fun c61 => ?_)
              · refine wq_aload_n dX13_wordItem_76 0 rfl rfl ?_
                refine wq_iload_n dX13_wordItem_77 1 rfl rfl ?_
                refine wq_aload_n dX13_wordItem_78 0 rfl rfl ?_
                refine g_26_19 ln_RX13_58 dX13_wordItem_79 ?_
                refine wq_aload_n dX13_wordItem_82 0 rfl rfl ?_
                refine g_26_21 ln_RX13_231 dX13_wordItem_83 ?_
                refine wq_iload_n dX13_wordItem_86 2 rfl rfl ?_
                refine wq_iadd dX13_wordItem_87 ?_
                refine wq_grd (fun g57 => ?_)
                refine wq_iald (k := 27) (i := 14) rfl (by decide) rfl rfl (m := 600) g57 (Nat.le_of_ble_eq_true rfl) dX13_wordItem_88 ?_
                refine wq_bipush dX13_wordItem_89 (by decide) ?_
                refine wq_isub dX13_wordItem_91 ?_
                refine wq_cVv M_M_adds (R_M_adds Z a1 ((J53 27 14 (w32 ((J53 26 0 21) + s55)).toNat) - 97) _) ob_26 rfl rfl (by decide) (by decide) (Nat.le_of_ble_eq_true rfl) ln_RX13_93 dX13_wordItem_92 (fun gr58 _ J59 => ?_)
                refine wq_iinc (lv' := [(2, vi (s55 + 1)), (0, vr Z 26 0), (1, vi a1)]) dX13_wordItem_95 2 rfl (by decide) rfl ?_
                refine wq_goto 68 dX13_wordItem_98 (by decide) ?_
                exact WQ.loc [1, 2, 0] rfl (bk50 _ _ _)
              · exact WQ.loc [0] rfl (ex51 _ _ _)
            · refine wq_aload_n dX13_wordItem_101 0 rfl rfl ?_
              refine wq_dup dX13_wordItem_102 rfl ?_
              refine g_26_29 ln_RX13_273 dX13_wordItem_103 ?_
              refine wq_aload_n dX13_wordItem_106 0 rfl rfl ?_
              refine wq_pV (v := vi ((J63 26 0 22) - (J63 26 0 21))) M_M_length (R_M_length Z  _ _ _ rfl) ob_26 rfl rfl (by decide) (by decide) (Nat.le_of_ble_eq_true rfl) ln_RX13_253 dX13_wordItem_107 (fun gr65 => ?_)
              refine wq_iadd dX13_wordItem_110 ?_
              refine p_26_29 ln_RX13_273 dX13_wordItem_111 (fun J66 => ?_)
              refine wq_aload_n dX13_wordItem_114 0 rfl rfl ?_
              refine wq_cVv M_M_advance (R_M_advance Z _) ob_26 rfl rfl (by decide) (by decide) (Nat.le_of_ble_eq_true rfl) ln_RX13_270 dX13_wordItem_115 (fun gr67 _ J68 => ?_)
              exact wq_vret rfl rfl dX13_wordItem_118
          · exact wq_vret rfl rfl dX13_wordItem_65
        have hj9 : ∀ (gr72 : Nat → Nat)   (J71 : Mem), WQ Z (yX13_wordItem, cX13_wordItem, 3, none, 4) I gr72 53 [(0, vr Z 26 0), (1, vi a1)] [vr Z 26 0] J71 (f_M_wordItem_j53 a1 J71) (fun b K => some (.inl ((fun _ => none) b), K)) := by
          intro gr72 J71
          unfold f_M_wordItem_j53
          refine wq_iconst dX13_wordItem_53 ?_
          refine wq_goto 58 dX13_wordItem_54 (by decide) ?_
          exact WQ.loc [0, 1] rfl (hj8 _  _ _)
        refine wq_icmp_gt 53 dX13_wordItem_35 (by decide) rfl rfl (fun c12 => ?_) (fun c12 => ?_)
        · exact WQ.loc [0, 1] rfl (hj9 _   _)
        · refine wq_aload_n dX13_wordItem_38 0 rfl rfl ?_
          refine g_26_29 ln_RX13_273 dX13_wordItem_39 ?_
          refine wq_aload_n dX13_wordItem_42 0 rfl rfl ?_
          refine wq_pV (v := vi ((J5 26 0 22) - (J5 26 0 21))) M_M_length (R_M_length Z  _ _ _ rfl) ob_26 rfl rfl (by decide) (by decide) (Nat.le_of_ble_eq_true rfl) ln_RX13_253 dX13_wordItem_43 (fun gr10 => ?_)
          refine wq_iadd dX13_wordItem_46 ?_
          refine wq_sipush dX13_wordItem_47 (by decide) ?_
          refine wq_icmp_le 57 dX13_wordItem_50 (by decide) rfl rfl (fun c11 => ?_) (fun c11 => ?_)
          · exact WQ.loc [0, 1] rfl (hj9 _   _)
          · refine wq_iconst dX13_wordItem_57 ?_
            exact WQ.loc [0, 1] rfl (hj8 _  _ _)
      · exact wq_vret rfl rfl dX13_wordItem_65) (fun hj74 => ?_)
  refine WQ.both ((w32 (I 26 0 23)) = 1) ?_
  refine wq_icmp_eq 13 dX13_wordItem_6 (by decide) rfl rfl (fun c75 => ?_) (fun c75 => ?_)
  · refine wq_iconst dX13_wordItem_13 ?_
    exact WQ.top (if_pos c75) hj74
  · refine wq_iconst dX13_wordItem_9 ?_
    refine wq_goto 14 dX13_wordItem_10 (by decide) ?_
    exact WQ.top (if_neg c75) hj74

theorem M_M_takesSign : MwV yX13_takesSign cX13_takesSign 2 (none) 1 := ⟨li_8 40 (by decide +kernel) (by decide +kernel), li_8 39 (by decide +kernel) (by decide +kernel), lw_in 72 (by decide +kernel) (by decide +kernel), li_1 16 (by decide +kernel) (by decide +kernel), by decide +kernel⟩
theorem ln_RX13_276 : Cond.methodLink RX13 276 yX13_takesSign ∈ lw_good := li_8 37 (by decide +kernel) (by decide +kernel)
noncomputable def f_M_ruleItem (a1 : Int) (a2 : Int) (I : Mem) : Option ((Unit) × Mem) :=
bnd (f_M_advance I) fun _ J2 =>
bnd (f_M_faulty (if (w32 (J2 26 0 23)) = 2 then 0 else 1) 1 J2) fun x6 J5 =>
if (w32 x6) = 0 then
bnd (f_M_faulty (if (w32 (J5 26 0 24)) < 40 then 0 else 1) 2 J5) fun x9 J8 =>
if (w32 x9) = 0 then
bnd (f_M_faulty (if (w32 (J8 26 0 24)) < (w32 a2) then 0 else 1) 4 J8) fun x12 J11 =>
if (w32 x12) = 0 then
bnd (f_M_many a1 J11) fun x15 J14 =>
if (w32 x15) = 400 then
ltI (sI J14 26 0 25 5) fun J16 =>
ltI (sI J16 26 0 26 (I 26 0 21)) fun J17 =>
some ((), J17)
else
if 0 ≤ (w32 (26 + (J11 26 0 24))) ∧ (w32 (26 + (J11 26 0 24))) < 66 then
if 400 < (w32 ((J14 26 0 29) + (J14 27 5 (w32 (26 + (J11 26 0 24))).toNat))) then
ltI (sI J14 26 0 25 5) fun J29 =>
ltI (sI J29 26 0 26 (I 26 0 21)) fun J30 =>
some ((), J30)
else
bnd (f_M_adds a1 (26 + (J11 26 0 24)) J14) fun _ J20 =>
ltI (sI J20 26 0 29 ((J20 26 0 29) + (J20 27 5 (w32 (26 + (J11 26 0 24))).toNat))) fun J22 =>
bnd (f_M_advance J22) fun _ J24 =>
bnd (f_M_takesSign 41 J24) fun _ J27 =>
some ((), J27)
else none
else
some ((), J11)
else
some ((), J8)
else
some ((), J5)
set_option maxRecDepth 20000 in
theorem R_M_ruleItem (Z : ZT) (a1 : Int) (a2 : Int) (I : Mem) (r : Unit) (J : Mem) (hf : f_M_ruleItem a1 a2 I = some (r, J)) : Runs Z yX13_ruleItem cX13_ruleItem 5 (none) 5 [vr Z 26 0, vi a1, vi a2] I (none, J) := by
  refine Runs.of (rv := fun _ => none) (by decide +kernel) (Nat.le_of_ble_eq_true rfl) hf (fun gr => ?_)
  unfold f_M_ruleItem
  refine WQ.loc [0, 1, 2] (lv' := [(0, vr Z 26 0), (1, vi a1), (2, vi a2)]) rfl ?_
  refine wq_aload_n dX13_ruleItem_0 0 rfl rfl ?_
  refine g_26_21 ln_RX13_231 dX13_ruleItem_1 ?_
  refine wq_istore_n (lv' := [(3, vi (I 26 0 21)), (0, vr Z 26 0), (1, vi a1), (2, vi a2)]) dX13_ruleItem_4 rfl (by decide) rfl ?_
  refine wq_aload_n dX13_ruleItem_5 1 rfl rfl ?_
  refine wq_cVv M_M_advance (R_M_advance Z _) ob_26 rfl rfl (by decide) (by decide) (Nat.le_of_ble_eq_true rfl) ln_RX13_270 dX13_ruleItem_6 (fun gr1 _ J2 => ?_)
  refine wq_aload_n dX13_ruleItem_9 1 rfl rfl ?_
  refine wq_aload_n dX13_ruleItem_10 1 rfl rfl ?_
  refine g_26_23 ln_RX13_237 dX13_ruleItem_11 ?_
  refine wq_iconst dX13_ruleItem_14 ?_
  refine WQ.via 23 [vi (if (w32 (J2 26 0 23)) = 2 then 0 else 1), vr Z 26 0] (by
      refine wq_iconst dX13_ruleItem_23 ?_
      refine wq_cVi M_M_faulty (R_M_faulty Z (if (w32 (J2 26 0 23)) = 2 then 0 else 1) 1 _) ob_26 rfl rfl (by decide) (by decide) (Nat.le_of_ble_eq_true rfl) ln_RX13_266 dX13_ruleItem_24 (fun gr4 x6 J5 => ?_)
      refine wq_if_ne 73 dX13_ruleItem_27 (by decide) rfl (fun c39 => ?_) (fun c39 => ?_)
      · refine wq_aload_n dX13_ruleItem_30 1 rfl rfl ?_
        refine wq_aload_n dX13_ruleItem_31 1 rfl rfl ?_
        refine g_26_24 ln_RX13_234 dX13_ruleItem_32 ?_
        refine wq_bipush dX13_ruleItem_35 (by decide) ?_
        refine WQ.via 45 [vi (if (w32 (J5 26 0 24)) < 40 then 0 else 1), vr Z 26 0] (by
            refine wq_iconst dX13_ruleItem_45 ?_
            refine wq_cVi M_M_faulty (R_M_faulty Z (if (w32 (J5 26 0 24)) < 40 then 0 else 1) 2 _) ob_26 rfl rfl (by decide) (by decide) (Nat.le_of_ble_eq_true rfl) ln_RX13_266 dX13_ruleItem_46 (fun gr7 x9 J8 => ?_)
            refine wq_if_ne 73 dX13_ruleItem_49 (by decide) rfl (fun c36 => ?_) (fun c36 => ?_)
            · refine wq_aload_n dX13_ruleItem_52 1 rfl rfl ?_
              refine wq_aload_n dX13_ruleItem_53 1 rfl rfl ?_
              refine g_26_24 ln_RX13_234 dX13_ruleItem_54 ?_
              refine wq_iload_n dX13_ruleItem_57 3 rfl rfl ?_
              refine WQ.via 66 [vi (if (w32 (J8 26 0 24)) < (w32 a2) then 0 else 1), vr Z 26 0] (by
                  refine wq_iconst dX13_ruleItem_66 ?_
                  refine wq_cVi M_M_faulty (R_M_faulty Z (if (w32 (J8 26 0 24)) < (w32 a2) then 0 else 1) 4 _) ob_26 rfl rfl (by decide) (by decide) (Nat.le_of_ble_eq_true rfl) ln_RX13_266 dX13_ruleItem_67 (fun gr10 x12 J11 => ?_)
                  refine wq_if_eq 74 dX13_ruleItem_70 (by decide) rfl (fun c33 => ?_) (fun c33 => ?_)
                  · refine wq_aload_n dX13_ruleItem_74 1 rfl rfl ?_
                    refine g_26_24 ln_RX13_234 dX13_ruleItem_75 ?_
                    refine wq_istore (lv' := [(4, vi (J11 26 0 24)), (3, vi (I 26 0 21)), (0, vr Z 26 0), (1, vi a1), (2, vi a2)]) dX13_ruleItem_78 (by decide) rfl ?_
                    refine wq_aload_n dX13_ruleItem_80 2 rfl rfl ?_
                    refine wq_iload_n dX13_ruleItem_81 3 rfl rfl ?_
                    refine wq_cVi M_M_many (R_M_many Z a1 _) ob_26 rfl rfl (by decide) (by decide) (Nat.le_of_ble_eq_true rfl) ln_RX13_103 dX13_ruleItem_82 (fun gr13 x15 J14 => ?_)
                    refine wq_sipush dX13_ruleItem_85 (by decide) ?_
                    refine wq_icmp_eq 112 dX13_ruleItem_88 (by decide) rfl rfl (fun c32 => ?_) (fun c32 => ?_)
                    · refine wq_aload_n dX13_ruleItem_112 2 rfl rfl ?_
                      refine wq_iconst dX13_ruleItem_113 ?_
                      refine p_26_25 ln_RX13_247 dX13_ruleItem_114 (fun J16 => ?_)
                      refine wq_aload_n dX13_ruleItem_117 2 rfl rfl ?_
                      refine wq_iload_n dX13_ruleItem_118 1 rfl rfl ?_
                      refine p_26_26 ln_RX13_250 dX13_ruleItem_119 (fun J17 => ?_)
                      exact wq_vret rfl rfl dX13_ruleItem_122
                    · refine wq_aload_n dX13_ruleItem_91 2 rfl rfl ?_
                      refine g_26_29 ln_RX13_273 dX13_ruleItem_92 ?_
                      refine wq_aload_n dX13_ruleItem_95 2 rfl rfl ?_
                      refine g_26_8 ln_RX13_31 dX13_ruleItem_96 ?_
                      refine wq_bipush dX13_ruleItem_99 (by decide) ?_
                      refine wq_iload dX13_ruleItem_101 0 rfl ?_
                      refine wq_iadd dX13_ruleItem_103 ?_
                      refine wq_grd (fun g18 => ?_)
                      refine wq_iald (k := 27) (i := 5) rfl (by decide) rfl rfl (m := 66) g18 (Nat.le_of_ble_eq_true rfl) dX13_ruleItem_104 ?_
                      refine wq_iadd dX13_ruleItem_105 ?_
                      refine wq_sipush dX13_ruleItem_106 (by decide) ?_
                      refine wq_icmp_le 123 dX13_ruleItem_109 (by decide) rfl rfl (fun c31 => ?_) (fun c31 => ?_)
                      · refine wq_aload_n dX13_ruleItem_112 2 rfl rfl ?_
                        refine wq_iconst dX13_ruleItem_113 ?_
                        refine p_26_25 ln_RX13_247 dX13_ruleItem_114 (fun J29 => ?_)
                        refine wq_aload_n dX13_ruleItem_117 2 rfl rfl ?_
                        refine wq_iload_n dX13_ruleItem_118 1 rfl rfl ?_
                        refine p_26_26 ln_RX13_250 dX13_ruleItem_119 (fun J30 => ?_)
                        exact wq_vret rfl rfl dX13_ruleItem_122
                      · refine wq_aload_n dX13_ruleItem_123 2 rfl rfl ?_
                        refine wq_iload_n dX13_ruleItem_124 3 rfl rfl ?_
                        refine wq_bipush dX13_ruleItem_125 (by decide) ?_
                        refine wq_iload dX13_ruleItem_127 0 rfl ?_
                        refine wq_iadd dX13_ruleItem_129 ?_
                        refine wq_cVv M_M_adds (R_M_adds Z a1 (26 + (J11 26 0 24)) _) ob_26 rfl rfl (by decide) (by decide) (Nat.le_of_ble_eq_true rfl) ln_RX13_93 dX13_ruleItem_130 (fun gr19 _ J20 => ?_)
                        refine wq_aload_n dX13_ruleItem_133 2 rfl rfl ?_
                        refine wq_dup dX13_ruleItem_134 rfl ?_
                        refine g_26_29 ln_RX13_273 dX13_ruleItem_135 ?_
                        refine wq_aload_n dX13_ruleItem_138 2 rfl rfl ?_
                        refine g_26_8 ln_RX13_31 dX13_ruleItem_139 ?_
                        refine wq_bipush dX13_ruleItem_142 (by decide) ?_
                        refine wq_iload dX13_ruleItem_144 0 rfl ?_
                        refine wq_iadd dX13_ruleItem_146 ?_
                        refine wq_iald (k := 27) (i := 5) rfl (by decide) rfl rfl (m := 66) g18 (Nat.le_of_ble_eq_true rfl) dX13_ruleItem_147 ?_
                        refine wq_iadd dX13_ruleItem_148 ?_
                        refine p_26_29 ln_RX13_273 dX13_ruleItem_149 (fun J22 => ?_)
                        refine wq_aload_n dX13_ruleItem_152 2 rfl rfl ?_
                        refine wq_cVv M_M_advance (R_M_advance Z _) ob_26 rfl rfl (by decide) (by decide) (Nat.le_of_ble_eq_true rfl) ln_RX13_270 dX13_ruleItem_153 (fun gr23 _ J24 => ?_)
                        refine wq_aload_n dX13_ruleItem_156 2 rfl rfl ?_
                        refine wq_bipush dX13_ruleItem_157 (by decide) ?_
                        refine wq_cVv M_M_takesSign (R_M_takesSign Z 41 _) ob_26 rfl rfl (by decide) (by decide) (Nat.le_of_ble_eq_true rfl) ln_RX13_276 dX13_ruleItem_159 (fun gr26 _ J27 => ?_)
                        exact wq_vret rfl rfl dX13_ruleItem_162
                  · exact wq_vret rfl rfl dX13_ruleItem_73) (fun hj34 => ?_)
              refine WQ.both ((w32 (J8 26 0 24)) < (w32 a2)) ?_
              refine wq_icmp_lt 65 dX13_ruleItem_58 (by decide) rfl rfl (fun c35 => ?_) (fun c35 => ?_)
              · refine wq_iconst dX13_ruleItem_65 ?_
                exact WQ.top (if_pos c35) hj34
              · refine wq_iconst dX13_ruleItem_61 ?_
                refine wq_goto 66 dX13_ruleItem_62 (by decide) ?_
                exact WQ.top (if_neg c35) hj34
            · exact wq_vret rfl rfl dX13_ruleItem_73) (fun hj37 => ?_)
        refine WQ.both ((w32 (J5 26 0 24)) < 40) ?_
        refine wq_icmp_lt 44 dX13_ruleItem_37 (by decide) rfl rfl (fun c38 => ?_) (fun c38 => ?_)
        · refine wq_iconst dX13_ruleItem_44 ?_
          exact WQ.top (if_pos c38) hj37
        · refine wq_iconst dX13_ruleItem_40 ?_
          refine wq_goto 45 dX13_ruleItem_41 (by decide) ?_
          exact WQ.top (if_neg c38) hj37
      · exact wq_vret rfl rfl dX13_ruleItem_73) (fun hj40 => ?_)
  refine WQ.both ((w32 (J2 26 0 23)) = 2) ?_
  refine wq_icmp_eq 22 dX13_ruleItem_15 (by decide) rfl rfl (fun c41 => ?_) (fun c41 => ?_)
  · refine wq_iconst dX13_ruleItem_22 ?_
    exact WQ.top (if_pos c41) hj40
  · refine wq_iconst dX13_ruleItem_18 ?_
    refine wq_goto 23 dX13_ruleItem_19 (by decide) ?_
    exact WQ.top (if_neg c41) hj40

theorem M_M_wordItem : MwV yX13_wordItem cX13_wordItem 3 (none) 1 := ⟨li_8 44 (by decide +kernel) (by decide +kernel), li_8 43 (by decide +kernel) (by decide +kernel), lw_in 73 (by decide +kernel) (by decide +kernel), li_1 16 (by decide +kernel) (by decide +kernel), by decide +kernel⟩
theorem ln_RX13_282 : Cond.methodLink RX13 282 yX13_wordItem ∈ lw_good := li_8 41 (by decide +kernel) (by decide +kernel)
theorem M_M_ruleItem : MwV yX13_ruleItem cX13_ruleItem 5 (none) 2 := ⟨li_8 36 (by decide +kernel) (by decide +kernel), li_8 35 (by decide +kernel) (by decide +kernel), lw_in 71 (by decide +kernel) (by decide +kernel), li_1 16 (by decide +kernel) (by decide +kernel), by decide +kernel⟩
theorem ln_RX13_279 : Cond.methodLink RX13 279 yX13_ruleItem ∈ lw_good := li_8 33 (by decide +kernel) (by decide +kernel)
noncomputable def f_M_items_j45 (v1 : Int) (v2 : Int)   (I : Mem) : Option (((Int) ⊕ (Unit)) × Mem) :=
if (w32 (I 26 0 23)) = 1 then
some (.inl 1, I)
else
bnd (f_M_isSign 40 I) fun x18 J17 =>
if (w32 x18) = 0 then
some (.inl 0, J17)
else
some (.inl 1, J17)

noncomputable def f_M_items_w11 (v1 : Int) (v2 : Int) (s : Int) (I : Mem) : Option (((Int) ⊕ (Unit)) × Mem) :=
if (w32 s) = 0 then
some (.inr (), I)
else
if (w32 (I 26 0 25)) = 0 then
bnd (f_M_isSign 40 I) fun x7 J6 =>
if (w32 x7) = 0 then
bnd (f_M_wordItem v1 J6) fun _ J10 =>
f_M_items_j45 v1 v2 J10
else
bnd (f_M_ruleItem v1 v2 J6) fun _ J13 =>
f_M_items_j45 v1 v2 J13
else
some (.inr (), I)

noncomputable def f_M_items (a1 : Int) (a2 : Int) (I : Mem) : Option ((Unit) × Mem) :=
ltI (sI I 26 0 29 0) fun J1 =>
bnd (f_M_laysLengths J1) fun _ J3 =>
bnd (whl (f_M_items_w11 a1 a2) 1 J3) fun r57 J58 =>
some ((), J58)
set_option maxRecDepth 20000 in
theorem R_M_items (Z : ZT) (a1 : Int) (a2 : Int) (I : Mem) (r : Unit) (J : Mem) (hf : f_M_items a1 a2 I = some (r, J)) : Runs Z yX13_items cX13_items 4 (none) 6 [vr Z 26 0, vi a1, vi a2] I (none, J) := by
  refine Runs.of (rv := fun _ => none) (by decide +kernel) (Nat.le_of_ble_eq_true rfl) hf (fun gr => ?_)
  unfold f_M_items
  refine WQ.loc [0, 1, 2] (lv' := [(0, vr Z 26 0), (1, vi a1), (2, vi a2)]) rfl ?_
  refine wq_aload_n dX13_items_0 0 rfl rfl ?_
  refine wq_iconst dX13_items_1 ?_
  refine p_26_29 ln_RX13_273 dX13_items_2 (fun J1 => ?_)
  refine wq_aload_n dX13_items_5 0 rfl rfl ?_
  refine wq_cVv M_M_laysLengths (R_M_laysLengths Z _) ob_26 rfl rfl (by decide) (by decide) (Nat.le_of_ble_eq_true rfl) ln_RX13_137 dX13_items_6 (fun gr2 _ J3 => ?_)
  refine wq_iconst dX13_items_9 ?_
  refine wq_istore_n (lv' := [(3, vi 1), (0, vr Z 26 0), (1, vi a1), (2, vi a2)]) dX13_items_10 rfl (by decide) rfl ?_
  refine WQ.loc [1, 2, 3, 0] (lv' := [(0, vr Z 26 0), (1, vi a1), (2, vi a2), (3, vi 1)]) rfl ?_
  refine wq_loopS (fun s36 => [(0, vr Z 26 0), (1, vi a1), (2, vi a2), (3, vi s36)]) 71 (fun _ => []) (fun κ30 bk31 ex32 gr35 s36 J34 => ?_) (fun gr59 r57 J58 => ?_) gr2 _ rfl
  · unfold f_M_items_w11
    refine wq_iload_n dX13_items_11 3 rfl rfl ?_
    refine wq_if_eq 71 dX13_items_12 (by decide) rfl (fun c56 => ?_) (fun c56 => ?_)
    · exact WQ.loc [] rfl (ex32 _ _ _)
    · refine wq_aload_n dX13_items_15 0 rfl rfl ?_
      refine g_26_25 ln_RX13_247 dX13_items_16 ?_
      refine wq_if_ne 71 dX13_items_19 (by decide) rfl (fun c55 => ?_) (fun c55 => ?_)
      · refine wq_aload_n dX13_items_22 0 rfl rfl ?_
        refine wq_bipush dX13_items_23 (by decide) ?_
        refine wq_cVi M_M_isSign (R_M_isSign Z 40 _) ob_26 rfl rfl (by decide) (by decide) (Nat.le_of_ble_eq_true rfl) ln_RX13_263 dX13_items_25 (fun gr37 x39 J38 => ?_)
        have hj40 : ∀ (gr49 : Nat → Nat)   (J48 : Mem), WQ Z (yX13_items, cX13_items, 4, none, 6) I gr49 45 [(0, vr Z 26 0), (1, vi a1), (2, vi a2)] [] J48 (f_M_items_j45 a1 a2 J48) κ30 := by
          intro gr49 J48
          unfold f_M_items_j45
          refine wq_aload_n dX13_items_45 0 rfl rfl ?_
          refine g_26_23 ln_RX13_237 dX13_items_46 ?_
          refine wq_iconst dX13_items_49 ?_
          refine wq_icmp_eq 62 dX13_items_50 (by decide) rfl rfl (fun c54 => ?_) (fun c54 => ?_)
          · refine wq_iconst dX13_items_62 ?_
            refine wq_goto 67 dX13_items_63 (by decide) ?_
            refine wq_istore_n (lv' := [(3, vi 1), (0, vr Z 26 0), (1, vi a1), (2, vi a2)]) dX13_items_67 rfl (by decide) rfl ?_
            refine wq_goto 11 dX13_items_68 (by decide) ?_
            exact WQ.loc [1, 2, 3, 0] rfl (bk31 _ _ _)
          · refine wq_aload_n dX13_items_53 0 rfl rfl ?_
            refine wq_bipush dX13_items_54 (by decide) ?_
            refine wq_cVi M_M_isSign (R_M_isSign Z 40 _) ob_26 rfl rfl (by decide) (by decide) (Nat.le_of_ble_eq_true rfl) ln_RX13_263 dX13_items_56 (fun gr50 x52 J51 => ?_)
            refine wq_if_eq 66 dX13_items_59 (by decide) rfl (fun c53 => ?_) (fun c53 => ?_)
            · refine wq_iconst dX13_items_66 ?_
              refine wq_istore_n (lv' := [(3, vi 0), (0, vr Z 26 0), (1, vi a1), (2, vi a2)]) dX13_items_67 rfl (by decide) rfl ?_
              refine wq_goto 11 dX13_items_68 (by decide) ?_
              exact WQ.loc [1, 2, 3, 0] rfl (bk31 _ _ _)
            · refine wq_iconst dX13_items_62 ?_
              refine wq_goto 67 dX13_items_63 (by decide) ?_
              refine wq_istore_n (lv' := [(3, vi 1), (0, vr Z 26 0), (1, vi a1), (2, vi a2)]) dX13_items_67 rfl (by decide) rfl ?_
              refine wq_goto 11 dX13_items_68 (by decide) ?_
              exact WQ.loc [1, 2, 3, 0] rfl (bk31 _ _ _)
        refine wq_if_eq 40 dX13_items_28 (by decide) rfl (fun c47 => ?_) (fun c47 => ?_)
        · refine wq_aload_n dX13_items_40 0 rfl rfl ?_
          refine wq_iload_n dX13_items_41 1 rfl rfl ?_
          refine wq_cVv M_M_wordItem (R_M_wordItem Z a1 _) ob_26 rfl rfl (by decide) (by decide) (Nat.le_of_ble_eq_true rfl) ln_RX13_282 dX13_items_42 (fun gr41 _ J42 => ?_)
          exact WQ.loc [0, 1, 2] rfl (hj40 _   _)
        · refine wq_aload_n dX13_items_31 0 rfl rfl ?_
          refine wq_iload_n dX13_items_32 1 rfl rfl ?_
          refine wq_iload_n dX13_items_33 2 rfl rfl ?_
          refine wq_cVv M_M_ruleItem (R_M_ruleItem Z a1 a2 _) ob_26 rfl rfl (by decide) (by decide) (Nat.le_of_ble_eq_true rfl) ln_RX13_279 dX13_items_34 (fun gr44 _ J45 => ?_)
          refine wq_goto 45 dX13_items_37 (by decide) ?_
          exact WQ.loc [0, 1, 2] rfl (hj40 _   _)
      · exact WQ.loc [] rfl (ex32 _ _ _)
  · exact wq_vret rfl rfl dX13_items_71

theorem ln_RX13_285 : Cond.fieldLink RX13 285 RX13 "toldOnce" "I" ∈ lw_good := li_7 82 (by decide +kernel) (by decide +kernel)
noncomputable def f_M_isOnce (a1 : Int) (I : Mem) : Option ((Int) × Mem) :=
bnd (f_M_faulty (if (w32 (ian (isr (I 26 0 28) a1) 1)) = 1 then 1 else 0) 3 I) fun x3 J2 =>
if (w32 x3) = 0 then
ltI (sI J2 26 0 28 (ior (J2 26 0 28) (ish 1 a1))) fun J4 =>
bnd (f_M_advance J4) fun _ J6 =>
some (1, J6)
else
some (0, J2)
set_option maxRecDepth 20000 in
theorem R_M_isOnce (Z : ZT) (a1 : Int) (I : Mem) (r : Int) (J : Mem) (hf : f_M_isOnce a1 I = some (r, J)) : Runs Z yX13_isOnce cX13_isOnce 2 (some .boolean) 4 [vr Z 26 0, vi a1] I (some (vi r), J) := by
  refine Runs.of (rv := fun x => some (vi x)) (by decide +kernel) (Nat.le_of_ble_eq_true rfl) hf (fun gr => ?_)
  unfold f_M_isOnce
  refine WQ.loc [0, 1] (lv' := [(0, vr Z 26 0), (1, vi a1)]) rfl ?_
  refine wq_aload_n dX13_isOnce_0 0 rfl rfl ?_
  refine wq_aload_n dX13_isOnce_1 0 rfl rfl ?_
  refine g_26_28 ln_RX13_285 dX13_isOnce_2 ?_
  refine wq_iload_n dX13_isOnce_5 1 rfl rfl ?_
  refine wq_ishr dX13_isOnce_6 ?_
  refine wq_iconst dX13_isOnce_7 ?_
  refine wq_iand dX13_isOnce_8 ?_
  refine wq_iconst dX13_isOnce_9 ?_
  refine WQ.via 18 [vi (if (w32 (ian (isr (I 26 0 28) a1) 1)) = 1 then 1 else 0), vr Z 26 0] (by
      refine wq_iconst dX13_isOnce_18 ?_
      refine wq_cVi M_M_faulty (R_M_faulty Z (if (w32 (ian (isr (I 26 0 28) a1) 1)) = 1 then 1 else 0) 3 _) ob_26 rfl rfl (by decide) (by decide) (Nat.le_of_ble_eq_true rfl) ln_RX13_266 dX13_isOnce_19 (fun gr1 x3 J2 => ?_)
      refine wq_if_eq 27 dX13_isOnce_22 (by decide) rfl (fun c8 => ?_) (fun c8 => ?_)
      · refine wq_aload_n dX13_isOnce_27 0 rfl rfl ?_
        refine wq_dup dX13_isOnce_28 rfl ?_
        refine g_26_28 ln_RX13_285 dX13_isOnce_29 ?_
        refine wq_iconst dX13_isOnce_32 ?_
        refine wq_iload_n dX13_isOnce_33 1 rfl rfl ?_
        refine wq_ishl dX13_isOnce_34 ?_
        refine wq_ior dX13_isOnce_35 ?_
        refine p_26_28 ln_RX13_285 dX13_isOnce_36 (fun J4 => ?_)
        refine wq_aload_n dX13_isOnce_39 0 rfl rfl ?_
        refine wq_cVv M_M_advance (R_M_advance Z _) ob_26 rfl rfl (by decide) (by decide) (Nat.le_of_ble_eq_true rfl) ln_RX13_270 dX13_isOnce_40 (fun gr5 _ J6 => ?_)
        refine wq_iconst dX13_isOnce_43 ?_
        exact wq_zret rfl (by decide) rfl dX13_isOnce_44
      · refine wq_iconst dX13_isOnce_25 ?_
        exact wq_zret rfl (by decide) rfl dX13_isOnce_26) (fun hj9 => ?_)
  refine WQ.both ((w32 (ian (isr (I 26 0 28) a1) 1)) = 1) ?_
  refine wq_icmp_ne 17 dX13_isOnce_10 (by decide) rfl rfl (fun c10 => ?_) (fun c10 => ?_)
  · refine wq_iconst dX13_isOnce_13 ?_
    refine wq_goto 18 dX13_isOnce_14 (by decide) ?_
    exact WQ.top (if_pos c10) hj9
  · refine wq_iconst dX13_isOnce_17 ?_
    exact WQ.top (if_neg c10) hj9

noncomputable def f_M_leastOf (a0 : Int) (I : Mem) : Option ((Int) × Mem) :=
if (w32 a0) = 0 then
some (2, I)
else
some (0, I)
set_option maxRecDepth 20000 in
theorem R_M_leastOf (Z : ZT) (a0 : Int) (I : Mem) (r : Int) (J : Mem) (hf : f_M_leastOf a0 I = some (r, J)) : Runs Z yX13_leastOf cX13_leastOf 1 (some .int) 1 [vi a0] I (some (vi r), J) := by
  refine Runs.of (rv := fun x => some (vi x)) (by decide +kernel) (Nat.le_of_ble_eq_true rfl) hf (fun gr => ?_)
  unfold f_M_leastOf
  refine WQ.loc [0] (lv' := [(0, vi a0)]) rfl ?_
  refine wq_iload_n dX13_leastOf_0 0 rfl rfl ?_
  refine wq_if_ne 8 dX13_leastOf_1 (by decide) rfl (fun c1 => ?_) (fun c1 => ?_)
  · refine wq_iconst dX13_leastOf_4 ?_
    refine wq_goto 9 dX13_leastOf_5 (by decide) ?_
    exact wq_iret rfl rfl dX13_leastOf_9
  · refine wq_iconst dX13_leastOf_8 ?_
    exact wq_iret rfl rfl dX13_leastOf_9

noncomputable def f_M_mostOf (a0 : Int) (I : Mem) : Option ((Int) × Mem) :=
if (w32 a0) = 0 then
some (9, I)
else
if (w32 a0) = 1 then
some (2, I)
else
some (1, I)
set_option maxRecDepth 20000 in
theorem R_M_mostOf (Z : ZT) (a0 : Int) (I : Mem) (r : Int) (J : Mem) (hf : f_M_mostOf a0 I = some (r, J)) : Runs Z yX13_mostOf cX13_mostOf 1 (some .int) 1 [vi a0] I (some (vi r), J) := by
  refine Runs.of (rv := fun x => some (vi x)) (by decide +kernel) (Nat.le_of_ble_eq_true rfl) hf (fun gr => ?_)
  unfold f_M_mostOf
  refine WQ.loc [0] (lv' := [(0, vi a0)]) rfl ?_
  refine wq_iload_n dX13_mostOf_0 0 rfl rfl ?_
  refine wq_if_ne 9 dX13_mostOf_1 (by decide) rfl (fun c2 => ?_) (fun c2 => ?_)
  · refine wq_bipush dX13_mostOf_4 (by decide) ?_
    refine wq_goto 19 dX13_mostOf_6 (by decide) ?_
    exact wq_iret rfl rfl dX13_mostOf_19
  · refine wq_iload_n dX13_mostOf_9 0 rfl rfl ?_
    refine wq_iconst dX13_mostOf_10 ?_
    refine wq_icmp_ne 18 dX13_mostOf_11 (by decide) rfl rfl (fun c1 => ?_) (fun c1 => ?_)
    · refine wq_iconst dX13_mostOf_14 ?_
      refine wq_goto 19 dX13_mostOf_15 (by decide) ?_
      exact wq_iret rfl rfl dX13_mostOf_19
    · refine wq_iconst dX13_mostOf_18 ?_
      exact wq_iret rfl rfl dX13_mostOf_19

theorem M_M_isKey : MwV yX13_isKey cX13_isKey 3 (some .boolean) 1 := ⟨li_8 1 (by decide +kernel) (by decide +kernel), li_8 0 (by decide +kernel) (by decide +kernel), lw_in 63 (by decide +kernel) (by decide +kernel), li_1 16 (by decide +kernel) (by decide +kernel), by decide +kernel⟩
theorem ln_RX13_290 : Cond.methodLink RX13 290 yX13_isKey ∈ lw_good := li_7 238 (by decide +kernel) (by decide +kernel)
theorem M_M_isOnce : MwV yX13_isOnce cX13_isOnce 2 (some .boolean) 1 := ⟨li_8 56 (by decide +kernel) (by decide +kernel), li_8 55 (by decide +kernel) (by decide +kernel), lw_in 75 (by decide +kernel) (by decide +kernel), li_1 16 (by decide +kernel) (by decide +kernel), by decide +kernel⟩
theorem M_M_leastOf : MwS yX13_leastOf cX13_leastOf 1 (some .int) 1 := ⟨li_8 59 (by decide +kernel) (by decide +kernel), li_8 58 (by decide +kernel) (by decide +kernel), li_1 16 (by decide +kernel) (by decide +kernel), by decide +kernel⟩
theorem M_M_mostOf : MwS yX13_mostOf cX13_mostOf 1 (some .int) 1 := ⟨li_8 62 (by decide +kernel) (by decide +kernel), li_8 61 (by decide +kernel) (by decide +kernel), li_1 16 (by decide +kernel) (by decide +kernel), by decide +kernel⟩
theorem M_M_number : MwV yX13_number cX13_number 4 (some .int) 2 := ⟨li_8 66 (by decide +kernel) (by decide +kernel), li_8 65 (by decide +kernel) (by decide +kernel), lw_in 76 (by decide +kernel) (by decide +kernel), li_1 16 (by decide +kernel) (by decide +kernel), by decide +kernel⟩
theorem ln_RX13_307 : Cond.methodLink RX13 307 yX13_number ∈ lw_good := li_8 63 (by decide +kernel) (by decide +kernel)
theorem ln_RX13_304 : Cond.methodLink RX13 304 yX13_mostOf ∈ lw_good := li_8 60 (by decide +kernel) (by decide +kernel)
theorem ln_RX13_301 : Cond.methodLink RX13 301 yX13_leastOf ∈ lw_good := li_8 57 (by decide +kernel) (by decide +kernel)
theorem ln_RX13_298 : Cond.methodLink RX13 298 yX13_isOnce ∈ lw_good := li_8 53 (by decide +kernel) (by decide +kernel)
noncomputable def f_M_statement_j43   (e0 : Int) (I : Mem) : Option ((Unit) × Mem) :=
bnd (f_M_faulty (if (w32 e0) = (-1) then 1 else 0) 1 I) fun x16 J15 =>
if (w32 x16) = 0 then
bnd (f_M_isOnce e0 J15) fun x19 J18 =>
if (w32 x19) = 0 then
some ((), J18)
else
bnd (f_M_leastOf e0 J18) fun x22 J21 =>
bnd (f_M_mostOf e0 J21) fun x25 J24 =>
bnd (f_M_number x22 x25 J24) fun x28 J27 =>
if 0 ≤ (w32 e0) ∧ (w32 e0) < 16860 then
ltI (sI J27 27 0 (w32 e0).toNat x28) fun J30 =>
some ((), J30)
else none
else
some ((), J15)

noncomputable def f_M_statement  (I : Mem) : Option ((Unit) × Mem) :=
bnd (f_M_isKey 3 I) fun x3 J2 =>
if (w32 x3) = 0 then
bnd (f_M_isKey 4 J2) fun x7 J6 =>
if (w32 x7) = 0 then
bnd (f_M_isKey 2 J6) fun x10 J9 =>
if (w32 x10) = 0 then
f_M_statement_j43 (-1) J9
else
f_M_statement_j43 2 J9
else
f_M_statement_j43 1 J6
else
f_M_statement_j43 0 J2
set_option maxRecDepth 20000 in
theorem R_M_statement (Z : ZT)  (I : Mem) (r : Unit) (J : Mem) (hf : f_M_statement I = some (r, J)) : Runs Z yX13_statement cX13_statement 2 (none) 6 [vr Z 26 0] I (none, J) := by
  refine Runs.of (rv := fun _ => none) (by decide +kernel) (Nat.le_of_ble_eq_true rfl) hf (fun gr => ?_)
  unfold f_M_statement
  refine WQ.loc [0] (lv' := [(0, vr Z 26 0)]) rfl ?_
  refine wq_aload_n dX13_statement_0 0 rfl rfl ?_
  refine wq_ldc_ws (q := (288, "least", 3)) (by decide) rfl dX13_statement_1 ?_
  refine wq_cVi M_M_isKey (R_M_isKey Z 3 _) ob_26 rfl rfl (by decide) (by decide) (Nat.le_of_ble_eq_true rfl) ln_RX13_290 dX13_statement_4 (fun gr1 x3 J2 => ?_)
  have hj4 : ∀ (gr36 : Nat → Nat)  (hj4e0 : Int) (J35 : Mem), WQ Z (yX13_statement, cX13_statement, 2, none, 6) I gr36 43 [(0, vr Z 26 0)] [vi hj4e0] J35 (f_M_statement_j43 hj4e0 J35) (fun b K => some (.inl ((fun _ => none) b), K)) := by
    intro gr36 hj4e0 J35
    unfold f_M_statement_j43
    refine wq_istore_n (lv' := [(1, vi hj4e0), (0, vr Z 26 0)]) dX13_statement_43 rfl (by decide) rfl ?_
    refine wq_aload_n dX13_statement_44 1 rfl rfl ?_
    refine wq_iload_n dX13_statement_45 0 rfl rfl ?_
    refine wq_iconst dX13_statement_46 ?_
    refine WQ.via 55 [vi (if (w32 hj4e0) = (-1) then 1 else 0), vr Z 26 0] (by
        refine wq_iconst dX13_statement_55 ?_
        refine wq_cVi M_M_faulty (R_M_faulty Z (if (w32 hj4e0) = (-1) then 1 else 0) 1 _) ob_26 rfl rfl (by decide) (by decide) (Nat.le_of_ble_eq_true rfl) ln_RX13_266 dX13_statement_56 (fun gr37 x39 J38 => ?_)
        refine wq_if_ne 70 dX13_statement_59 (by decide) rfl (fun c55 => ?_) (fun c55 => ?_)
        · refine wq_aload_n dX13_statement_62 1 rfl rfl ?_
          refine wq_iload_n dX13_statement_63 0 rfl rfl ?_
          refine wq_cVi M_M_isOnce (R_M_isOnce Z hj4e0 _) ob_26 rfl rfl (by decide) (by decide) (Nat.le_of_ble_eq_true rfl) ln_RX13_298 dX13_statement_64 (fun gr40 x42 J41 => ?_)
          refine wq_if_ne 71 dX13_statement_67 (by decide) rfl (fun c54 => ?_) (fun c54 => ?_)
          · exact wq_vret rfl rfl dX13_statement_70
          · refine wq_aload_n dX13_statement_71 1 rfl rfl ?_
            refine g_26_0 ln_RX13_9 dX13_statement_72 ?_
            refine wq_iload_n dX13_statement_75 0 rfl rfl ?_
            refine wq_aload_n dX13_statement_76 1 rfl rfl ?_
            refine wq_iload_n dX13_statement_77 0 rfl rfl ?_
            refine wq_cSi M_M_leastOf (R_M_leastOf Z hj4e0 _) rfl rfl rfl (by decide) (by decide) (Nat.le_of_ble_eq_true rfl) ln_RX13_301 dX13_statement_78 (fun gr43 x45 J44 => ?_)
            refine wq_iload_n dX13_statement_81 0 rfl rfl ?_
            refine wq_cSi M_M_mostOf (R_M_mostOf Z hj4e0 _) rfl rfl rfl (by decide) (by decide) (Nat.le_of_ble_eq_true rfl) ln_RX13_304 dX13_statement_82 (fun gr46 x48 J47 => ?_)
            refine wq_cVi M_M_number (R_M_number Z x45 x48 _) ob_26 rfl rfl (by decide) (by decide) (Nat.le_of_ble_eq_true rfl) ln_RX13_307 dX13_statement_85 (fun gr49 x51 J50 => ?_)
            refine wq_grd (fun g52 => ?_)
            refine wq_iast (k := 27) (i := 0) (fun _ _ => rfl) (by decide) rfl rfl (m := 16860) g52 (Nat.le_of_ble_eq_true rfl) (by decide) (by decide) (by decide) dX13_statement_88 (fun J53 => ?_)
            exact wq_vret rfl rfl dX13_statement_89
        · exact wq_vret rfl rfl dX13_statement_70) (fun hj56 => ?_)
    refine WQ.both ((w32 hj4e0) = (-1)) ?_
    refine wq_icmp_ne 54 dX13_statement_47 (by decide) rfl rfl (fun c57 => ?_) (fun c57 => ?_)
    · refine wq_iconst dX13_statement_50 ?_
      refine wq_goto 55 dX13_statement_51 (by decide) ?_
      exact WQ.top (if_pos c57) hj56
    · refine wq_iconst dX13_statement_54 ?_
      exact WQ.top (if_neg c57) hj56
  refine wq_if_eq 14 dX13_statement_7 (by decide) rfl (fun c13 => ?_) (fun c13 => ?_)
  · refine wq_aload_n dX13_statement_14 0 rfl rfl ?_
    refine wq_ldc_ws (q := (294, "tie", 4)) (by decide) rfl dX13_statement_15 ?_
    refine wq_cVi M_M_isKey (R_M_isKey Z 4 _) ob_26 rfl rfl (by decide) (by decide) (Nat.le_of_ble_eq_true rfl) ln_RX13_290 dX13_statement_18 (fun gr5 x7 J6 => ?_)
    refine wq_if_eq 28 dX13_statement_21 (by decide) rfl (fun c12 => ?_) (fun c12 => ?_)
    · refine wq_aload_n dX13_statement_28 0 rfl rfl ?_
      refine wq_ldc_ws (q := (296, "inline", 2)) (by decide) rfl dX13_statement_29 ?_
      refine wq_cVi M_M_isKey (R_M_isKey Z 2 _) ob_26 rfl rfl (by decide) (by decide) (Nat.le_of_ble_eq_true rfl) ln_RX13_290 dX13_statement_32 (fun gr8 x10 J9 => ?_)
      refine wq_if_eq 42 dX13_statement_35 (by decide) rfl (fun c11 => ?_) (fun c11 => ?_)
      · refine wq_iconst dX13_statement_42 ?_
        exact WQ.loc [0] rfl (hj4 _  _ _)
      · refine wq_iconst dX13_statement_38 ?_
        refine wq_goto 43 dX13_statement_39 (by decide) ?_
        exact WQ.loc [0] rfl (hj4 _  _ _)
    · refine wq_iconst dX13_statement_24 ?_
      refine wq_goto 43 dX13_statement_25 (by decide) ?_
      exact WQ.loc [0] rfl (hj4 _  _ _)
  · refine wq_iconst dX13_statement_10 ?_
    refine wq_goto 43 dX13_statement_11 (by decide) ?_
    exact WQ.loc [0] rfl (hj4 _  _ _)

theorem ln_RX13_310 : Cond.fieldLink RX13 310 RX13 "ruleMany" "I" ∈ lw_good := li_7 84 (by decide +kernel) (by decide +kernel)
theorem M_M_items : MwV yX13_items cX13_items 4 (none) 2 := ⟨li_8 19 (by decide +kernel) (by decide +kernel), li_8 18 (by decide +kernel) (by decide +kernel), lw_in 67 (by decide +kernel) (by decide +kernel), li_1 16 (by decide +kernel) (by decide +kernel), by decide +kernel⟩
theorem ln_RX13_313 : Cond.methodLink RX13 313 yX13_items ∈ lw_good := li_8 16 (by decide +kernel) (by decide +kernel)
noncomputable def f_M_ruleLine  (I : Mem) : Option ((Unit) × Mem) :=
bnd (f_M_faulty (if (w32 (I 26 0 30)) = 40 then 1 else 0) 5 I) fun x3 J2 =>
if (w32 x3) = 0 then
bnd (f_M_advance J2) fun _ J5 =>
bnd (f_M_items ((J5 26 0 30) + 1) (J5 26 0 30) J5) fun _ J8 =>
bnd (f_M_isSign 59 J8) fun x12 J11 =>
bnd (f_M_faulty (if (w32 x12) = 0 then 1 else 0) 1 J11) fun x15 J14 =>
if (w32 x15) = 0 then
bnd (f_M_many ((J14 26 0 30) + 1) J14) fun x18 J17 =>
bnd (f_M_faulty (if (w32 x18) = 1 then 1 else 0) 3 J17) fun x21 J20 =>
if (w32 x21) = 0 then
ltI (sI J20 26 0 30 ((J20 26 0 30) + 1)) fun J22 =>
bnd (f_M_advance J22) fun _ J24 =>
some ((), J24)
else
some ((), J20)
else
some ((), J14)
else
some ((), J2)
set_option maxRecDepth 20000 in
theorem R_M_ruleLine (Z : ZT)  (I : Mem) (r : Unit) (J : Mem) (hf : f_M_ruleLine I = some (r, J)) : Runs Z yX13_ruleLine cX13_ruleLine 1 (none) 7 [vr Z 26 0] I (none, J) := by
  refine Runs.of (rv := fun _ => none) (by decide +kernel) (Nat.le_of_ble_eq_true rfl) hf (fun gr => ?_)
  unfold f_M_ruleLine
  refine WQ.loc [0] (lv' := [(0, vr Z 26 0)]) rfl ?_
  refine wq_aload_n dX13_ruleLine_0 0 rfl rfl ?_
  refine wq_aload_n dX13_ruleLine_1 0 rfl rfl ?_
  refine g_26_30 ln_RX13_310 dX13_ruleLine_2 ?_
  refine wq_bipush dX13_ruleLine_5 (by decide) ?_
  refine WQ.via 15 [vi (if (w32 (I 26 0 30)) = 40 then 1 else 0), vr Z 26 0] (by
      refine wq_iconst dX13_ruleLine_15 ?_
      refine wq_cVi M_M_faulty (R_M_faulty Z (if (w32 (I 26 0 30)) = 40 then 1 else 0) 5 _) ob_26 rfl rfl (by decide) (by decide) (Nat.le_of_ble_eq_true rfl) ln_RX13_266 dX13_ruleLine_16 (fun gr1 x3 J2 => ?_)
      refine wq_if_eq 23 dX13_ruleLine_19 (by decide) rfl (fun c32 => ?_) (fun c32 => ?_)
      · refine wq_aload_n dX13_ruleLine_23 0 rfl rfl ?_
        refine wq_cVv M_M_advance (R_M_advance Z _) ob_26 rfl rfl (by decide) (by decide) (Nat.le_of_ble_eq_true rfl) ln_RX13_270 dX13_ruleLine_24 (fun gr4 _ J5 => ?_)
        refine wq_aload_n dX13_ruleLine_27 0 rfl rfl ?_
        refine wq_aload_n dX13_ruleLine_28 0 rfl rfl ?_
        refine g_26_30 ln_RX13_310 dX13_ruleLine_29 ?_
        refine wq_iconst dX13_ruleLine_32 ?_
        refine wq_iadd dX13_ruleLine_33 ?_
        refine wq_aload_n dX13_ruleLine_34 0 rfl rfl ?_
        refine g_26_30 ln_RX13_310 dX13_ruleLine_35 ?_
        refine wq_cVv M_M_items (R_M_items Z ((J5 26 0 30) + 1) (J5 26 0 30) _) ob_26 rfl rfl (by decide) (by decide) (Nat.le_of_ble_eq_true rfl) ln_RX13_313 dX13_ruleLine_38 (fun gr7 _ J8 => ?_)
        refine wq_aload_n dX13_ruleLine_41 0 rfl rfl ?_
        refine wq_aload_n dX13_ruleLine_42 0 rfl rfl ?_
        refine wq_bipush dX13_ruleLine_43 (by decide) ?_
        refine wq_cVi M_M_isSign (R_M_isSign Z 59 _) ob_26 rfl rfl (by decide) (by decide) (Nat.le_of_ble_eq_true rfl) ln_RX13_263 dX13_ruleLine_45 (fun gr10 x12 J11 => ?_)
        refine WQ.via 56 [vi (if (w32 x12) = 0 then 1 else 0), vr Z 26 0] (by
            refine wq_iconst dX13_ruleLine_56 ?_
            refine wq_cVi M_M_faulty (R_M_faulty Z (if (w32 x12) = 0 then 1 else 0) 1 _) ob_26 rfl rfl (by decide) (by decide) (Nat.le_of_ble_eq_true rfl) ln_RX13_266 dX13_ruleLine_57 (fun gr13 x15 J14 => ?_)
            refine wq_if_ne 90 dX13_ruleLine_60 (by decide) rfl (fun c29 => ?_) (fun c29 => ?_)
            · refine wq_aload_n dX13_ruleLine_63 0 rfl rfl ?_
              refine wq_aload_n dX13_ruleLine_64 0 rfl rfl ?_
              refine wq_aload_n dX13_ruleLine_65 0 rfl rfl ?_
              refine g_26_30 ln_RX13_310 dX13_ruleLine_66 ?_
              refine wq_iconst dX13_ruleLine_69 ?_
              refine wq_iadd dX13_ruleLine_70 ?_
              refine wq_cVi M_M_many (R_M_many Z ((J14 26 0 30) + 1) _) ob_26 rfl rfl (by decide) (by decide) (Nat.le_of_ble_eq_true rfl) ln_RX13_103 dX13_ruleLine_71 (fun gr16 x18 J17 => ?_)
              refine wq_iconst dX13_ruleLine_74 ?_
              refine WQ.via 83 [vi (if (w32 x18) = 1 then 1 else 0), vr Z 26 0] (by
                  refine wq_iconst dX13_ruleLine_83 ?_
                  refine wq_cVi M_M_faulty (R_M_faulty Z (if (w32 x18) = 1 then 1 else 0) 3 _) ob_26 rfl rfl (by decide) (by decide) (Nat.le_of_ble_eq_true rfl) ln_RX13_266 dX13_ruleLine_84 (fun gr19 x21 J20 => ?_)
                  refine wq_if_eq 91 dX13_ruleLine_87 (by decide) rfl (fun c26 => ?_) (fun c26 => ?_)
                  · refine wq_aload_n dX13_ruleLine_91 0 rfl rfl ?_
                    refine wq_dup dX13_ruleLine_92 rfl ?_
                    refine g_26_30 ln_RX13_310 dX13_ruleLine_93 ?_
                    refine wq_iconst dX13_ruleLine_96 ?_
                    refine wq_iadd dX13_ruleLine_97 ?_
                    refine p_26_30 ln_RX13_310 dX13_ruleLine_98 (fun J22 => ?_)
                    refine wq_aload_n dX13_ruleLine_101 0 rfl rfl ?_
                    refine wq_cVv M_M_advance (R_M_advance Z _) ob_26 rfl rfl (by decide) (by decide) (Nat.le_of_ble_eq_true rfl) ln_RX13_270 dX13_ruleLine_102 (fun gr23 _ J24 => ?_)
                    exact wq_vret rfl rfl dX13_ruleLine_105
                  · exact wq_vret rfl rfl dX13_ruleLine_90) (fun hj27 => ?_)
              refine WQ.both ((w32 x18) = 1) ?_
              refine wq_icmp_ne 82 dX13_ruleLine_75 (by decide) rfl rfl (fun c28 => ?_) (fun c28 => ?_)
              · refine wq_iconst dX13_ruleLine_78 ?_
                refine wq_goto 83 dX13_ruleLine_79 (by decide) ?_
                exact WQ.top (if_pos c28) hj27
              · refine wq_iconst dX13_ruleLine_82 ?_
                exact WQ.top (if_neg c28) hj27
            · exact wq_vret rfl rfl dX13_ruleLine_90) (fun hj30 => ?_)
        refine WQ.both ((w32 x12) = 0) ?_
        refine wq_if_ne 55 dX13_ruleLine_48 (by decide) rfl (fun c31 => ?_) (fun c31 => ?_)
        · refine wq_iconst dX13_ruleLine_51 ?_
          refine wq_goto 56 dX13_ruleLine_52 (by decide) ?_
          exact WQ.top (if_pos c31) hj30
        · refine wq_iconst dX13_ruleLine_55 ?_
          exact WQ.top (if_neg c31) hj30
      · exact wq_vret rfl rfl dX13_ruleLine_22) (fun hj33 => ?_)
  refine WQ.both ((w32 (I 26 0 30)) = 40) ?_
  refine wq_icmp_ne 14 dX13_ruleLine_7 (by decide) rfl rfl (fun c34 => ?_) (fun c34 => ?_)
  · refine wq_iconst dX13_ruleLine_10 ?_
    refine wq_goto 15 dX13_ruleLine_11 (by decide) ?_
    exact WQ.top (if_pos c34) hj33
  · refine wq_iconst dX13_ruleLine_14 ?_
    exact WQ.top (if_neg c34) hj33
end
section
theorem M_M_begins : MwV yX13_begins cX13_begins 2 (none) 0 := ⟨li_7 18 (by decide +kernel) (by decide +kernel), li_7 17 (by decide +kernel) (by decide +kernel), lw_in 47 (by decide +kernel) (by decide +kernel), li_1 16 (by decide +kernel) (by decide +kernel), by decide +kernel⟩
theorem M_M_ruleLine : MwV yX13_ruleLine cX13_ruleLine 1 (none) 0 := ⟨li_8 11 (by decide +kernel) (by decide +kernel), li_8 10 (by decide +kernel) (by decide +kernel), lw_in 65 (by decide +kernel) (by decide +kernel), li_1 16 (by decide +kernel) (by decide +kernel), by decide +kernel⟩
theorem ln_RX13_318 : Cond.methodLink RX13 318 yX13_ruleLine ∈ lw_good := li_8 8 (by decide +kernel) (by decide +kernel)
theorem M_M_statement : MwV yX13_statement cX13_statement 2 (none) 0 := ⟨li_8 49 (by decide +kernel) (by decide +kernel), li_8 48 (by decide +kernel) (by decide +kernel), lw_in 74 (by decide +kernel) (by decide +kernel), li_1 16 (by decide +kernel) (by decide +kernel), by decide +kernel⟩
theorem ln_RX13_323 : Cond.methodLink RX13 323 yX13_statement ∈ lw_good := li_8 46 (by decide +kernel) (by decide +kernel)
theorem ln_RX13_326 : Cond.fieldLink RX13 326 RX13 "ends" "Z" ∈ lw_good := li_7 85 (by decide +kernel) (by decide +kernel)
theorem M_M_tellsText : MwV yX13_tellsText cX13_tellsText 2 (none) 0 := ⟨li_7 34 (by decide +kernel) (by decide +kernel), li_7 33 (by decide +kernel) (by decide +kernel), lw_in 51 (by decide +kernel) (by decide +kernel), li_1 16 (by decide +kernel) (by decide +kernel), by decide +kernel⟩
theorem ln_RX13_97 : Cond.methodLink RX13 97 yX13_tellsText ∈ lw_good := li_7 31 (by decide +kernel) (by decide +kernel)
theorem ln_RX13_90 : Cond.methodLink RX13 90 yX13_begins ∈ lw_good := li_7 15 (by decide +kernel) (by decide +kernel)
noncomputable def f_M_setup_w28  (s : Unit) (I : Mem) : Option (((Unit) ⊕ (Unit)) × Mem) :=
bnd (f_M_isKey 0 I) fun x13 J12 =>
if (w32 x13) = 0 then
some (.inr (), J12)
else
bnd (f_M_ruleLine J12) fun _ J15 =>
some (.inl (), J15)

noncomputable def f_M_setup_w89  (s : Unit) (I : Mem) : Option (((Unit) ⊕ (Unit)) × Mem) :=
bnd (f_M_isSign 59 I) fun x49 J48 =>
if (w32 x49) = 0 then
some (.inr (), J48)
else
bnd (f_M_advance J48) fun _ J51 =>
bnd (f_M_statement J51) fun _ J54 =>
some (.inl (), J54)

noncomputable def f_M_setup  (I : Mem) : Option ((Unit) × Mem) :=
ltI (sI I 26 0 22 0) fun J1 =>
ltI (sI J1 26 0 25 0) fun J2 =>
ltI (sI J2 26 0 28 0) fun J3 =>
ltI (sI J3 26 0 30 0) fun J4 =>
bnd (f_M_begins J4) fun _ J6 =>
bnd (f_M_advance J6) fun _ J9 =>
bnd (whl (f_M_setup_w28) () J9) fun r32 J33 =>
if (w32 (J33 26 0 25)) = 0 then
bnd (f_M_isKey 1 J33) fun x37 J36 =>
bnd (f_M_faulty (if (w32 x37) = 0 then 1 else 0) 1 J36) fun x40 J39 =>
if (w32 x40) = 0 then
bnd (f_M_advance J39) fun _ J42 =>
bnd (f_M_items 0 (J42 26 0 30) J42) fun _ J45 =>
bnd (whl (f_M_setup_w89) () J45) fun r74 J75 =>
bnd (f_M_faulty (if (w32 (J75 26 0 23)) = 0 then 0 else 1) 1 J75) fun x79 J78 =>
if x79 = 0 ∨ x79 = 1 then
ltI (sI J78 26 0 31 x79) fun J80 =>
if (w32 (J80 26 0 25)) = 0 then
bnd (f_M_tellsText J80) fun _ J83 =>
some ((), J83)
else
some ((), J80)
else none
else
some ((), J39)
else
some ((), J33)
set_option maxRecDepth 20000 in
theorem R_M_setup (Z : ZT)  (I : Mem) (r : Unit) (J : Mem) (hf : f_M_setup I = some (r, J)) : Runs Z yX13_setup cX13_setup 1 (none) 8 [vr Z 26 0] I (none, J) := by
  refine Runs.of (rv := fun _ => none) (by decide +kernel) (Nat.le_of_ble_eq_true rfl) hf (fun gr => ?_)
  unfold f_M_setup
  refine WQ.loc [0] (lv' := [(0, vr Z 26 0)]) rfl ?_
  refine wq_aload_n dX13_setup_0 0 rfl rfl ?_
  refine wq_iconst dX13_setup_1 ?_
  refine p_26_22 ln_RX13_228 dX13_setup_2 (fun J1 => ?_)
  refine wq_aload_n dX13_setup_5 0 rfl rfl ?_
  refine wq_iconst dX13_setup_6 ?_
  refine p_26_25 ln_RX13_247 dX13_setup_7 (fun J2 => ?_)
  refine wq_aload_n dX13_setup_10 0 rfl rfl ?_
  refine wq_iconst dX13_setup_11 ?_
  refine p_26_28 ln_RX13_285 dX13_setup_12 (fun J3 => ?_)
  refine wq_aload_n dX13_setup_15 0 rfl rfl ?_
  refine wq_iconst dX13_setup_16 ?_
  refine p_26_30 ln_RX13_310 dX13_setup_17 (fun J4 => ?_)
  refine wq_aload_n dX13_setup_20 0 rfl rfl ?_
  refine wq_cVv M_M_begins (R_M_begins Z _) ob_26 rfl rfl (by decide) (by decide) (Nat.le_of_ble_eq_true rfl) ln_RX13_90 dX13_setup_21 (fun gr5 _ J6 => ?_)
  refine wq_aload_n dX13_setup_24 0 rfl rfl ?_
  refine wq_cVv M_M_advance (R_M_advance Z _) ob_26 rfl rfl (by decide) (by decide) (Nat.le_of_ble_eq_true rfl) ln_RX13_270 dX13_setup_25 (fun gr8 _ J9 => ?_)
  refine wq_loopS (fun _ => [(0, vr Z 26 0)]) 45 (fun _ => [(0, vr Z 26 0)]) (fun κ18 bk19 ex20 gr23 s24 J22 => ?_) (fun gr34 r32 J33 => ?_) gr8 _ rfl
  · unfold f_M_setup_w28
    refine wq_aload_n dX13_setup_28 0 rfl rfl ?_
    refine wq_ldc_ws (q := (316, "rule", 0)) (by decide) rfl dX13_setup_29 ?_
    refine wq_cVi M_M_isKey (R_M_isKey Z 0 _) ob_26 rfl rfl (by decide) (by decide) (Nat.le_of_ble_eq_true rfl) ln_RX13_290 dX13_setup_32 (fun gr25 x27 J26 => ?_)
    refine wq_if_eq 45 dX13_setup_35 (by decide) rfl (fun c31 => ?_) (fun c31 => ?_)
    · exact WQ.loc [0] rfl (ex20 _ _ _)
    · refine wq_aload_n dX13_setup_38 0 rfl rfl ?_
      refine wq_cVv M_M_ruleLine (R_M_ruleLine Z _) ob_26 rfl rfl (by decide) (by decide) (Nat.le_of_ble_eq_true rfl) ln_RX13_318 dX13_setup_39 (fun gr28 _ J29 => ?_)
      refine wq_goto 28 dX13_setup_42 (by decide) ?_
      exact WQ.loc [0] rfl (bk19 _ _ _)
  · refine wq_aload_n dX13_setup_45 0 rfl rfl ?_
    refine g_26_25 ln_RX13_247 dX13_setup_46 ?_
    refine wq_if_ne 75 dX13_setup_49 (by decide) rfl (fun c91 => ?_) (fun c91 => ?_)
    · refine wq_aload_n dX13_setup_52 0 rfl rfl ?_
      refine wq_aload_n dX13_setup_53 0 rfl rfl ?_
      refine wq_ldc_ws (q := (321, "start", 1)) (by decide) rfl dX13_setup_54 ?_
      refine wq_cVi M_M_isKey (R_M_isKey Z 1 _) ob_26 rfl rfl (by decide) (by decide) (Nat.le_of_ble_eq_true rfl) ln_RX13_290 dX13_setup_57 (fun gr35 x37 J36 => ?_)
      refine WQ.via 68 [vi (if (w32 x37) = 0 then 1 else 0), vr Z 26 0] (by
          refine wq_iconst dX13_setup_68 ?_
          refine wq_cVi M_M_faulty (R_M_faulty Z (if (w32 x37) = 0 then 1 else 0) 1 _) ob_26 rfl rfl (by decide) (by decide) (Nat.le_of_ble_eq_true rfl) ln_RX13_266 dX13_setup_69 (fun gr38 x40 J39 => ?_)
          refine wq_if_eq 76 dX13_setup_72 (by decide) rfl (fun c88 => ?_) (fun c88 => ?_)
          · refine wq_aload_n dX13_setup_76 0 rfl rfl ?_
            refine wq_cVv M_M_advance (R_M_advance Z _) ob_26 rfl rfl (by decide) (by decide) (Nat.le_of_ble_eq_true rfl) ln_RX13_270 dX13_setup_77 (fun gr41 _ J42 => ?_)
            refine wq_aload_n dX13_setup_80 0 rfl rfl ?_
            refine wq_iconst dX13_setup_81 ?_
            refine wq_aload_n dX13_setup_82 0 rfl rfl ?_
            refine g_26_30 ln_RX13_310 dX13_setup_83 ?_
            refine wq_cVv M_M_items (R_M_items Z 0 (J42 26 0 30) _) ob_26 rfl rfl (by decide) (by decide) (Nat.le_of_ble_eq_true rfl) ln_RX13_313 dX13_setup_86 (fun gr44 _ J45 => ?_)
            refine wq_loopS (fun _ => [(0, vr Z 26 0)]) 109 (fun _ => [(0, vr Z 26 0)]) (fun κ57 bk58 ex59 gr62 s63 J61 => ?_) (fun gr76 r74 J75 => ?_) gr44 _ rfl
            · unfold f_M_setup_w89
              refine wq_aload_n dX13_setup_89 0 rfl rfl ?_
              refine wq_bipush dX13_setup_90 (by decide) ?_
              refine wq_cVi M_M_isSign (R_M_isSign Z 59 _) ob_26 rfl rfl (by decide) (by decide) (Nat.le_of_ble_eq_true rfl) ln_RX13_263 dX13_setup_92 (fun gr64 x66 J65 => ?_)
              refine wq_if_eq 109 dX13_setup_95 (by decide) rfl (fun c73 => ?_) (fun c73 => ?_)
              · exact WQ.loc [0] rfl (ex59 _ _ _)
              · refine wq_aload_n dX13_setup_98 0 rfl rfl ?_
                refine wq_cVv M_M_advance (R_M_advance Z _) ob_26 rfl rfl (by decide) (by decide) (Nat.le_of_ble_eq_true rfl) ln_RX13_270 dX13_setup_99 (fun gr67 _ J68 => ?_)
                refine wq_aload_n dX13_setup_102 0 rfl rfl ?_
                refine wq_cVv M_M_statement (R_M_statement Z _) ob_26 rfl rfl (by decide) (by decide) (Nat.le_of_ble_eq_true rfl) ln_RX13_323 dX13_setup_103 (fun gr70 _ J71 => ?_)
                refine wq_goto 89 dX13_setup_106 (by decide) ?_
                exact WQ.loc [0] rfl (bk58 _ _ _)
            · refine wq_aload_n dX13_setup_109 0 rfl rfl ?_
              refine wq_aload_n dX13_setup_110 0 rfl rfl ?_
              refine wq_aload_n dX13_setup_111 0 rfl rfl ?_
              refine g_26_23 ln_RX13_237 dX13_setup_112 ?_
              refine WQ.via 123 [vi (if (w32 (J75 26 0 23)) = 0 then 0 else 1), vr Z 26 0, vr Z 26 0] (by
                  refine wq_iconst dX13_setup_123 ?_
                  refine wq_cVi M_M_faulty (R_M_faulty Z (if (w32 (J75 26 0 23)) = 0 then 0 else 1) 1 _) ob_26 rfl rfl (by decide) (by decide) (Nat.le_of_ble_eq_true rfl) ln_RX13_266 dX13_setup_124 (fun gr77 x79 J78 => ?_)
                  refine wq_grd (fun g81 => ?_)
                  refine p_26_31 g81 ln_RX13_326 dX13_setup_127 (fun J80 => ?_)
                  refine wq_aload_n dX13_setup_130 0 rfl rfl ?_
                  refine g_26_25 ln_RX13_247 dX13_setup_131 ?_
                  refine wq_if_ne 141 dX13_setup_134 (by decide) rfl (fun c85 => ?_) (fun c85 => ?_)
                  · refine wq_aload_n dX13_setup_137 0 rfl rfl ?_
                    refine wq_cVv M_M_tellsText (R_M_tellsText Z _) ob_26 rfl rfl (by decide) (by decide) (Nat.le_of_ble_eq_true rfl) ln_RX13_97 dX13_setup_138 (fun gr82 _ J83 => ?_)
                    exact wq_vret rfl rfl dX13_setup_141
                  · exact wq_vret rfl rfl dX13_setup_141) (fun hj86 => ?_)
              refine WQ.both ((w32 (J75 26 0 23)) = 0) ?_
              refine wq_if_eq 122 dX13_setup_115 (by decide) rfl (fun c87 => ?_) (fun c87 => ?_)
              · refine wq_iconst dX13_setup_122 ?_
                exact WQ.top (if_pos c87) hj86
              · refine wq_iconst dX13_setup_118 ?_
                refine wq_goto 123 dX13_setup_119 (by decide) ?_
                exact WQ.top (if_neg c87) hj86
          · exact wq_vret rfl rfl dX13_setup_75) (fun hj89 => ?_)
      refine WQ.both ((w32 x37) = 0) ?_
      refine wq_if_ne 67 dX13_setup_60 (by decide) rfl (fun c90 => ?_) (fun c90 => ?_)
      · refine wq_iconst dX13_setup_63 ?_
        refine wq_goto 68 dX13_setup_64 (by decide) ?_
        exact WQ.top (if_pos c90) hj89
      · refine wq_iconst dX13_setup_67 ?_
        exact WQ.top (if_neg c90) hj89
    · exact wq_vret rfl rfl dX13_setup_75

theorem ln_RX13_61 : Cond.fieldLink RX13 61 RX13 "lastError" "I" ∈ lw_good := li_7 81 (by decide +kernel) (by decide +kernel)
noncomputable def f_M_ended_j21   (e0 : Int) (I : Mem) : Option ((Int) × Mem) :=
ltI (sI I 26 0 27 e0) fun J4 =>
if (w32 (J4 26 0 25)) = 0 then
some (0, J4)
else
some (((-10) - (J4 26 0 25)), J4)

noncomputable def f_M_ended  (I : Mem) : Option ((Int) × Mem) :=
ltI (sI I 26 0 20 0) fun J1 =>
if (w32 (J1 26 0 25)) = 0 then
f_M_ended_j21 (-1) J1
else
f_M_ended_j21 (J1 26 0 26) J1
set_option maxRecDepth 20000 in
theorem R_M_ended (Z : ZT)  (I : Mem) (r : Int) (J : Mem) (hf : f_M_ended I = some (r, J)) : Runs Z yX13_ended cX13_ended 1 (some .int) 1 [vr Z 26 0] I (some (vi r), J) := by
  refine Runs.of (rv := fun x => some (vi x)) (by decide +kernel) (Nat.le_of_ble_eq_true rfl) hf (fun gr => ?_)
  unfold f_M_ended
  refine WQ.loc [0] (lv' := [(0, vr Z 26 0)]) rfl ?_
  refine wq_aload_n dX13_ended_0 0 rfl rfl ?_
  refine wq_iconst dX13_ended_1 ?_
  refine p_26_20 ln_RX13_212 dX13_ended_2 (fun J1 => ?_)
  refine wq_aload_n dX13_ended_5 0 rfl rfl ?_
  refine wq_aload_n dX13_ended_6 0 rfl rfl ?_
  refine g_26_25 ln_RX13_247 dX13_ended_7 ?_
  have hj2 : ∀ (gr7 : Nat → Nat)  (hj2e0 : Int) (J6 : Mem), WQ Z (yX13_ended, cX13_ended, 1, some .int, 1) I gr7 21 [(0, vr Z 26 0)] [vi hj2e0, vr Z 26 0] J6 (f_M_ended_j21 hj2e0 J6) (fun b K => some (.inl ((fun x => some (vi x)) b), K)) := by
    intro gr7 hj2e0 J6
    unfold f_M_ended_j21
    refine p_26_27 ln_RX13_61 dX13_ended_21 (fun J8 => ?_)
    refine wq_aload_n dX13_ended_24 0 rfl rfl ?_
    refine g_26_25 ln_RX13_247 dX13_ended_25 ?_
    refine wq_if_ne 35 dX13_ended_28 (by decide) rfl (fun c9 => ?_) (fun c9 => ?_)
    · refine wq_iconst dX13_ended_31 ?_
      refine wq_goto 42 dX13_ended_32 (by decide) ?_
      exact wq_iret rfl rfl dX13_ended_42
    · refine wq_bipush dX13_ended_35 (by decide) ?_
      refine wq_aload_n dX13_ended_37 0 rfl rfl ?_
      refine g_26_25 ln_RX13_247 dX13_ended_38 ?_
      refine wq_isub dX13_ended_41 ?_
      exact wq_iret rfl rfl dX13_ended_42
  refine wq_if_ne 17 dX13_ended_10 (by decide) rfl (fun c3 => ?_) (fun c3 => ?_)
  · refine wq_iconst dX13_ended_13 ?_
    refine wq_goto 21 dX13_ended_14 (by decide) ?_
    exact WQ.loc [0] rfl (hj2 _  _ _)
  · refine wq_aload_n dX13_ended_17 0 rfl rfl ?_
    refine g_26_26 ln_RX13_250 dX13_ended_18 ?_
    exact WQ.loc [0] rfl (hj2 _  _ _)

theorem M_M_aside : MwV yX13_aside cX13_aside 1 (none) 0 := ⟨li_7 209 (by decide +kernel) (by decide +kernel), li_7 208 (by decide +kernel) (by decide +kernel), lw_in 57 (by decide +kernel) (by decide +kernel), li_1 16 (by decide +kernel) (by decide +kernel), by decide +kernel⟩
theorem M_M_setup : MwV yX13_setup cX13_setup 1 (none) 0 := ⟨li_7 216 (by decide +kernel) (by decide +kernel), li_7 215 (by decide +kernel) (by decide +kernel), lw_in 58 (by decide +kernel) (by decide +kernel), li_1 16 (by decide +kernel) (by decide +kernel), by decide +kernel⟩
theorem M_M_ended : MwV yX13_ended cX13_ended 1 (some .int) 0 := ⟨li_8 70 (by decide +kernel) (by decide +kernel), li_8 69 (by decide +kernel) (by decide +kernel), lw_in 77 (by decide +kernel) (by decide +kernel), li_1 16 (by decide +kernel) (by decide +kernel), by decide +kernel⟩
theorem ln_RX13_342 : Cond.fieldLink RX13 342 RX13 "undos" "I" ∈ lw_good := li_7 60 (by decide +kernel) (by decide +kernel)
theorem ln_RX13_27 : Cond.fieldLink RX13 27 RX13 "isKept" "[Z" ∈ lw_good := li_7 59 (by decide +kernel) (by decide +kernel)
theorem M_M_back : MwV yX13_back cX13_back 2 (some .int) 1 := ⟨li_8 74 (by decide +kernel) (by decide +kernel), li_8 73 (by decide +kernel) (by decide +kernel), lw_in 78 (by decide +kernel) (by decide +kernel), li_1 16 (by decide +kernel) (by decide +kernel), by decide +kernel⟩
theorem ln_RX13_339 : Cond.methodLink RX13 339 yX13_back ∈ lw_good := li_8 71 (by decide +kernel) (by decide +kernel)
theorem ln_RX13_336 : Cond.methodLink RX13 336 yX13_ended ∈ lw_good := li_8 67 (by decide +kernel) (by decide +kernel)
theorem ln_RX13_333 : Cond.methodLink RX13 333 yX13_setup ∈ lw_good := li_7 213 (by decide +kernel) (by decide +kernel)
theorem ln_RX13_330 : Cond.methodLink RX13 330 yX13_aside ∈ lw_good := li_7 206 (by decide +kernel) (by decide +kernel)
noncomputable def f_M_load  (I : Mem) : Option ((Int) × Mem) :=
ltI (sI I 26 0 7 0) fun J1 =>
bnd (f_M_aside J1) fun _ J3 =>
bnd (f_M_setup J3) fun _ J6 =>
bnd (f_M_ended J6) fun x10 J9 =>
if (w32 x10) < 0 then
bnd (f_M_back x10 J9) fun x19 J18 =>
some (x19, J18)
else
ltI (sI J9 26 0 6 0) fun J11 =>
ltI (sI J11 28 0 0 0) fun J13 =>
ltI (sI J13 28 0 1 0) fun J15 =>
some ((J15 27 0 3), J15)
set_option maxRecDepth 20000 in
theorem R_M_load (Z : ZT)  (I : Mem) (r : Int) (J : Mem) (hf : f_M_load I = some (r, J)) : Runs Z yX13_load cX13_load 2 (some .int) 9 [vr Z 26 0] I (some (vi r), J) := by
  refine Runs.of (rv := fun x => some (vi x)) (by decide +kernel) (Nat.le_of_ble_eq_true rfl) hf (fun gr => ?_)
  unfold f_M_load
  refine WQ.loc [0] (lv' := [(0, vr Z 26 0)]) rfl ?_
  refine wq_aload_n dX13_load_0 0 rfl rfl ?_
  refine wq_iconst dX13_load_1 ?_
  refine p_26_7 ln_RX13_100 dX13_load_2 (fun J1 => ?_)
  refine wq_aload_n dX13_load_5 0 rfl rfl ?_
  refine wq_cVv M_M_aside (R_M_aside Z _) ob_26 rfl rfl (by decide) (by decide) (Nat.le_of_ble_eq_true rfl) ln_RX13_330 dX13_load_6 (fun gr2 _ J3 => ?_)
  refine wq_aload_n dX13_load_9 0 rfl rfl ?_
  refine wq_cVv M_M_setup (R_M_setup Z _) ob_26 rfl rfl (by decide) (by decide) (Nat.le_of_ble_eq_true rfl) ln_RX13_333 dX13_load_10 (fun gr5 _ J6 => ?_)
  refine wq_aload_n dX13_load_13 0 rfl rfl ?_
  refine wq_cVi M_M_ended (R_M_ended Z _) ob_26 rfl rfl (by decide) (by decide) (Nat.le_of_ble_eq_true rfl) ln_RX13_336 dX13_load_14 (fun gr8 x10 J9 => ?_)
  refine wq_istore_n (lv' := [(1, vi x10), (0, vr Z 26 0)]) dX13_load_17 rfl (by decide) rfl ?_
  refine wq_iload_n dX13_load_18 0 rfl rfl ?_
  refine wq_if_ge 28 dX13_load_19 (by decide) rfl (fun c20 => ?_) (fun c20 => ?_)
  · refine wq_aload_n dX13_load_22 1 rfl rfl ?_
    refine wq_iload_n dX13_load_23 0 rfl rfl ?_
    refine wq_cVi M_M_back (R_M_back Z x10 _) ob_26 rfl rfl (by decide) (by decide) (Nat.le_of_ble_eq_true rfl) ln_RX13_339 dX13_load_24 (fun gr17 x19 J18 => ?_)
    exact wq_iret rfl rfl dX13_load_27
  · refine wq_aload_n dX13_load_28 1 rfl rfl ?_
    refine wq_iconst dX13_load_29 ?_
    refine p_26_6 ln_RX13_342 dX13_load_30 (fun J11 => ?_)
    refine wq_aload_n dX13_load_33 1 rfl rfl ?_
    refine g_26_5 ln_RX13_27 dX13_load_34 ?_
    refine wq_iconst dX13_load_37 ?_
    refine wq_iconst dX13_load_38 ?_
    refine wq_zast (k := 28) (i := 0) (fun _ => rfl) (by decide) rfl rfl (m := 2) (by decide) (Nat.le_refl _) rfl (by decide) (by decide) (by decide) dX13_load_39 (fun J13 => ?_)
    refine wq_aload_n dX13_load_40 1 rfl rfl ?_
    refine g_26_5 ln_RX13_27 dX13_load_41 ?_
    refine wq_iconst dX13_load_44 ?_
    refine wq_iconst dX13_load_45 ?_
    refine wq_zast (k := 28) (i := 0) (fun _ => rfl) (by decide) rfl rfl (m := 2) (by decide) (Nat.le_refl _) rfl (by decide) (by decide) (by decide) dX13_load_46 (fun J15 => ?_)
    refine wq_aload_n dX13_load_47 1 rfl rfl ?_
    refine g_26_0 ln_RX13_9 dX13_load_48 ?_
    refine wq_iconst dX13_load_51 ?_
    refine wq_iald (k := 27) (i := 0) rfl (by decide) rfl rfl (m := 16860) (by decide) (Nat.le_of_ble_eq_true rfl) dX13_load_52 ?_
    exact wq_iret rfl rfl dX13_load_53

noncomputable def f_M_errorPosition  (I : Mem) : Option ((Int) × Mem) :=
ltI (sI I 26 0 7 0) fun J1 =>
some ((J1 26 0 27), J1)
set_option maxRecDepth 20000 in
theorem R_M_errorPosition (Z : ZT)  (I : Mem) (r : Int) (J : Mem) (hf : f_M_errorPosition I = some (r, J)) : Runs Z yX13_errorPosition cX13_errorPosition 1 (some .int) 1 [vr Z 26 0] I (some (vi r), J) := by
  refine Runs.of (rv := fun x => some (vi x)) (by decide +kernel) (Nat.le_of_ble_eq_true rfl) hf (fun gr => ?_)
  unfold f_M_errorPosition
  refine WQ.loc [0] (lv' := [(0, vr Z 26 0)]) rfl ?_
  refine wq_aload_n dX13_errorPosition_0 0 rfl rfl ?_
  refine wq_iconst dX13_errorPosition_1 ?_
  refine p_26_7 ln_RX13_100 dX13_errorPosition_2 (fun J1 => ?_)
  refine wq_aload_n dX13_errorPosition_5 0 rfl rfl ?_
  refine g_26_27 ln_RX13_61 dX13_errorPosition_6 ?_
  exact wq_iret rfl rfl dX13_errorPosition_9

noncomputable def f_M_orderHere  (I : Mem) : Option ((Int) × Mem) :=
bnd (f_M_isKey 6 I) fun x3 J2 =>
if (w32 x3) = 0 then
bnd (f_M_isKey 7 J2) fun x6 J5 =>
if (w32 x6) = 0 then
bnd (f_M_isKey 8 J5) fun x9 J8 =>
if (w32 x9) = 0 then
bnd (f_M_isKey 9 J8) fun x12 J11 =>
if (w32 x12) = 0 then
bnd (f_M_isKey 10 J11) fun x15 J14 =>
if (w32 x15) = 0 then
bnd (f_M_isKey 11 J14) fun x18 J17 =>
if (w32 x18) = 0 then
bnd (f_M_isKey 3 J17) fun x21 J20 =>
if (w32 x21) = 0 then
bnd (f_M_isKey 4 J20) fun x24 J23 =>
if (w32 x24) = 0 then
bnd (f_M_isKey 5 J23) fun x27 J26 =>
if (w32 x27) = 0 then
bnd (f_M_isKey 12 J26) fun x30 J29 =>
if (w32 x30) = 0 then
some ((-1), J29)
else
some (16, J29)
else
some (2, J26)
else
some (1, J23)
else
some (0, J20)
else
some (15, J17)
else
some (14, J14)
else
some (13, J11)
else
some (12, J8)
else
some (11, J5)
else
some (10, J2)
set_option maxRecDepth 20000 in
theorem R_M_orderHere (Z : ZT)  (I : Mem) (r : Int) (J : Mem) (hf : f_M_orderHere I = some (r, J)) : Runs Z yX13_orderHere cX13_orderHere 1 (some .int) 6 [vr Z 26 0] I (some (vi r), J) := by
  refine Runs.of (rv := fun x => some (vi x)) (by decide +kernel) (Nat.le_of_ble_eq_true rfl) hf (fun gr => ?_)
  unfold f_M_orderHere
  refine WQ.loc [0] (lv' := [(0, vr Z 26 0)]) rfl ?_
  refine wq_aload_n dX13_orderHere_0 0 rfl rfl ?_
  refine wq_ldc_ws (q := (345, "step", 6)) (by decide) rfl dX13_orderHere_1 ?_
  refine wq_cVi M_M_isKey (R_M_isKey Z 6 _) ob_26 rfl rfl (by decide) (by decide) (Nat.le_of_ble_eq_true rfl) ln_RX13_290 dX13_orderHere_4 (fun gr1 x3 J2 => ?_)
  refine wq_if_eq 13 dX13_orderHere_7 (by decide) rfl (fun c40 => ?_) (fun c40 => ?_)
  · refine wq_aload_n dX13_orderHere_13 0 rfl rfl ?_
    refine wq_ldc_ws (q := (347, "inlined", 7)) (by decide) rfl dX13_orderHere_14 ?_
    refine wq_cVi M_M_isKey (R_M_isKey Z 7 _) ob_26 rfl rfl (by decide) (by decide) (Nat.le_of_ble_eq_true rfl) ln_RX13_290 dX13_orderHere_17 (fun gr4 x6 J5 => ?_)
    refine wq_if_eq 26 dX13_orderHere_20 (by decide) rfl (fun c39 => ?_) (fun c39 => ?_)
    · refine wq_aload_n dX13_orderHere_26 0 rfl rfl ?_
      refine wq_ldc_ws (q := (349, "make", 8)) (by decide) rfl dX13_orderHere_27 ?_
      refine wq_cVi M_M_isKey (R_M_isKey Z 8 _) ob_26 rfl rfl (by decide) (by decide) (Nat.le_of_ble_eq_true rfl) ln_RX13_290 dX13_orderHere_30 (fun gr7 x9 J8 => ?_)
      refine wq_if_eq 39 dX13_orderHere_33 (by decide) rfl (fun c38 => ?_) (fun c38 => ?_)
      · refine wq_aload_n dX13_orderHere_39 0 rfl rfl ?_
        refine wq_ldc_ws (q := (351, "expand", 9)) (by decide) rfl dX13_orderHere_40 ?_
        refine wq_cVi M_M_isKey (R_M_isKey Z 9 _) ob_26 rfl rfl (by decide) (by decide) (Nat.le_of_ble_eq_true rfl) ln_RX13_290 dX13_orderHere_43 (fun gr10 x12 J11 => ?_)
        refine wq_if_eq 52 dX13_orderHere_46 (by decide) rfl (fun c37 => ?_) (fun c37 => ?_)
        · refine wq_aload_n dX13_orderHere_52 0 rfl rfl ?_
          refine wq_ldc_ws (q := (353, "append", 10)) (by decide) rfl dX13_orderHere_53 ?_
          refine wq_cVi M_M_isKey (R_M_isKey Z 10 _) ob_26 rfl rfl (by decide) (by decide) (Nat.le_of_ble_eq_true rfl) ln_RX13_290 dX13_orderHere_56 (fun gr13 x15 J14 => ?_)
          refine wq_if_eq 65 dX13_orderHere_59 (by decide) rfl (fun c36 => ?_) (fun c36 => ?_)
          · refine wq_aload_n dX13_orderHere_65 0 rfl rfl ?_
            refine wq_ldc_ws (q := (355, "cut", 11)) (by decide) rfl dX13_orderHere_66 ?_
            refine wq_cVi M_M_isKey (R_M_isKey Z 11 _) ob_26 rfl rfl (by decide) (by decide) (Nat.le_of_ble_eq_true rfl) ln_RX13_290 dX13_orderHere_69 (fun gr16 x18 J17 => ?_)
            refine wq_if_eq 78 dX13_orderHere_72 (by decide) rfl (fun c35 => ?_) (fun c35 => ?_)
            · refine wq_aload_n dX13_orderHere_78 0 rfl rfl ?_
              refine wq_ldc_ws (q := (288, "least", 3)) (by decide) rfl dX13_orderHere_79 ?_
              refine wq_cVi M_M_isKey (R_M_isKey Z 3 _) ob_26 rfl rfl (by decide) (by decide) (Nat.le_of_ble_eq_true rfl) ln_RX13_290 dX13_orderHere_82 (fun gr19 x21 J20 => ?_)
              refine wq_if_eq 90 dX13_orderHere_85 (by decide) rfl (fun c34 => ?_) (fun c34 => ?_)
              · refine wq_aload_n dX13_orderHere_90 0 rfl rfl ?_
                refine wq_ldc_ws (q := (294, "tie", 4)) (by decide) rfl dX13_orderHere_91 ?_
                refine wq_cVi M_M_isKey (R_M_isKey Z 4 _) ob_26 rfl rfl (by decide) (by decide) (Nat.le_of_ble_eq_true rfl) ln_RX13_290 dX13_orderHere_94 (fun gr22 x24 J23 => ?_)
                refine wq_if_eq 102 dX13_orderHere_97 (by decide) rfl (fun c33 => ?_) (fun c33 => ?_)
                · refine wq_aload_n dX13_orderHere_102 0 rfl rfl ?_
                  refine wq_ldc_ws (q := (357, "mode", 5)) (by decide) rfl dX13_orderHere_103 ?_
                  refine wq_cVi M_M_isKey (R_M_isKey Z 5 _) ob_26 rfl rfl (by decide) (by decide) (Nat.le_of_ble_eq_true rfl) ln_RX13_290 dX13_orderHere_106 (fun gr25 x27 J26 => ?_)
                  refine wq_if_eq 114 dX13_orderHere_109 (by decide) rfl (fun c32 => ?_) (fun c32 => ?_)
                  · refine wq_aload_n dX13_orderHere_114 0 rfl rfl ?_
                    refine wq_ldc_ws (q := (359, "again", 12)) (by decide) rfl dX13_orderHere_115 ?_
                    refine wq_cVi M_M_isKey (R_M_isKey Z 12 _) ob_26 rfl rfl (by decide) (by decide) (Nat.le_of_ble_eq_true rfl) ln_RX13_290 dX13_orderHere_118 (fun gr28 x30 J29 => ?_)
                    refine wq_if_eq 129 dX13_orderHere_121 (by decide) rfl (fun c31 => ?_) (fun c31 => ?_)
                    · refine wq_iconst dX13_orderHere_129 ?_
                      exact wq_iret rfl rfl dX13_orderHere_130
                    · refine wq_bipush dX13_orderHere_124 (by decide) ?_
                      refine wq_goto 130 dX13_orderHere_126 (by decide) ?_
                      exact wq_iret rfl rfl dX13_orderHere_130
                  · refine wq_iconst dX13_orderHere_112 ?_
                    exact wq_iret rfl rfl dX13_orderHere_113
                · refine wq_iconst dX13_orderHere_100 ?_
                  exact wq_iret rfl rfl dX13_orderHere_101
              · refine wq_iconst dX13_orderHere_88 ?_
                exact wq_iret rfl rfl dX13_orderHere_89
            · refine wq_bipush dX13_orderHere_75 (by decide) ?_
              exact wq_iret rfl rfl dX13_orderHere_77
          · refine wq_bipush dX13_orderHere_62 (by decide) ?_
            exact wq_iret rfl rfl dX13_orderHere_64
        · refine wq_bipush dX13_orderHere_49 (by decide) ?_
          exact wq_iret rfl rfl dX13_orderHere_51
      · refine wq_bipush dX13_orderHere_36 (by decide) ?_
        exact wq_iret rfl rfl dX13_orderHere_38
    · refine wq_bipush dX13_orderHere_23 (by decide) ?_
      exact wq_iret rfl rfl dX13_orderHere_25
  · refine wq_bipush dX13_orderHere_10 (by decide) ?_
    exact wq_iret rfl rfl dX13_orderHere_12

theorem ln_RX13_71 : Cond.fieldLink RX13 71 RX13 "second" "[I" ∈ lw_good := li_7 88 (by decide +kernel) (by decide +kernel)
theorem ln_RX13_361 : Cond.fieldLink RX13 361 RX13 "lines" "I" ∈ lw_good := li_7 92 (by decide +kernel) (by decide +kernel)
noncomputable def f_M_wordHere_j39   (e0 : Int) (I : Mem) : Option ((Int) × Mem) :=
bnd (f_M_faulty e0 4 I) fun x11 J10 =>
if (w32 x11) = 0 then
if 0 ≤ (w32 (J10 26 0 38)) ∧ (w32 (J10 26 0 38)) < 64 then
ltI (sI J10 27 17 (w32 (J10 26 0 38)).toNat ((J10 26 0 22) - (J10 26 0 21))) fun J14 =>
bnd (f_M_advance J14) fun _ J16 =>
some ((J10 26 0 21), J16)
else none
else
some (0, J10)

noncomputable def f_M_wordHere_j38    (I : Mem) : Option ((Int) × Mem) :=
f_M_wordHere_j39 0 I

noncomputable def f_M_wordHere (a1 : Int) (I : Mem) : Option ((Int) × Mem) :=
bnd (f_M_faulty (if (w32 (I 26 0 23)) = 1 then 0 else 1) 1 I) fun x3 J2 =>
if (w32 x3) = 0 then
if (w32 a1) = 0 then
f_M_wordHere_j38 J2
else
if (w32 ((J2 26 0 22) - (J2 26 0 21))) = 2 then
f_M_wordHere_j38 J2
else
f_M_wordHere_j39 1 J2
else
some (0, J2)
set_option maxRecDepth 20000 in
theorem R_M_wordHere (Z : ZT) (a1 : Int) (I : Mem) (r : Int) (J : Mem) (hf : f_M_wordHere a1 I = some (r, J)) : Runs Z yX13_wordHere cX13_wordHere 3 (some .int) 4 [vr Z 26 0, vi a1] I (some (vi r), J) := by
  refine Runs.of (rv := fun x => some (vi x)) (by decide +kernel) (Nat.le_of_ble_eq_true rfl) hf (fun gr => ?_)
  unfold f_M_wordHere
  refine WQ.loc [0, 1] (lv' := [(0, vr Z 26 0), (1, vi a1)]) rfl ?_
  refine wq_aload_n dX13_wordHere_0 0 rfl rfl ?_
  refine wq_aload_n dX13_wordHere_1 0 rfl rfl ?_
  refine g_26_23 ln_RX13_237 dX13_wordHere_2 ?_
  refine wq_iconst dX13_wordHere_5 ?_
  refine WQ.via 14 [vi (if (w32 (I 26 0 23)) = 1 then 0 else 1), vr Z 26 0] (by
      refine wq_iconst dX13_wordHere_14 ?_
      refine wq_cVi M_M_faulty (R_M_faulty Z (if (w32 (I 26 0 23)) = 1 then 0 else 1) 1 _) ob_26 rfl rfl (by decide) (by decide) (Nat.le_of_ble_eq_true rfl) ln_RX13_266 dX13_wordHere_15 (fun gr1 x3 J2 => ?_)
      refine wq_if_ne 46 dX13_wordHere_18 (by decide) rfl (fun c33 => ?_) (fun c33 => ?_)
      · refine wq_aload_n dX13_wordHere_21 0 rfl rfl ?_
        refine wq_iload_n dX13_wordHere_22 1 rfl rfl ?_
        have hj4 : ∀ (gr20 : Nat → Nat)  (hj4e0 : Int) (J19 : Mem), WQ Z (yX13_wordHere, cX13_wordHere, 3, some .int, 4) I gr20 39 [(0, vr Z 26 0)] [vi hj4e0, vr Z 26 0] J19 (f_M_wordHere_j39 hj4e0 J19) (fun b K => some (.inl ((fun x => some (vi x)) b), K)) := by
          intro gr20 hj4e0 J19
          unfold f_M_wordHere_j39
          refine wq_iconst dX13_wordHere_39 ?_
          refine wq_cVi M_M_faulty (R_M_faulty Z hj4e0 4 _) ob_26 rfl rfl (by decide) (by decide) (Nat.le_of_ble_eq_true rfl) ln_RX13_266 dX13_wordHere_40 (fun gr21 x23 J22 => ?_)
          refine wq_if_eq 48 dX13_wordHere_43 (by decide) rfl (fun c30 => ?_) (fun c30 => ?_)
          · refine wq_aload_n dX13_wordHere_48 0 rfl rfl ?_
            refine g_26_21 ln_RX13_231 dX13_wordHere_49 ?_
            refine wq_istore_n (lv' := [(2, vi (J22 26 0 21)), (0, vr Z 26 0)]) dX13_wordHere_52 rfl (by decide) rfl ?_
            refine wq_aload_n dX13_wordHere_53 1 rfl rfl ?_
            refine g_26_34 ln_RX13_71 dX13_wordHere_54 ?_
            refine wq_aload_n dX13_wordHere_57 1 rfl rfl ?_
            refine g_26_38 ln_RX13_361 dX13_wordHere_58 ?_
            refine wq_aload_n dX13_wordHere_61 1 rfl rfl ?_
            refine wq_pV (v := vi ((J22 26 0 22) - (J22 26 0 21))) M_M_length (R_M_length Z  _ _ _ rfl) ob_26 rfl rfl (by decide) (by decide) (Nat.le_of_ble_eq_true rfl) ln_RX13_253 dX13_wordHere_62 (fun gr24 => ?_)
            refine wq_grd (fun g25 => ?_)
            refine wq_iast (k := 27) (i := 17) (fun _ _ => rfl) (by decide) rfl rfl (m := 64) g25 (Nat.le_of_ble_eq_true rfl) (by decide) (by decide) (by decide) dX13_wordHere_65 (fun J26 => ?_)
            refine wq_aload_n dX13_wordHere_66 1 rfl rfl ?_
            refine wq_cVv M_M_advance (R_M_advance Z _) ob_26 rfl rfl (by decide) (by decide) (Nat.le_of_ble_eq_true rfl) ln_RX13_270 dX13_wordHere_67 (fun gr27 _ J28 => ?_)
            refine wq_iload_n dX13_wordHere_70 0 rfl rfl ?_
            exact wq_iret rfl rfl dX13_wordHere_71
          · refine wq_iconst dX13_wordHere_46 ?_
            exact wq_iret rfl rfl dX13_wordHere_47
        have hj5 : ∀ (gr32 : Nat → Nat)   (J31 : Mem), WQ Z (yX13_wordHere, cX13_wordHere, 3, some .int, 4) I gr32 38 [(0, vr Z 26 0)] [vr Z 26 0] J31 (f_M_wordHere_j38 J31) (fun b K => some (.inl ((fun x => some (vi x)) b), K)) := by
          intro gr32 J31
          unfold f_M_wordHere_j38
          refine wq_iconst dX13_wordHere_38 ?_
          exact WQ.loc [0] rfl (hj4 _  _ _)
        refine wq_if_eq 38 dX13_wordHere_23 (by decide) rfl (fun c8 => ?_) (fun c8 => ?_)
        · exact WQ.loc [0] rfl (hj5 _   _)
        · refine wq_aload_n dX13_wordHere_26 0 rfl rfl ?_
          refine wq_pV (v := vi ((J2 26 0 22) - (J2 26 0 21))) M_M_length (R_M_length Z  _ _ _ rfl) ob_26 rfl rfl (by decide) (by decide) (Nat.le_of_ble_eq_true rfl) ln_RX13_253 dX13_wordHere_27 (fun gr6 => ?_)
          refine wq_iconst dX13_wordHere_30 ?_
          refine wq_icmp_eq 38 dX13_wordHere_31 (by decide) rfl rfl (fun c7 => ?_) (fun c7 => ?_)
          · exact WQ.loc [0] rfl (hj5 _   _)
          · refine wq_iconst dX13_wordHere_34 ?_
            refine wq_goto 39 dX13_wordHere_35 (by decide) ?_
            exact WQ.loc [0] rfl (hj4 _  _ _)
      · refine wq_iconst dX13_wordHere_46 ?_
        exact wq_iret rfl rfl dX13_wordHere_47) (fun hj34 => ?_)
  refine WQ.both ((w32 (I 26 0 23)) = 1) ?_
  refine wq_icmp_eq 13 dX13_wordHere_6 (by decide) rfl rfl (fun c35 => ?_) (fun c35 => ?_)
  · refine wq_iconst dX13_wordHere_13 ?_
    exact WQ.top (if_pos c35) hj34
  · refine wq_iconst dX13_wordHere_9 ?_
    refine wq_goto 14 dX13_wordHere_10 (by decide) ?_
    exact WQ.top (if_neg c35) hj34

theorem M_M_wordHere : MwV yX13_wordHere cX13_wordHere 3 (some .int) 1 := ⟨li_8 110 (by decide +kernel) (by decide +kernel), li_8 109 (by decide +kernel) (by decide +kernel), lw_in 83 (by decide +kernel) (by decide +kernel), li_1 16 (by decide +kernel) (by decide +kernel), by decide +kernel⟩
theorem ln_RX13_364 : Cond.methodLink RX13 364 yX13_wordHere ∈ lw_good := li_8 107 (by decide +kernel) (by decide +kernel)
noncomputable def f_M_firstHere (a1 : Int) (I : Mem) : Option ((Int) × Mem) :=
if (w32 a1) = 10 then
bnd (f_M_number 1 50 I) fun x3 J2 =>
some (x3, J2)
else if (w32 a1) = 11 then
some (0, I)
else if (w32 a1) = 12 then
bnd (f_M_wordHere 1 I) fun x8 J7 =>
some (x8, J7)
else if (w32 a1) = 13 then
bnd (f_M_number 0 39 I) fun x12 J11 =>
some (x12, J11)
else if (w32 a1) = 14 then
bnd (f_M_wordHere 0 I) fun x16 J15 =>
some (x16, J15)
else if (w32 a1) = 15 then
bnd (f_M_number 1 400 I) fun x20 J19 =>
some (x20, J19)
else if (w32 a1) = 16 then
bnd (f_M_number 0 20 I) fun x24 J23 =>
some (x24, J23)
else bnd (f_M_leastOf a1 I) fun x28 J27 =>
bnd (f_M_mostOf a1 J27) fun x31 J30 =>
bnd (f_M_number x28 x31 J30) fun x34 J33 =>
some (x34, J33)
set_option maxRecDepth 20000 in
theorem R_M_firstHere (Z : ZT) (a1 : Int) (I : Mem) (r : Int) (J : Mem) (hf : f_M_firstHere a1 I = some (r, J)) : Runs Z yX13_firstHere cX13_firstHere 2 (some .int) 5 [vr Z 26 0, vi a1] I (some (vi r), J) := by
  refine Runs.of (rv := fun x => some (vi x)) (by decide +kernel) (Nat.le_of_ble_eq_true rfl) hf (fun gr => ?_)
  unfold f_M_firstHere
  refine WQ.loc [0, 1] (lv' := [(0, vr Z 26 0), (1, vi a1)]) rfl ?_
  refine wq_iload_n dX13_firstHere_0 1 rfl rfl ?_
  refine WQ.split (fun c4 => ?_) (fun c4 => ?_)
  · refine wq_tin (n := 10) 44 dX13_firstHere_1 rfl c4 (by decide) (by decide) rfl (by decide) ?_
    refine wq_aload_n dX13_firstHere_44 0 rfl rfl ?_
    refine wq_iconst dX13_firstHere_45 ?_
    refine wq_bipush dX13_firstHere_46 (by decide) ?_
    refine wq_cVi M_M_number (R_M_number Z 1 50 _) ob_26 rfl rfl (by decide) (by decide) (Nat.le_of_ble_eq_true rfl) ln_RX13_307 dX13_firstHere_48 (fun gr1 x3 J2 => ?_)
    exact wq_iret rfl rfl dX13_firstHere_51
  · skip
    refine WQ.split (fun c5 => ?_) (fun c5 => ?_)
    · refine wq_tin (n := 11) 52 dX13_firstHere_1 rfl c5 (by decide) (by decide) rfl (by decide) ?_
      refine wq_iconst dX13_firstHere_52 ?_
      exact wq_iret rfl rfl dX13_firstHere_53
    · skip
      refine WQ.split (fun c9 => ?_) (fun c9 => ?_)
      · refine wq_tin (n := 12) 54 dX13_firstHere_1 rfl c9 (by decide) (by decide) rfl (by decide) ?_
        refine wq_aload_n dX13_firstHere_54 0 rfl rfl ?_
        refine wq_iconst dX13_firstHere_55 ?_
        refine wq_cVi M_M_wordHere (R_M_wordHere Z 1 _) ob_26 rfl rfl (by decide) (by decide) (Nat.le_of_ble_eq_true rfl) ln_RX13_364 dX13_firstHere_56 (fun gr6 x8 J7 => ?_)
        exact wq_iret rfl rfl dX13_firstHere_59
      · skip
        refine WQ.split (fun c13 => ?_) (fun c13 => ?_)
        · refine wq_tin (n := 13) 66 dX13_firstHere_1 rfl c13 (by decide) (by decide) rfl (by decide) ?_
          refine wq_aload_n dX13_firstHere_66 0 rfl rfl ?_
          refine wq_iconst dX13_firstHere_67 ?_
          refine wq_bipush dX13_firstHere_68 (by decide) ?_
          refine wq_cVi M_M_number (R_M_number Z 0 39 _) ob_26 rfl rfl (by decide) (by decide) (Nat.le_of_ble_eq_true rfl) ln_RX13_307 dX13_firstHere_70 (fun gr10 x12 J11 => ?_)
          exact wq_iret rfl rfl dX13_firstHere_73
        · skip
          refine WQ.split (fun c17 => ?_) (fun c17 => ?_)
          · refine wq_tin (n := 14) 60 dX13_firstHere_1 rfl c17 (by decide) (by decide) rfl (by decide) ?_
            refine wq_aload_n dX13_firstHere_60 0 rfl rfl ?_
            refine wq_iconst dX13_firstHere_61 ?_
            refine wq_cVi M_M_wordHere (R_M_wordHere Z 0 _) ob_26 rfl rfl (by decide) (by decide) (Nat.le_of_ble_eq_true rfl) ln_RX13_364 dX13_firstHere_62 (fun gr14 x16 J15 => ?_)
            exact wq_iret rfl rfl dX13_firstHere_65
          · skip
            refine WQ.split (fun c21 => ?_) (fun c21 => ?_)
            · refine wq_tin (n := 15) 74 dX13_firstHere_1 rfl c21 (by decide) (by decide) rfl (by decide) ?_
              refine wq_aload_n dX13_firstHere_74 0 rfl rfl ?_
              refine wq_iconst dX13_firstHere_75 ?_
              refine wq_sipush dX13_firstHere_76 (by decide) ?_
              refine wq_cVi M_M_number (R_M_number Z 1 400 _) ob_26 rfl rfl (by decide) (by decide) (Nat.le_of_ble_eq_true rfl) ln_RX13_307 dX13_firstHere_79 (fun gr18 x20 J19 => ?_)
              exact wq_iret rfl rfl dX13_firstHere_82
            · skip
              refine WQ.split (fun c25 => ?_) (fun c25 => ?_)
              · refine wq_tin (n := 16) 83 dX13_firstHere_1 rfl c25 (by decide) (by decide) rfl (by decide) ?_
                refine wq_aload_n dX13_firstHere_83 0 rfl rfl ?_
                refine wq_iconst dX13_firstHere_84 ?_
                refine wq_bipush dX13_firstHere_85 (by decide) ?_
                refine wq_cVi M_M_number (R_M_number Z 0 20 _) ob_26 rfl rfl (by decide) (by decide) (Nat.le_of_ble_eq_true rfl) ln_RX13_307 dX13_firstHere_87 (fun gr22 x24 J23 => ?_)
                exact wq_iret rfl rfl dX13_firstHere_90
              · skip
                refine wq_tout 91 dX13_firstHere_1 rfl (by omega) (by decide) ?_
                refine wq_aload_n dX13_firstHere_91 0 rfl rfl ?_
                refine wq_iload_n dX13_firstHere_92 1 rfl rfl ?_
                refine wq_cSi M_M_leastOf (R_M_leastOf Z a1 _) rfl rfl rfl (by decide) (by decide) (Nat.le_of_ble_eq_true rfl) ln_RX13_301 dX13_firstHere_93 (fun gr26 x28 J27 => ?_)
                refine wq_iload_n dX13_firstHere_96 1 rfl rfl ?_
                refine wq_cSi M_M_mostOf (R_M_mostOf Z a1 _) rfl rfl rfl (by decide) (by decide) (Nat.le_of_ble_eq_true rfl) ln_RX13_304 dX13_firstHere_97 (fun gr29 x31 J30 => ?_)
                refine wq_cVi M_M_number (R_M_number Z x28 x31 _) ob_26 rfl rfl (by decide) (by decide) (Nat.le_of_ble_eq_true rfl) ln_RX13_307 dX13_firstHere_100 (fun gr32 x34 J33 => ?_)
                exact wq_iret rfl rfl dX13_firstHere_103

theorem M_M_orderHere : MwV yX13_orderHere cX13_orderHere 1 (some .int) 0 := ⟨li_8 94 (by decide +kernel) (by decide +kernel), li_8 93 (by decide +kernel) (by decide +kernel), lw_in 81 (by decide +kernel) (by decide +kernel), li_1 16 (by decide +kernel) (by decide +kernel), by decide +kernel⟩
theorem ln_RX13_370 : Cond.fieldLink RX13 370 RX13 "toldOrders" "I" ∈ lw_good := li_7 93 (by decide +kernel) (by decide +kernel)
theorem ln_RX13_65 : Cond.fieldLink RX13 65 RX13 "orders" "[I" ∈ lw_good := li_7 86 (by decide +kernel) (by decide +kernel)
theorem ln_RX13_68 : Cond.fieldLink RX13 68 RX13 "first" "[I" ∈ lw_good := li_7 87 (by decide +kernel) (by decide +kernel)
theorem M_M_firstHere : MwV yX13_firstHere cX13_firstHere 2 (some .int) 1 := ⟨li_8 106 (by decide +kernel) (by decide +kernel), li_8 105 (by decide +kernel) (by decide +kernel), lw_in 82 (by decide +kernel) (by decide +kernel), li_1 16 (by decide +kernel) (by decide +kernel), by decide +kernel⟩
theorem ln_RX13_376 : Cond.fieldLink RX13 376 RX13 "opened" "I" ∈ lw_good := li_7 94 (by decide +kernel) (by decide +kernel)
theorem ln_RX13_77 : Cond.fieldLink RX13 77 RX13 "begun" "[I" ∈ lw_good := li_7 90 (by decide +kernel) (by decide +kernel)
theorem ln_RX13_379 : Cond.methodLink RX13 379 Lib.Math.min.name ∈ lw_good := li_8 111 (by decide +kernel) (by decide +kernel)
theorem ln_RX13_373 : Cond.methodLink RX13 373 yX13_firstHere ∈ lw_good := li_8 103 (by decide +kernel) (by decide +kernel)
theorem ln_RX13_367 : Cond.methodLink RX13 367 yX13_orderHere ∈ lw_good := li_8 91 (by decide +kernel) (by decide +kernel)
noncomputable def f_M_readsOrder_j130   (e0 : Int) (I : Mem) : Option ((Unit) × Mem) :=
bnd (f_M_faulty e0 5 I) fun x30 J29 =>
if (w32 x30) = 0 then
bnd (f_M_takesSign 40 J29) fun _ J32 =>
if 0 ≤ (w32 (imn (J32 26 0 40) 1)) ∧ (w32 (imn (J32 26 0 40) 1)) < 2 then
ltI (sI J32 27 19 (w32 (imn (J32 26 0 40) 1)).toNat (J32 26 0 38)) fun J35 =>
ltI (sI J35 26 0 40 ((J35 26 0 40) + 1)) fun J36 =>
ltI (sI J36 26 0 38 ((J36 26 0 38) + 1)) fun J37 =>
some ((), J37)
else none
else
some ((), J29)

noncomputable def f_M_readsOrder_j129    (I : Mem) : Option ((Unit) × Mem) :=
f_M_readsOrder_j130 0 I

noncomputable def f_M_readsOrder  (I : Mem) : Option ((Unit) × Mem) :=
bnd (f_M_orderHere I) fun x3 J2 =>
bnd (f_M_faulty (if (w32 x3) = (-1) then 1 else 0) 1 J2) fun x6 J5 =>
if (w32 x6) = 0 then
bnd (f_M_faulty (if (w32 (J5 26 0 39)) = 30 then 1 else 0) 5 J5) fun x9 J8 =>
if (w32 x9) = 0 then
ltI (sI J8 26 0 39 ((J8 26 0 39) + 1)) fun J10 =>
bnd (f_M_advance J10) fun _ J12 =>
if 0 ≤ (w32 (J12 26 0 38)) ∧ (w32 (J12 26 0 38)) < 64 then
ltI (sI J12 27 15 (w32 (J12 26 0 38)).toNat x3) fun J15 =>
bnd (f_M_firstHere x3 J15) fun x18 J17 =>
if 0 ≤ (w32 (J15 26 0 38)) ∧ (w32 (J15 26 0 38)) < 64 then
ltI (sI J17 27 16 (w32 (J15 26 0 38)).toNat x18) fun J20 =>
if (w32 x3) = 16 then
bnd (f_M_isSign 40 J20) fun x23 J22 =>
if (w32 x23) = 0 then
f_M_readsOrder_j129 J22
else
if (w32 (J22 26 0 40)) = 2 then
f_M_readsOrder_j130 1 J22
else
f_M_readsOrder_j129 J22
else
ltI (sI J20 26 0 38 ((J20 26 0 38) + 1)) fun J54 =>
bnd (f_M_takesSign 59 J54) fun _ J56 =>
some ((), J56)
else none
else none
else
some ((), J8)
else
some ((), J5)
set_option maxRecDepth 20000 in
theorem R_M_readsOrder (Z : ZT)  (I : Mem) (r : Unit) (J : Mem) (hf : f_M_readsOrder I = some (r, J)) : Runs Z yX13_readsOrder cX13_readsOrder 2 (none) 7 [vr Z 26 0] I (none, J) := by
  refine Runs.of (rv := fun _ => none) (by decide +kernel) (Nat.le_of_ble_eq_true rfl) hf (fun gr => ?_)
  unfold f_M_readsOrder
  refine WQ.loc [0] (lv' := [(0, vr Z 26 0)]) rfl ?_
  refine wq_aload_n dX13_readsOrder_0 0 rfl rfl ?_
  refine wq_cVi M_M_orderHere (R_M_orderHere Z _) ob_26 rfl rfl (by decide) (by decide) (Nat.le_of_ble_eq_true rfl) ln_RX13_367 dX13_readsOrder_1 (fun gr1 x3 J2 => ?_)
  refine wq_istore_n (lv' := [(1, vi x3), (0, vr Z 26 0)]) dX13_readsOrder_4 rfl (by decide) rfl ?_
  refine wq_aload_n dX13_readsOrder_5 1 rfl rfl ?_
  refine wq_iload_n dX13_readsOrder_6 0 rfl rfl ?_
  refine wq_iconst dX13_readsOrder_7 ?_
  refine WQ.via 16 [vi (if (w32 x3) = (-1) then 1 else 0), vr Z 26 0] (by
      refine wq_iconst dX13_readsOrder_16 ?_
      refine wq_cVi M_M_faulty (R_M_faulty Z (if (w32 x3) = (-1) then 1 else 0) 1 _) ob_26 rfl rfl (by decide) (by decide) (Nat.le_of_ble_eq_true rfl) ln_RX13_266 dX13_readsOrder_17 (fun gr4 x6 J5 => ?_)
      refine wq_if_ne 45 dX13_readsOrder_20 (by decide) rfl (fun c62 => ?_) (fun c62 => ?_)
      · refine wq_aload_n dX13_readsOrder_23 1 rfl rfl ?_
        refine wq_aload_n dX13_readsOrder_24 1 rfl rfl ?_
        refine g_26_39 ln_RX13_370 dX13_readsOrder_25 ?_
        refine wq_bipush dX13_readsOrder_28 (by decide) ?_
        refine WQ.via 38 [vi (if (w32 (J5 26 0 39)) = 30 then 1 else 0), vr Z 26 0] (by
            refine wq_iconst dX13_readsOrder_38 ?_
            refine wq_cVi M_M_faulty (R_M_faulty Z (if (w32 (J5 26 0 39)) = 30 then 1 else 0) 5 _) ob_26 rfl rfl (by decide) (by decide) (Nat.le_of_ble_eq_true rfl) ln_RX13_266 dX13_readsOrder_39 (fun gr7 x9 J8 => ?_)
            refine wq_if_eq 46 dX13_readsOrder_42 (by decide) rfl (fun c59 => ?_) (fun c59 => ?_)
            · refine wq_aload_n dX13_readsOrder_46 1 rfl rfl ?_
              refine wq_dup dX13_readsOrder_47 rfl ?_
              refine g_26_39 ln_RX13_370 dX13_readsOrder_48 ?_
              refine wq_iconst dX13_readsOrder_51 ?_
              refine wq_iadd dX13_readsOrder_52 ?_
              refine p_26_39 ln_RX13_370 dX13_readsOrder_53 (fun J10 => ?_)
              refine wq_aload_n dX13_readsOrder_56 1 rfl rfl ?_
              refine wq_cVv M_M_advance (R_M_advance Z _) ob_26 rfl rfl (by decide) (by decide) (Nat.le_of_ble_eq_true rfl) ln_RX13_270 dX13_readsOrder_57 (fun gr11 _ J12 => ?_)
              refine wq_aload_n dX13_readsOrder_60 1 rfl rfl ?_
              refine g_26_32 ln_RX13_65 dX13_readsOrder_61 ?_
              refine wq_aload_n dX13_readsOrder_64 1 rfl rfl ?_
              refine g_26_38 ln_RX13_361 dX13_readsOrder_65 ?_
              refine wq_iload_n dX13_readsOrder_68 0 rfl rfl ?_
              refine wq_grd (fun g14 => ?_)
              refine wq_iast (k := 27) (i := 15) (fun _ _ => rfl) (by decide) rfl rfl (m := 64) g14 (Nat.le_of_ble_eq_true rfl) (by decide) (by decide) (by decide) dX13_readsOrder_69 (fun J15 => ?_)
              refine wq_aload_n dX13_readsOrder_70 1 rfl rfl ?_
              refine g_26_33 ln_RX13_68 dX13_readsOrder_71 ?_
              refine wq_aload_n dX13_readsOrder_74 1 rfl rfl ?_
              refine g_26_38 ln_RX13_361 dX13_readsOrder_75 ?_
              refine wq_aload_n dX13_readsOrder_78 1 rfl rfl ?_
              refine wq_iload_n dX13_readsOrder_79 0 rfl rfl ?_
              refine wq_cVi M_M_firstHere (R_M_firstHere Z x3 _) ob_26 rfl rfl (by decide) (by decide) (Nat.le_of_ble_eq_true rfl) ln_RX13_373 dX13_readsOrder_80 (fun gr16 x18 J17 => ?_)
              refine wq_grd (fun g19 => ?_)
              refine wq_iast (k := 27) (i := 16) (fun _ _ => rfl) (by decide) rfl rfl (m := 64) g19 (Nat.le_of_ble_eq_true rfl) (by decide) (by decide) (by decide) dX13_readsOrder_83 (fun J20 => ?_)
              refine wq_iload_n dX13_readsOrder_84 0 rfl rfl ?_
              refine wq_bipush dX13_readsOrder_85 (by decide) ?_
              refine wq_icmp_eq 107 dX13_readsOrder_87 (by decide) rfl rfl (fun c58 => ?_) (fun c58 => ?_)
              · refine wq_aload_n dX13_readsOrder_107 1 rfl rfl ?_
                refine wq_aload_n dX13_readsOrder_108 1 rfl rfl ?_
                refine wq_bipush dX13_readsOrder_109 (by decide) ?_
                refine wq_cVi M_M_isSign (R_M_isSign Z 40 _) ob_26 rfl rfl (by decide) (by decide) (Nat.le_of_ble_eq_true rfl) ln_RX13_263 dX13_readsOrder_111 (fun gr21 x23 J22 => ?_)
                have hj24 : ∀ (gr40 : Nat → Nat)  (hj24e0 : Int) (J39 : Mem), WQ Z (yX13_readsOrder, cX13_readsOrder, 2, none, 7) I gr40 130 [(0, vr Z 26 0)] [vi hj24e0, vr Z 26 0] J39 (f_M_readsOrder_j130 hj24e0 J39) (fun b K => some (.inl ((fun _ => none) b), K)) := by
                  intro gr40 hj24e0 J39
                  unfold f_M_readsOrder_j130
                  refine wq_iconst dX13_readsOrder_130 ?_
                  refine wq_cVi M_M_faulty (R_M_faulty Z hj24e0 5 _) ob_26 rfl rfl (by decide) (by decide) (Nat.le_of_ble_eq_true rfl) ln_RX13_266 dX13_readsOrder_131 (fun gr41 x43 J42 => ?_)
                  refine wq_if_eq 138 dX13_readsOrder_134 (by decide) rfl (fun c51 => ?_) (fun c51 => ?_)
                  · refine wq_aload_n dX13_readsOrder_138 0 rfl rfl ?_
                    refine wq_bipush dX13_readsOrder_139 (by decide) ?_
                    refine wq_cVv M_M_takesSign (R_M_takesSign Z 40 _) ob_26 rfl rfl (by decide) (by decide) (Nat.le_of_ble_eq_true rfl) ln_RX13_276 dX13_readsOrder_141 (fun gr44 _ J45 => ?_)
                    refine wq_aload_n dX13_readsOrder_144 0 rfl rfl ?_
                    refine g_26_36 ln_RX13_77 dX13_readsOrder_145 ?_
                    refine wq_aload_n dX13_readsOrder_148 0 rfl rfl ?_
                    refine g_26_40 ln_RX13_376 dX13_readsOrder_149 ?_
                    refine wq_iconst dX13_readsOrder_152 ?_
                    refine wq_min (by decide) (Nat.le_of_ble_eq_true rfl) ln_RX13_379 mt_min_s mt_i mt_min_c dX13_readsOrder_153 ?_
                    refine wq_aload_n dX13_readsOrder_156 0 rfl rfl ?_
                    refine g_26_38 ln_RX13_361 dX13_readsOrder_157 ?_
                    refine wq_grd (fun g47 => ?_)
                    refine wq_iast (k := 27) (i := 19) (fun _ _ => rfl) (by decide) rfl rfl (m := 2) g47 (Nat.le_of_ble_eq_true rfl) (by decide) (by decide) (by decide) dX13_readsOrder_160 (fun J48 => ?_)
                    refine wq_aload_n dX13_readsOrder_161 0 rfl rfl ?_
                    refine wq_dup dX13_readsOrder_162 rfl ?_
                    refine g_26_40 ln_RX13_376 dX13_readsOrder_163 ?_
                    refine wq_iconst dX13_readsOrder_166 ?_
                    refine wq_iadd dX13_readsOrder_167 ?_
                    refine p_26_40 ln_RX13_376 dX13_readsOrder_168 (fun J49 => ?_)
                    refine wq_aload_n dX13_readsOrder_171 0 rfl rfl ?_
                    refine wq_dup dX13_readsOrder_172 rfl ?_
                    refine g_26_38 ln_RX13_361 dX13_readsOrder_173 ?_
                    refine wq_iconst dX13_readsOrder_176 ?_
                    refine wq_iadd dX13_readsOrder_177 ?_
                    refine p_26_38 ln_RX13_361 dX13_readsOrder_178 (fun J50 => ?_)
                    exact wq_vret rfl rfl dX13_readsOrder_181
                  · exact wq_vret rfl rfl dX13_readsOrder_137
                have hj25 : ∀ (gr53 : Nat → Nat)   (J52 : Mem), WQ Z (yX13_readsOrder, cX13_readsOrder, 2, none, 7) I gr53 129 [(0, vr Z 26 0)] [vr Z 26 0] J52 (f_M_readsOrder_j129 J52) (fun b K => some (.inl ((fun _ => none) b), K)) := by
                  intro gr53 J52
                  unfold f_M_readsOrder_j129
                  refine wq_iconst dX13_readsOrder_129 ?_
                  exact WQ.loc [0] rfl (hj24 _  _ _)
                refine wq_if_eq 129 dX13_readsOrder_114 (by decide) rfl (fun c27 => ?_) (fun c27 => ?_)
                · exact WQ.loc [1] rfl (hj25 _   _)
                · refine wq_aload_n dX13_readsOrder_117 1 rfl rfl ?_
                  refine g_26_40 ln_RX13_376 dX13_readsOrder_118 ?_
                  refine wq_iconst dX13_readsOrder_121 ?_
                  refine wq_icmp_ne 129 dX13_readsOrder_122 (by decide) rfl rfl (fun c26 => ?_) (fun c26 => ?_)
                  · refine wq_iconst dX13_readsOrder_125 ?_
                    refine wq_goto 130 dX13_readsOrder_126 (by decide) ?_
                    exact WQ.loc [1] rfl (hj24 _  _ _)
                  · exact WQ.loc [1] rfl (hj25 _   _)
              · refine wq_aload_n dX13_readsOrder_90 1 rfl rfl ?_
                refine wq_dup dX13_readsOrder_91 rfl ?_
                refine g_26_38 ln_RX13_361 dX13_readsOrder_92 ?_
                refine wq_iconst dX13_readsOrder_95 ?_
                refine wq_iadd dX13_readsOrder_96 ?_
                refine p_26_38 ln_RX13_361 dX13_readsOrder_97 (fun J54 => ?_)
                refine wq_aload_n dX13_readsOrder_100 1 rfl rfl ?_
                refine wq_bipush dX13_readsOrder_101 (by decide) ?_
                refine wq_cVv M_M_takesSign (R_M_takesSign Z 59 _) ob_26 rfl rfl (by decide) (by decide) (Nat.le_of_ble_eq_true rfl) ln_RX13_276 dX13_readsOrder_103 (fun gr55 _ J56 => ?_)
                exact wq_vret rfl rfl dX13_readsOrder_106
            · exact wq_vret rfl rfl dX13_readsOrder_45) (fun hj60 => ?_)
        refine WQ.both ((w32 (J5 26 0 39)) = 30) ?_
        refine wq_icmp_ne 37 dX13_readsOrder_30 (by decide) rfl rfl (fun c61 => ?_) (fun c61 => ?_)
        · refine wq_iconst dX13_readsOrder_33 ?_
          refine wq_goto 38 dX13_readsOrder_34 (by decide) ?_
          exact WQ.top (if_pos c61) hj60
        · refine wq_iconst dX13_readsOrder_37 ?_
          exact WQ.top (if_neg c61) hj60
      · exact wq_vret rfl rfl dX13_readsOrder_45) (fun hj63 => ?_)
  refine WQ.both ((w32 x3) = (-1)) ?_
  refine wq_icmp_ne 15 dX13_readsOrder_8 (by decide) rfl rfl (fun c64 => ?_) (fun c64 => ?_)
  · refine wq_iconst dX13_readsOrder_11 ?_
    refine wq_goto 16 dX13_readsOrder_12 (by decide) ?_
    exact WQ.top (if_pos c64) hj63
  · refine wq_iconst dX13_readsOrder_15 ?_
    exact WQ.top (if_neg c64) hj63

theorem ln_RX13_74 : Cond.fieldLink RX13 74 RX13 "closers" "[I" ∈ lw_good := li_7 89 (by decide +kernel) (by decide +kernel)
noncomputable def f_M_closes_w0  (s : Unit) (I : Mem) : Option (((Unit) ⊕ (Unit)) × Mem) :=
if 0 < (w32 (I 26 0 40)) then
bnd (f_M_isSign 41 I) fun x3 J2 =>
if (w32 x3) = 0 then
some (.inr (), J2)
else
ltI (sI J2 26 0 40 ((J2 26 0 40) - 1)) fun J4 =>
if 0 ≤ (w32 (J4 26 0 40)) ∧ (w32 (J4 26 0 40)) < 2 then
if 0 ≤ (w32 (J4 27 19 (w32 (J4 26 0 40)).toNat)) ∧ (w32 (J4 27 19 (w32 (J4 26 0 40)).toNat)) < 64 then
ltI (sI J4 27 18 (w32 (J4 27 19 (w32 (J4 26 0 40)).toNat)).toNat (J4 26 0 38)) fun J7 =>
if 0 ≤ (w32 (J7 26 0 38)) ∧ (w32 (J7 26 0 38)) < 64 then
ltI (sI J7 27 15 (w32 (J7 26 0 38)).toNat 17) fun J9 =>
ltI (sI J9 26 0 38 ((J9 26 0 38) + 1)) fun J10 =>
bnd (f_M_advance J10) fun _ J12 =>
bnd (f_M_takesSign 59 J12) fun _ J15 =>
some (.inl (), J15)
else none
else none
else none
else
some (.inr (), I)

noncomputable def f_M_closes  (I : Mem) : Option ((Unit) × Mem) :=
bnd (whl (f_M_closes_w0) () I) fun r44 J45 =>
some ((), J45)
set_option maxRecDepth 20000 in
theorem R_M_closes (Z : ZT)  (I : Mem) (r : Unit) (J : Mem) (hf : f_M_closes I = some (r, J)) : Runs Z yX13_closes cX13_closes 1 (none) 5 [vr Z 26 0] I (none, J) := by
  refine Runs.of (rv := fun _ => none) (by decide +kernel) (Nat.le_of_ble_eq_true rfl) hf (fun gr => ?_)
  unfold f_M_closes
  refine WQ.loc [0] (lv' := [(0, vr Z 26 0)]) rfl ?_
  refine wq_loopS (fun _ => [(0, vr Z 26 0)]) 78 (fun _ => []) (fun κ19 bk20 ex21 gr24 s25 J23 => ?_) (fun gr46 r44 J45 => ?_) gr _ rfl
  · unfold f_M_closes_w0
    refine wq_aload_n dX13_closes_0 0 rfl rfl ?_
    refine g_26_40 ln_RX13_376 dX13_closes_1 ?_
    refine wq_if_le 78 dX13_closes_4 (by decide) rfl (fun c43 => ?_) (fun c43 => ?_)
    · refine wq_aload_n dX13_closes_7 0 rfl rfl ?_
      refine wq_bipush dX13_closes_8 (by decide) ?_
      refine wq_cVi M_M_isSign (R_M_isSign Z 41 _) ob_26 rfl rfl (by decide) (by decide) (Nat.le_of_ble_eq_true rfl) ln_RX13_263 dX13_closes_10 (fun gr26 x28 J27 => ?_)
      refine wq_if_eq 78 dX13_closes_13 (by decide) rfl (fun c42 => ?_) (fun c42 => ?_)
      · exact WQ.loc [] rfl (ex21 _ _ _)
      · refine wq_aload_n dX13_closes_16 0 rfl rfl ?_
        refine wq_dup dX13_closes_17 rfl ?_
        refine g_26_40 ln_RX13_376 dX13_closes_18 ?_
        refine wq_iconst dX13_closes_21 ?_
        refine wq_isub dX13_closes_22 ?_
        refine p_26_40 ln_RX13_376 dX13_closes_23 (fun J29 => ?_)
        refine wq_aload_n dX13_closes_26 0 rfl rfl ?_
        refine g_26_35 ln_RX13_74 dX13_closes_27 ?_
        refine wq_aload_n dX13_closes_30 0 rfl rfl ?_
        refine g_26_36 ln_RX13_77 dX13_closes_31 ?_
        refine wq_aload_n dX13_closes_34 0 rfl rfl ?_
        refine g_26_40 ln_RX13_376 dX13_closes_35 ?_
        refine wq_grd (fun g30 => ?_)
        refine wq_iald (k := 27) (i := 19) rfl (by decide) rfl rfl (m := 2) g30 (Nat.le_of_ble_eq_true rfl) dX13_closes_38 ?_
        refine wq_aload_n dX13_closes_39 0 rfl rfl ?_
        refine g_26_38 ln_RX13_361 dX13_closes_40 ?_
        refine wq_grd (fun g31 => ?_)
        refine wq_iast (k := 27) (i := 18) (fun _ _ => rfl) (by decide) rfl rfl (m := 64) g31 (Nat.le_of_ble_eq_true rfl) (by decide) (by decide) (by decide) dX13_closes_43 (fun J32 => ?_)
        refine wq_aload_n dX13_closes_44 0 rfl rfl ?_
        refine g_26_32 ln_RX13_65 dX13_closes_45 ?_
        refine wq_aload_n dX13_closes_48 0 rfl rfl ?_
        refine g_26_38 ln_RX13_361 dX13_closes_49 ?_
        refine wq_bipush dX13_closes_52 (by decide) ?_
        refine wq_grd (fun g33 => ?_)
        refine wq_iast (k := 27) (i := 15) (fun _ _ => rfl) (by decide) rfl rfl (m := 64) g33 (Nat.le_of_ble_eq_true rfl) (by decide) (by decide) (by decide) dX13_closes_54 (fun J34 => ?_)
        refine wq_aload_n dX13_closes_55 0 rfl rfl ?_
        refine wq_dup dX13_closes_56 rfl ?_
        refine g_26_38 ln_RX13_361 dX13_closes_57 ?_
        refine wq_iconst dX13_closes_60 ?_
        refine wq_iadd dX13_closes_61 ?_
        refine p_26_38 ln_RX13_361 dX13_closes_62 (fun J35 => ?_)
        refine wq_aload_n dX13_closes_65 0 rfl rfl ?_
        refine wq_cVv M_M_advance (R_M_advance Z _) ob_26 rfl rfl (by decide) (by decide) (Nat.le_of_ble_eq_true rfl) ln_RX13_270 dX13_closes_66 (fun gr36 _ J37 => ?_)
        refine wq_aload_n dX13_closes_69 0 rfl rfl ?_
        refine wq_bipush dX13_closes_70 (by decide) ?_
        refine wq_cVv M_M_takesSign (R_M_takesSign Z 59 _) ob_26 rfl rfl (by decide) (by decide) (Nat.le_of_ble_eq_true rfl) ln_RX13_276 dX13_closes_72 (fun gr39 _ J40 => ?_)
        refine wq_goto 0 dX13_closes_75 (by decide) ?_
        exact WQ.loc [0] rfl (bk20 _ _ _)
    · exact WQ.loc [] rfl (ex21 _ _ _)
  · exact wq_vret rfl rfl dX13_closes_78

theorem M_M_readsOrder : MwV yX13_readsOrder cX13_readsOrder 2 (none) 0 := ⟨li_8 90 (by decide +kernel) (by decide +kernel), li_8 89 (by decide +kernel) (by decide +kernel), lw_in 80 (by decide +kernel) (by decide +kernel), li_1 16 (by decide +kernel) (by decide +kernel), by decide +kernel⟩
theorem M_M_closes : MwV yX13_closes cX13_closes 1 (none) 0 := ⟨li_8 115 (by decide +kernel) (by decide +kernel), li_8 114 (by decide +kernel) (by decide +kernel), lw_in 84 (by decide +kernel) (by decide +kernel), li_1 16 (by decide +kernel) (by decide +kernel), by decide +kernel⟩
theorem ln_RX13_385 : Cond.methodLink RX13 385 yX13_closes ∈ lw_good := li_8 112 (by decide +kernel) (by decide +kernel)
theorem ln_RX13_382 : Cond.methodLink RX13 382 yX13_readsOrder ∈ lw_good := li_8 87 (by decide +kernel) (by decide +kernel)
noncomputable def f_M_script_w29  (s : Unit) (I : Mem) : Option (((Unit) ⊕ (Unit)) × Mem) :=
if (w32 (I 26 0 25)) = 0 then
if (w32 (I 26 0 23)) = 0 then
some (.inr (), I)
else
bnd (f_M_readsOrder I) fun _ J10 =>
bnd (f_M_closes J10) fun _ J13 =>
some (.inl (), J13)
else
some (.inr (), I)

noncomputable def f_M_script  (I : Mem) : Option ((Unit) × Mem) :=
ltI (sI I 26 0 22 0) fun J1 =>
ltI (sI J1 26 0 25 0) fun J2 =>
ltI (sI J2 26 0 38 0) fun J3 =>
ltI (sI J3 26 0 39 0) fun J4 =>
ltI (sI J4 26 0 40 0) fun J5 =>
bnd (f_M_advance J5) fun _ J7 =>
bnd (whl (f_M_script_w29) () J7) fun r32 J33 =>
bnd (f_M_faulty (if 0 < (w32 (J33 26 0 40)) then 1 else 0) 1 J33) fun x37 J36 =>
if x37 = 0 ∨ x37 = 1 then
ltI (sI J36 26 0 31 x37) fun J38 =>
some ((), J38)
else none
set_option maxRecDepth 20000 in
theorem R_M_script (Z : ZT)  (I : Mem) (r : Unit) (J : Mem) (hf : f_M_script I = some (r, J)) : Runs Z yX13_script cX13_script 1 (none) 8 [vr Z 26 0] I (none, J) := by
  refine Runs.of (rv := fun _ => none) (by decide +kernel) (Nat.le_of_ble_eq_true rfl) hf (fun gr => ?_)
  unfold f_M_script
  refine WQ.loc [0] (lv' := [(0, vr Z 26 0)]) rfl ?_
  refine wq_aload_n dX13_script_0 0 rfl rfl ?_
  refine wq_iconst dX13_script_1 ?_
  refine p_26_22 ln_RX13_228 dX13_script_2 (fun J1 => ?_)
  refine wq_aload_n dX13_script_5 0 rfl rfl ?_
  refine wq_iconst dX13_script_6 ?_
  refine p_26_25 ln_RX13_247 dX13_script_7 (fun J2 => ?_)
  refine wq_aload_n dX13_script_10 0 rfl rfl ?_
  refine wq_iconst dX13_script_11 ?_
  refine p_26_38 ln_RX13_361 dX13_script_12 (fun J3 => ?_)
  refine wq_aload_n dX13_script_15 0 rfl rfl ?_
  refine wq_iconst dX13_script_16 ?_
  refine p_26_39 ln_RX13_370 dX13_script_17 (fun J4 => ?_)
  refine wq_aload_n dX13_script_20 0 rfl rfl ?_
  refine wq_iconst dX13_script_21 ?_
  refine p_26_40 ln_RX13_376 dX13_script_22 (fun J5 => ?_)
  refine wq_aload_n dX13_script_25 0 rfl rfl ?_
  refine wq_cVv M_M_advance (R_M_advance Z _) ob_26 rfl rfl (by decide) (by decide) (Nat.le_of_ble_eq_true rfl) ln_RX13_270 dX13_script_26 (fun gr6 _ J7 => ?_)
  refine wq_loopS (fun _ => [(0, vr Z 26 0)]) 54 (fun _ => [(0, vr Z 26 0)]) (fun κ17 bk18 ex19 gr22 s23 J21 => ?_) (fun gr34 r32 J33 => ?_) gr6 _ rfl
  · unfold f_M_script_w29
    refine wq_aload_n dX13_script_29 0 rfl rfl ?_
    refine g_26_25 ln_RX13_247 dX13_script_30 ?_
    refine wq_if_ne 54 dX13_script_33 (by decide) rfl (fun c31 => ?_) (fun c31 => ?_)
    · refine wq_aload_n dX13_script_36 0 rfl rfl ?_
      refine g_26_23 ln_RX13_237 dX13_script_37 ?_
      refine wq_if_eq 54 dX13_script_40 (by decide) rfl (fun c30 => ?_) (fun c30 => ?_)
      · exact WQ.loc [0] rfl (ex19 _ _ _)
      · refine wq_aload_n dX13_script_43 0 rfl rfl ?_
        refine wq_cVv M_M_readsOrder (R_M_readsOrder Z _) ob_26 rfl rfl (by decide) (by decide) (Nat.le_of_ble_eq_true rfl) ln_RX13_382 dX13_script_44 (fun gr24 _ J25 => ?_)
        refine wq_aload_n dX13_script_47 0 rfl rfl ?_
        refine wq_cVv M_M_closes (R_M_closes Z _) ob_26 rfl rfl (by decide) (by decide) (Nat.le_of_ble_eq_true rfl) ln_RX13_385 dX13_script_48 (fun gr27 _ J28 => ?_)
        refine wq_goto 29 dX13_script_51 (by decide) ?_
        exact WQ.loc [0] rfl (bk18 _ _ _)
    · exact WQ.loc [0] rfl (ex19 _ _ _)
  · refine wq_aload_n dX13_script_54 0 rfl rfl ?_
    refine wq_aload_n dX13_script_55 0 rfl rfl ?_
    refine wq_aload_n dX13_script_56 0 rfl rfl ?_
    refine g_26_40 ln_RX13_376 dX13_script_57 ?_
    refine WQ.via 68 [vi (if 0 < (w32 (J33 26 0 40)) then 1 else 0), vr Z 26 0, vr Z 26 0] (by
        refine wq_iconst dX13_script_68 ?_
        refine wq_cVi M_M_faulty (R_M_faulty Z (if 0 < (w32 (J33 26 0 40)) then 1 else 0) 1 _) ob_26 rfl rfl (by decide) (by decide) (Nat.le_of_ble_eq_true rfl) ln_RX13_266 dX13_script_69 (fun gr35 x37 J36 => ?_)
        refine wq_grd (fun g39 => ?_)
        refine p_26_31 g39 ln_RX13_326 dX13_script_72 (fun J38 => ?_)
        exact wq_vret rfl rfl dX13_script_75) (fun hj40 => ?_)
    refine WQ.both (0 < (w32 (J33 26 0 40))) ?_
    refine wq_if_le 67 dX13_script_60 (by decide) rfl (fun c41 => ?_) (fun c41 => ?_)
    · refine wq_iconst dX13_script_63 ?_
      refine wq_goto 68 dX13_script_64 (by decide) ?_
      exact WQ.top (if_pos c41) hj40
    · refine wq_iconst dX13_script_67 ?_
      exact WQ.top (if_neg c41) hj40

noncomputable def f_M_longestBody_w4  (s : Int × Int) (I : Mem) : Option (((Int × Int) ⊕ (Int)) × Mem) :=
if (w32 s.2) < 41 then
bnd (f_M_many s.2 I) fun x3 J2 =>
some (.inl ((imx s.1 x3), (s.2 + 1)), J2)
else
some (.inr s.1, I)

noncomputable def f_M_longestBody  (I : Mem) : Option ((Int) × Mem) :=
bnd (whl (f_M_longestBody_w4) (0, 1) I) fun r16 J17 =>
some (r16, J17)
set_option maxRecDepth 20000 in
theorem R_M_longestBody (Z : ZT)  (I : Mem) (r : Int) (J : Mem) (hf : f_M_longestBody I = some (r, J)) : Runs Z yX13_longestBody cX13_longestBody 3 (some .int) 2 [vr Z 26 0] I (some (vi r), J) := by
  refine Runs.of (rv := fun x => some (vi x)) (by decide +kernel) (Nat.le_of_ble_eq_true rfl) hf (fun gr => ?_)
  unfold f_M_longestBody
  refine WQ.loc [0] (lv' := [(0, vr Z 26 0)]) rfl ?_
  refine wq_iconst dX13_longestBody_0 ?_
  refine wq_istore_n (lv' := [(1, vi 0), (0, vr Z 26 0)]) dX13_longestBody_1 rfl (by decide) rfl ?_
  refine wq_iconst dX13_longestBody_2 ?_
  refine wq_istore_n (lv' := [(2, vi 1), (1, vi 0), (0, vr Z 26 0)]) dX13_longestBody_3 rfl (by decide) rfl ?_
  refine WQ.loc [2, 1, 0] (lv' := [(0, vr Z 26 0), (1, vi 0), (2, vi 1)]) rfl ?_
  refine wq_loopS (fun s11 => [(0, vr Z 26 0), (1, vi s11.1), (2, vi s11.2)]) 26 (fun r16 => [(1, vi r16)]) (fun κ5 bk6 ex7 gr10 s11 J9 => ?_) (fun gr18 r16 J17 => ?_) gr _ rfl
  · unfold f_M_longestBody_w4
    refine wq_iload_n dX13_longestBody_4 2 rfl rfl ?_
    refine wq_bipush dX13_longestBody_5 (by decide) ?_
    refine wq_icmp_ge 26 dX13_longestBody_7 (by decide) rfl rfl (fun c15 => ?_) (fun c15 => ?_)
    · refine wq_iload_n dX13_longestBody_10 1 rfl rfl ?_
      refine wq_aload_n dX13_longestBody_11 0 rfl rfl ?_
      refine wq_iload_n dX13_longestBody_12 2 rfl rfl ?_
      refine wq_cVi M_M_many (R_M_many Z s11.2 _) ob_26 rfl rfl (by decide) (by decide) (Nat.le_of_ble_eq_true rfl) ln_RX13_103 dX13_longestBody_13 (fun gr12 x14 J13 => ?_)
      refine wq_max (by decide) (Nat.le_of_ble_eq_true rfl) ln_RX13_129 mt_max_s mt_i mt_max_c dX13_longestBody_16 ?_
      refine wq_istore_n (lv' := [(1, vi (imx s11.1 x14)), (0, vr Z 26 0), (2, vi s11.2)]) dX13_longestBody_19 rfl (by decide) rfl ?_
      refine wq_iinc (lv' := [(2, vi (s11.2 + 1)), (1, vi (imx s11.1 x14)), (0, vr Z 26 0)]) dX13_longestBody_20 2 rfl (by decide) rfl ?_
      refine wq_goto 4 dX13_longestBody_23 (by decide) ?_
      exact WQ.loc [2, 1, 0] rfl (bk6 _ _ _)
    · exact WQ.loc [1] rfl (ex7 _ _ _)
  · refine wq_iload_n dX13_longestBody_26 0 rfl rfl ?_
    exact wq_iret rfl rfl dX13_longestBody_27

theorem M_M_textLong : MwV yX13_textLong cX13_textLong 1 (some .int) 0 := ⟨li_9 7 (by decide +kernel) (by decide +kernel), li_9 6 (by decide +kernel) (by decide +kernel), lw_in 115 (by decide +kernel) (by decide +kernel), li_1 16 (by decide +kernel) (by decide +kernel), by decide +kernel⟩
theorem ln_RX13_422 : Cond.methodLink RX13 422 yX13_textLong ∈ lw_good := li_9 4 (by decide +kernel) (by decide +kernel)
noncomputable def f_M_deepNow  (I : Mem) : Option ((Int) × Mem) :=
bnd (f_M_textLong I) fun x3 J2 =>
if 0 < (w32 x3) then
some ((J2 26 0 10), J2)
else
some (0, J2)
set_option maxRecDepth 20000 in
theorem R_M_deepNow (Z : ZT)  (I : Mem) (r : Int) (J : Mem) (hf : f_M_deepNow I = some (r, J)) : Runs Z yX13_deepNow cX13_deepNow 2 (some .int) 5 [vr Z 26 0] I (some (vi r), J) := by
  refine Runs.of (rv := fun x => some (vi x)) (by decide +kernel) (Nat.le_of_ble_eq_true rfl) hf (fun gr => ?_)
  unfold f_M_deepNow
  refine WQ.loc [0] (lv' := [(0, vr Z 26 0)]) rfl ?_
  refine wq_aload_n dX13_deepNow_0 0 rfl rfl ?_
  refine wq_cVi M_M_textLong (R_M_textLong Z _) ob_26 rfl rfl (by decide) (by decide) (Nat.le_of_ble_eq_true rfl) ln_RX13_422 dX13_deepNow_1 (fun gr1 x3 J2 => ?_)
  refine wq_istore_n (lv' := [(1, vi x3), (0, vr Z 26 0)]) dX13_deepNow_4 rfl (by decide) rfl ?_
  refine wq_iload_n dX13_deepNow_5 0 rfl rfl ?_
  refine wq_if_le 16 dX13_deepNow_6 (by decide) rfl (fun c4 => ?_) (fun c4 => ?_)
  · refine wq_aload_n dX13_deepNow_9 1 rfl rfl ?_
    refine g_26_10 ln_RX13_126 dX13_deepNow_10 ?_
    refine wq_goto 17 dX13_deepNow_13 (by decide) ?_
    exact wq_iret rfl rfl dX13_deepNow_17
  · refine wq_iconst dX13_deepNow_16 ?_
    exact wq_iret rfl rfl dX13_deepNow_17

noncomputable def f_M_lettersOf_w10 (v1 : Int) (v3 : Int) (s : Int × Int) (I : Mem) : Option (((Int × Int) ⊕ (Int)) × Mem) :=
if (w32 s.2) < (w32 v3) then
if 0 ≤ (w32 s.2) ∧ (w32 s.2) < 401 then
bnd (f_M_one (if (w32 (I 27 7 (w32 s.2).toNat)) = (w32 v1) then 1 else 0) I) fun x7 J6 =>
some (.inl ((s.1 + x7), (s.2 + 1)), J6)
else none
else
some (.inr s.1, I)

noncomputable def f_M_lettersOf (a1 : Int) (I : Mem) : Option ((Int) × Mem) :=
bnd (f_M_unfolds I) fun x3 J2 =>
bnd (whl (f_M_lettersOf_w10 a1 x3) (0, 0) J2) fun r25 J26 =>
some (r25, J26)
set_option maxRecDepth 20000 in
theorem R_M_lettersOf (Z : ZT) (a1 : Int) (I : Mem) (r : Int) (J : Mem) (hf : f_M_lettersOf a1 I = some (r, J)) : Runs Z yX13_lettersOf cX13_lettersOf 5 (some .int) 3 [vr Z 26 0, vi a1] I (some (vi r), J) := by
  refine Runs.of (rv := fun x => some (vi x)) (by decide +kernel) (Nat.le_of_ble_eq_true rfl) hf (fun gr => ?_)
  unfold f_M_lettersOf
  refine WQ.loc [0, 1] (lv' := [(0, vr Z 26 0), (1, vi a1)]) rfl ?_
  refine wq_iconst dX13_lettersOf_0 ?_
  refine wq_istore_n (lv' := [(2, vi 0), (0, vr Z 26 0), (1, vi a1)]) dX13_lettersOf_1 rfl (by decide) rfl ?_
  refine wq_aload_n dX13_lettersOf_2 1 rfl rfl ?_
  refine wq_cVi M_M_unfolds (R_M_unfolds Z _) ob_26 rfl rfl (by decide) (by decide) (Nat.le_of_ble_eq_true rfl) ln_RX13_140 dX13_lettersOf_3 (fun gr1 x3 J2 => ?_)
  refine wq_istore_n (lv' := [(3, vi x3), (2, vi 0), (0, vr Z 26 0), (1, vi a1)]) dX13_lettersOf_6 rfl (by decide) rfl ?_
  refine wq_iconst dX13_lettersOf_7 ?_
  refine wq_istore (lv' := [(4, vi 0), (3, vi x3), (2, vi 0), (0, vr Z 26 0), (1, vi a1)]) dX13_lettersOf_8 (by decide) rfl ?_
  refine WQ.loc [3, 4, 2, 1, 0] (lv' := [(0, vr Z 26 0), (1, vi a1), (2, vi 0), (3, vi x3), (4, vi 0)]) rfl ?_
  refine wq_loopS (fun s17 => [(0, vr Z 26 0), (1, vi a1), (2, vi s17.1), (3, vi x3), (4, vi s17.2)]) 44 (fun r25 => [(2, vi r25)]) (fun κ11 bk12 ex13 gr16 s17 J15 => ?_) (fun gr27 r25 J26 => ?_) gr1 _ rfl
  · unfold f_M_lettersOf_w10
    refine wq_iload dX13_lettersOf_10 4 rfl ?_
    refine wq_iload_n dX13_lettersOf_12 3 rfl rfl ?_
    refine wq_icmp_ge 44 dX13_lettersOf_13 (by decide) rfl rfl (fun c24 => ?_) (fun c24 => ?_)
    · refine wq_iload_n dX13_lettersOf_16 2 rfl rfl ?_
      refine wq_aload_n dX13_lettersOf_17 0 rfl rfl ?_
      refine g_26_11 ln_RX13_37 dX13_lettersOf_18 ?_
      refine wq_iload dX13_lettersOf_21 4 rfl ?_
      refine wq_grd (fun g18 => ?_)
      refine wq_iald (k := 27) (i := 7) rfl (by decide) rfl rfl (m := 401) g18 (Nat.le_of_ble_eq_true rfl) dX13_lettersOf_23 ?_
      refine wq_iload_n dX13_lettersOf_24 1 rfl rfl ?_
      refine WQ.via 33 [vi (if (w32 (J15 27 7 (w32 s17.2).toNat)) = (w32 a1) then 1 else 0), vi s17.1] (by
          refine wq_cSi M_M_one (R_M_one Z (if (w32 (J15 27 7 (w32 s17.2).toNat)) = (w32 a1) then 1 else 0) _) rfl rfl rfl (by decide) (by decide) (Nat.le_of_ble_eq_true rfl) ln_RX13_115 dX13_lettersOf_33 (fun gr19 x21 J20 => ?_)
          refine wq_iadd dX13_lettersOf_36 ?_
          refine wq_istore_n (lv' := [(2, vi (s17.1 + x21)), (0, vr Z 26 0), (1, vi a1), (3, vi x3), (4, vi s17.2)]) dX13_lettersOf_37 rfl (by decide) rfl ?_
          refine wq_iinc (lv' := [(4, vi (s17.2 + 1)), (2, vi (s17.1 + x21)), (0, vr Z 26 0), (1, vi a1), (3, vi x3)]) dX13_lettersOf_38 4 rfl (by decide) rfl ?_
          refine wq_goto 10 dX13_lettersOf_41 (by decide) ?_
          exact WQ.loc [2, 3, 1, 4, 0] rfl (bk12 _ _ _)) (fun hj22 => ?_)
      refine WQ.both ((w32 (J15 27 7 (w32 s17.2).toNat)) = (w32 a1)) ?_
      refine wq_icmp_ne 32 dX13_lettersOf_25 (by decide) rfl rfl (fun c23 => ?_) (fun c23 => ?_)
      · refine wq_iconst dX13_lettersOf_28 ?_
        refine wq_goto 33 dX13_lettersOf_29 (by decide) ?_
        exact WQ.top (if_pos c23) hj22
      · refine wq_iconst dX13_lettersOf_32 ?_
        exact WQ.top (if_neg c23) hj22
    · exact WQ.loc [2] rfl (ex13 _ _ _)
  · refine wq_iload_n dX13_lettersOf_44 0 rfl rfl ?_
    exact wq_iret rfl rfl dX13_lettersOf_45

noncomputable def f_M_unlike_w9 (v2 : Int) (s : Int × Int) (I : Mem) : Option (((Int × Int) ⊕ (Int)) × Mem) :=
if (w32 s.2) < (w32 v2) then
if 0 ≤ (w32 s.2) ∧ (w32 s.2) < 401 then
some (.inl ((ior s.1 (ish 1 (I 27 7 (w32 s.2).toNat))), (s.2 + 1)), I)
else none
else
some (.inr s.1, I)

noncomputable def f_M_unlike_w36  (s : Int × Int) (I : Mem) : Option (((Int × Int) ⊕ (Int)) × Mem) :=
if (w32 s.2) = 0 then
some (.inr s.1, I)
else
some (.inl ((s.1 + 1), (ian s.2 (s.2 - 1))), I)

noncomputable def f_M_unlike  (I : Mem) : Option ((Int) × Mem) :=
bnd (f_M_unfolds I) fun x3 J2 =>
bnd (whl (f_M_unlike_w9 x3) (0, 0) J2) fun r15 J16 =>
bnd (whl (f_M_unlike_w36) (0, r15) J16) fun r27 J28 =>
some (r27, J28)
set_option maxRecDepth 20000 in
theorem R_M_unlike (Z : ZT)  (I : Mem) (r : Int) (J : Mem) (hf : f_M_unlike I = some (r, J)) : Runs Z yX13_unlike cX13_unlike 5 (some .int) 3 [vr Z 26 0] I (some (vi r), J) := by
  refine Runs.of (rv := fun x => some (vi x)) (by decide +kernel) (Nat.le_of_ble_eq_true rfl) hf (fun gr => ?_)
  unfold f_M_unlike
  refine WQ.loc [0] (lv' := [(0, vr Z 26 0)]) rfl ?_
  refine wq_iconst dX13_unlike_0 ?_
  refine wq_istore_n (lv' := [(1, vi 0), (0, vr Z 26 0)]) dX13_unlike_1 rfl (by decide) rfl ?_
  refine wq_aload_n dX13_unlike_2 1 rfl rfl ?_
  refine wq_cVi M_M_unfolds (R_M_unfolds Z _) ob_26 rfl rfl (by decide) (by decide) (Nat.le_of_ble_eq_true rfl) ln_RX13_140 dX13_unlike_3 (fun gr1 x3 J2 => ?_)
  refine wq_istore_n (lv' := [(2, vi x3), (1, vi 0), (0, vr Z 26 0)]) dX13_unlike_6 rfl (by decide) rfl ?_
  refine wq_iconst dX13_unlike_7 ?_
  refine wq_istore_n (lv' := [(3, vi 0), (2, vi x3), (1, vi 0), (0, vr Z 26 0)]) dX13_unlike_8 rfl (by decide) rfl ?_
  refine WQ.loc [3, 2, 1, 0] (lv' := [(0, vr Z 26 0), (1, vi 0), (2, vi x3), (3, vi 0)]) rfl ?_
  refine wq_loopS (fun s12 => [(0, vr Z 26 0), (1, vi s12.1), (2, vi x3), (3, vi s12.2)]) 31 (fun r15 => [(1, vi r15)]) (fun κ6 bk7 ex8 gr11 s12 J10 => ?_) (fun gr17 r15 J16 => ?_) gr1 _ rfl
  · unfold f_M_unlike_w9
    refine wq_iload_n dX13_unlike_9 3 rfl rfl ?_
    refine wq_iload_n dX13_unlike_10 2 rfl rfl ?_
    refine wq_icmp_ge 31 dX13_unlike_11 (by decide) rfl rfl (fun c14 => ?_) (fun c14 => ?_)
    · refine wq_iload_n dX13_unlike_14 1 rfl rfl ?_
      refine wq_iconst dX13_unlike_15 ?_
      refine wq_aload_n dX13_unlike_16 0 rfl rfl ?_
      refine g_26_11 ln_RX13_37 dX13_unlike_17 ?_
      refine wq_iload_n dX13_unlike_20 3 rfl rfl ?_
      refine wq_grd (fun g13 => ?_)
      refine wq_iald (k := 27) (i := 7) rfl (by decide) rfl rfl (m := 401) g13 (Nat.le_of_ble_eq_true rfl) dX13_unlike_21 ?_
      refine wq_ishl dX13_unlike_22 ?_
      refine wq_ior dX13_unlike_23 ?_
      refine wq_istore_n (lv' := [(1, vi (ior s12.1 (ish 1 (J10 27 7 (w32 s12.2).toNat)))), (0, vr Z 26 0), (2, vi x3), (3, vi s12.2)]) dX13_unlike_24 rfl (by decide) rfl ?_
      refine wq_iinc (lv' := [(3, vi (s12.2 + 1)), (1, vi (ior s12.1 (ish 1 (J10 27 7 (w32 s12.2).toNat)))), (0, vr Z 26 0), (2, vi x3)]) dX13_unlike_25 3 rfl (by decide) rfl ?_
      refine wq_goto 9 dX13_unlike_28 (by decide) ?_
      exact WQ.loc [2, 1, 3, 0] rfl (bk7 _ _ _)
    · exact WQ.loc [1] rfl (ex8 _ _ _)
  · refine wq_iconst dX13_unlike_31 ?_
    refine wq_istore_n (lv' := [(3, vi 0), (1, vi r15)]) dX13_unlike_32 rfl (by decide) rfl ?_
    refine wq_iload_n dX13_unlike_33 1 rfl rfl ?_
    refine wq_istore (lv' := [(4, vi r15), (3, vi 0), (1, vi r15)]) dX13_unlike_34 (by decide) rfl ?_
    refine WQ.loc [1, 0] (lv' := [(3, vi 0), (4, vi r15)]) rfl ?_
    refine wq_loopS (fun s25 => [(3, vi s25.1), (4, vi s25.2)]) 56 (fun r27 => [(3, vi r27)]) (fun κ19 bk20 ex21 gr24 s25 J23 => ?_) (fun gr29 r27 J28 => ?_) gr17 _ rfl
    · unfold f_M_unlike_w36
      refine wq_iload dX13_unlike_36 1 rfl ?_
      refine wq_if_eq 56 dX13_unlike_38 (by decide) rfl (fun c26 => ?_) (fun c26 => ?_)
      · exact WQ.loc [0] rfl (ex21 _ _ _)
      · refine wq_iinc (lv' := [(3, vi (s25.1 + 1)), (4, vi s25.2)]) dX13_unlike_41 0 rfl (by decide) rfl ?_
        refine wq_iload dX13_unlike_44 1 rfl ?_
        refine wq_iload dX13_unlike_46 1 rfl ?_
        refine wq_iconst dX13_unlike_48 ?_
        refine wq_isub dX13_unlike_49 ?_
        refine wq_iand dX13_unlike_50 ?_
        refine wq_istore (lv' := [(4, vi (ian s25.2 (s25.2 - 1))), (3, vi (s25.1 + 1))]) dX13_unlike_51 (by decide) rfl ?_
        refine wq_goto 36 dX13_unlike_53 (by decide) ?_
        exact WQ.loc [1, 0] rfl (bk20 _ _ _)
    · refine wq_iload_n dX13_unlike_56 0 rfl rfl ?_
      exact wq_iret rfl rfl dX13_unlike_57

theorem M_M_worthy : MwV yX13_worthy cX13_worthy 5 (some .int) 1 := ⟨li_9 31 (by decide +kernel) (by decide +kernel), li_9 30 (by decide +kernel) (by decide +kernel), lw_in 121 (by decide +kernel) (by decide +kernel), li_1 16 (by decide +kernel) (by decide +kernel), by decide +kernel⟩
theorem ln_RX13_425 : Cond.methodLink RX13 425 yX13_worthy ∈ lw_good := li_9 28 (by decide +kernel) (by decide +kernel)
noncomputable def f_M_worthNow  (I : Mem) : Option ((Int) × Mem) :=
bnd (f_M_laysPairs I) fun _ J2 =>
bnd (f_M_worthy 0 J2) fun x6 J5 =>
some (x6, J5)
set_option maxRecDepth 20000 in
theorem R_M_worthNow (Z : ZT)  (I : Mem) (r : Int) (J : Mem) (hf : f_M_worthNow I = some (r, J)) : Runs Z yX13_worthNow cX13_worthNow 1 (some .int) 5 [vr Z 26 0] I (some (vi r), J) := by
  refine Runs.of (rv := fun x => some (vi x)) (by decide +kernel) (Nat.le_of_ble_eq_true rfl) hf (fun gr => ?_)
  unfold f_M_worthNow
  refine WQ.loc [0] (lv' := [(0, vr Z 26 0)]) rfl ?_
  refine wq_aload_n dX13_worthNow_0 0 rfl rfl ?_
  refine wq_cVv M_M_laysPairs (R_M_laysPairs Z _) ob_26 rfl rfl (by decide) (by decide) (Nat.le_of_ble_eq_true rfl) ln_RX13_160 dX13_worthNow_1 (fun gr1 _ J2 => ?_)
  refine wq_aload_n dX13_worthNow_4 0 rfl rfl ?_
  refine wq_iconst dX13_worthNow_5 ?_
  refine wq_cVi M_M_worthy (R_M_worthy Z 0 _) ob_26 rfl rfl (by decide) (by decide) (Nat.le_of_ble_eq_true rfl) ln_RX13_425 dX13_worthNow_6 (fun gr4 x6 J5 => ?_)
  exact wq_iret rfl rfl dX13_worthNow_9

theorem M_M_fails : MwV yX13_fails cX13_fails 3 (some .boolean) 2 := ⟨li_9 3 (by decide +kernel) (by decide +kernel), li_9 2 (by decide +kernel) (by decide +kernel), lw_in 114 (by decide +kernel) (by decide +kernel), li_1 16 (by decide +kernel) (by decide +kernel), by decide +kernel⟩
theorem M_M_sizeNow : MwV yX13_sizeNow cX13_sizeNow 3 (some .int) 0 := ⟨li_9 11 (by decide +kernel) (by decide +kernel), li_9 10 (by decide +kernel) (by decide +kernel), lw_in 116 (by decide +kernel) (by decide +kernel), li_1 16 (by decide +kernel) (by decide +kernel), by decide +kernel⟩
theorem ln_RX13_431 : Cond.methodLink RX13 431 yX13_sizeNow ∈ lw_good := li_9 8 (by decide +kernel) (by decide +kernel)
theorem M_M_longestBody : MwV yX13_longestBody cX13_longestBody 3 (some .int) 0 := ⟨li_9 15 (by decide +kernel) (by decide +kernel), li_9 14 (by decide +kernel) (by decide +kernel), lw_in 117 (by decide +kernel) (by decide +kernel), li_1 16 (by decide +kernel) (by decide +kernel), by decide +kernel⟩
theorem ln_RX13_434 : Cond.methodLink RX13 434 yX13_longestBody ∈ lw_good := li_9 12 (by decide +kernel) (by decide +kernel)
theorem M_M_deepNow : MwV yX13_deepNow cX13_deepNow 2 (some .int) 0 := ⟨li_9 19 (by decide +kernel) (by decide +kernel), li_9 18 (by decide +kernel) (by decide +kernel), lw_in 118 (by decide +kernel) (by decide +kernel), li_1 16 (by decide +kernel) (by decide +kernel), by decide +kernel⟩
theorem ln_RX13_437 : Cond.methodLink RX13 437 yX13_deepNow ∈ lw_good := li_9 16 (by decide +kernel) (by decide +kernel)
theorem M_M_unlike : MwV yX13_unlike cX13_unlike 5 (some .int) 0 := ⟨li_9 23 (by decide +kernel) (by decide +kernel), li_9 22 (by decide +kernel) (by decide +kernel), lw_in 119 (by decide +kernel) (by decide +kernel), li_1 16 (by decide +kernel) (by decide +kernel), by decide +kernel⟩
theorem ln_RX13_440 : Cond.methodLink RX13 440 yX13_unlike ∈ lw_good := li_9 20 (by decide +kernel) (by decide +kernel)
theorem M_M_worthNow : MwV yX13_worthNow cX13_worthNow 1 (some .int) 0 := ⟨li_9 27 (by decide +kernel) (by decide +kernel), li_9 26 (by decide +kernel) (by decide +kernel), lw_in 120 (by decide +kernel) (by decide +kernel), li_1 16 (by decide +kernel) (by decide +kernel), by decide +kernel⟩
theorem ln_RX13_443 : Cond.methodLink RX13 443 yX13_worthNow ∈ lw_good := li_9 24 (by decide +kernel) (by decide +kernel)
theorem ln_RX13_428 : Cond.methodLink RX13 428 yX13_fails ∈ lw_good := li_9 0 (by decide +kernel) (by decide +kernel)
noncomputable def f_M_size (a1 : Int) (I : Mem) : Option ((Int) × Mem) :=
ltI (sI I 26 0 7 0) fun J1 =>
bnd (f_M_in a1 0 11 J1) fun x4 J3 =>
bnd (f_M_fails (if (w32 x4) = 0 then 1 else 0) 1 J3) fun x7 J6 =>
if (w32 x7) = 0 then
if (w32 a1) = 0 then
bnd (f_M_textLong J6) fun x10 J9 =>
some (x10, J9)
else if (w32 a1) = 1 then
bnd (f_M_many 0 J6) fun x14 J13 =>
some (x14, J13)
else if (w32 a1) = 2 then
bnd (f_M_rules J6) fun x18 J17 =>
some (x18, J17)
else if (w32 a1) = 3 then
bnd (f_M_sizeNow J6) fun x22 J21 =>
some (x22, J21)
else if (w32 a1) = 4 then
if 0 ≤ (w32 (a1 - 4)) ∧ (w32 (a1 - 4)) < 16860 then
some ((J6 27 0 (w32 (a1 - 4)).toNat), J6)
else none
else if (w32 a1) = 5 then
if 0 ≤ (w32 (a1 - 4)) ∧ (w32 (a1 - 4)) < 16860 then
some ((J6 27 0 (w32 (a1 - 4)).toNat), J6)
else none
else if (w32 a1) = 6 then
if 0 ≤ (w32 (a1 - 4)) ∧ (w32 (a1 - 4)) < 16860 then
some ((J6 27 0 (w32 (a1 - 4)).toNat), J6)
else none
else if (w32 a1) = 7 then
bnd (f_M_longestBody J6) fun x32 J31 =>
some (x32, J31)
else if (w32 a1) = 8 then
bnd (f_M_deepNow J6) fun x36 J35 =>
some (x36, J35)
else if (w32 a1) = 9 then
bnd (f_M_unlike J6) fun x40 J39 =>
some (x40, J39)
else if (w32 a1) = 10 then
bnd (f_M_worthNow J6) fun x44 J43 =>
some (x44, J43)
else if (w32 a1) = 11 then
some ((J6 26 0 6), J6)
else if 0 ≤ (w32 (a1 - 4)) ∧ (w32 (a1 - 4)) < 16860 then
some ((J6 27 0 (w32 (a1 - 4)).toNat), J6)
else none
else
some (0, J6)
set_option maxRecDepth 20000 in
theorem R_M_size (Z : ZT) (a1 : Int) (I : Mem) (r : Int) (J : Mem) (hf : f_M_size a1 I = some (r, J)) : Runs Z yX13_size cX13_size 2 (some .int) 6 [vr Z 26 0, vi a1] I (some (vi r), J) := by
  refine Runs.of (rv := fun x => some (vi x)) (by decide +kernel) (Nat.le_of_ble_eq_true rfl) hf (fun gr => ?_)
  unfold f_M_size
  refine WQ.loc [0, 1] (lv' := [(0, vr Z 26 0), (1, vi a1)]) rfl ?_
  refine wq_aload_n dX13_size_0 0 rfl rfl ?_
  refine wq_iconst dX13_size_1 ?_
  refine p_26_7 ln_RX13_100 dX13_size_2 (fun J1 => ?_)
  refine wq_aload_n dX13_size_5 0 rfl rfl ?_
  refine wq_iload_n dX13_size_6 1 rfl rfl ?_
  refine wq_iconst dX13_size_7 ?_
  refine wq_bipush dX13_size_8 (by decide) ?_
  refine wq_cSi M_M_in (R_M_in Z a1 0 11 _) rfl rfl rfl (by decide) (by decide) (Nat.le_of_ble_eq_true rfl) ln_RX13_224 dX13_size_10 (fun gr2 x4 J3 => ?_)
  refine WQ.via 21 [vi (if (w32 x4) = 0 then 1 else 0), vr Z 26 0] (by
      refine wq_iconst dX13_size_21 ?_
      refine wq_cVi M_M_fails (R_M_fails Z (if (w32 x4) = 0 then 1 else 0) 1 _) ob_26 rfl rfl (by decide) (by decide) (Nat.le_of_ble_eq_true rfl) ln_RX13_428 dX13_size_22 (fun gr5 x7 J6 => ?_)
      refine wq_if_eq 30 dX13_size_25 (by decide) rfl (fun c48 => ?_) (fun c48 => ?_)
      · refine wq_iload_n dX13_size_30 1 rfl rfl ?_
        refine WQ.split (fun c11 => ?_) (fun c11 => ?_)
        · refine wq_tin (n := 0) 92 dX13_size_31 rfl c11 (by decide) (by decide) rfl (by decide) ?_
          refine wq_aload_n dX13_size_92 0 rfl rfl ?_
          refine wq_cVi M_M_textLong (R_M_textLong Z _) ob_26 rfl rfl (by decide) (by decide) (Nat.le_of_ble_eq_true rfl) ln_RX13_422 dX13_size_93 (fun gr8 x10 J9 => ?_)
          exact wq_iret rfl rfl dX13_size_96
        · skip
          refine WQ.split (fun c15 => ?_) (fun c15 => ?_)
          · refine wq_tin (n := 1) 97 dX13_size_31 rfl c15 (by decide) (by decide) rfl (by decide) ?_
            refine wq_aload_n dX13_size_97 0 rfl rfl ?_
            refine wq_iconst dX13_size_98 ?_
            refine wq_cVi M_M_many (R_M_many Z 0 _) ob_26 rfl rfl (by decide) (by decide) (Nat.le_of_ble_eq_true rfl) ln_RX13_103 dX13_size_99 (fun gr12 x14 J13 => ?_)
            exact wq_iret rfl rfl dX13_size_102
          · skip
            refine WQ.split (fun c19 => ?_) (fun c19 => ?_)
            · refine wq_tin (n := 2) 103 dX13_size_31 rfl c19 (by decide) (by decide) rfl (by decide) ?_
              refine wq_aload_n dX13_size_103 0 rfl rfl ?_
              refine wq_cVi M_M_rules (R_M_rules Z _) ob_26 rfl rfl (by decide) (by decide) (Nat.le_of_ble_eq_true rfl) ln_RX13_144 dX13_size_104 (fun gr16 x18 J17 => ?_)
              exact wq_iret rfl rfl dX13_size_107
            · skip
              refine WQ.split (fun c23 => ?_) (fun c23 => ?_)
              · refine wq_tin (n := 3) 108 dX13_size_31 rfl c23 (by decide) (by decide) rfl (by decide) ?_
                refine wq_aload_n dX13_size_108 0 rfl rfl ?_
                refine wq_cVi M_M_sizeNow (R_M_sizeNow Z _) ob_26 rfl rfl (by decide) (by decide) (Nat.le_of_ble_eq_true rfl) ln_RX13_431 dX13_size_109 (fun gr20 x22 J21 => ?_)
                exact wq_iret rfl rfl dX13_size_112
              · skip
                refine WQ.split (fun c25 => ?_) (fun c25 => ?_)
                · refine wq_tin (n := 4) 138 dX13_size_31 rfl c25 (by decide) (by decide) rfl (by decide) ?_
                  refine wq_aload_n dX13_size_138 0 rfl rfl ?_
                  refine g_26_0 ln_RX13_9 dX13_size_139 ?_
                  refine wq_iload_n dX13_size_142 1 rfl rfl ?_
                  refine wq_iconst dX13_size_143 ?_
                  refine wq_isub dX13_size_144 ?_
                  refine wq_grd (fun g24 => ?_)
                  refine wq_iald (k := 27) (i := 0) rfl (by decide) rfl rfl (m := 16860) g24 (Nat.le_of_ble_eq_true rfl) dX13_size_145 ?_
                  exact wq_iret rfl rfl dX13_size_146
                · skip
                  refine WQ.split (fun c27 => ?_) (fun c27 => ?_)
                  · refine wq_tin (n := 5) 138 dX13_size_31 rfl c27 (by decide) (by decide) rfl (by decide) ?_
                    refine wq_aload_n dX13_size_138 0 rfl rfl ?_
                    refine g_26_0 ln_RX13_9 dX13_size_139 ?_
                    refine wq_iload_n dX13_size_142 1 rfl rfl ?_
                    refine wq_iconst dX13_size_143 ?_
                    refine wq_isub dX13_size_144 ?_
                    refine wq_grd (fun g26 => ?_)
                    refine wq_iald (k := 27) (i := 0) rfl (by decide) rfl rfl (m := 16860) g26 (Nat.le_of_ble_eq_true rfl) dX13_size_145 ?_
                    exact wq_iret rfl rfl dX13_size_146
                  · skip
                    refine WQ.split (fun c29 => ?_) (fun c29 => ?_)
                    · refine wq_tin (n := 6) 138 dX13_size_31 rfl c29 (by decide) (by decide) rfl (by decide) ?_
                      refine wq_aload_n dX13_size_138 0 rfl rfl ?_
                      refine g_26_0 ln_RX13_9 dX13_size_139 ?_
                      refine wq_iload_n dX13_size_142 1 rfl rfl ?_
                      refine wq_iconst dX13_size_143 ?_
                      refine wq_isub dX13_size_144 ?_
                      refine wq_grd (fun g28 => ?_)
                      refine wq_iald (k := 27) (i := 0) rfl (by decide) rfl rfl (m := 16860) g28 (Nat.le_of_ble_eq_true rfl) dX13_size_145 ?_
                      exact wq_iret rfl rfl dX13_size_146
                    · skip
                      refine WQ.split (fun c33 => ?_) (fun c33 => ?_)
                      · refine wq_tin (n := 7) 113 dX13_size_31 rfl c33 (by decide) (by decide) rfl (by decide) ?_
                        refine wq_aload_n dX13_size_113 0 rfl rfl ?_
                        refine wq_cVi M_M_longestBody (R_M_longestBody Z _) ob_26 rfl rfl (by decide) (by decide) (Nat.le_of_ble_eq_true rfl) ln_RX13_434 dX13_size_114 (fun gr30 x32 J31 => ?_)
                        exact wq_iret rfl rfl dX13_size_117
                      · skip
                        refine WQ.split (fun c37 => ?_) (fun c37 => ?_)
                        · refine wq_tin (n := 8) 118 dX13_size_31 rfl c37 (by decide) (by decide) rfl (by decide) ?_
                          refine wq_aload_n dX13_size_118 0 rfl rfl ?_
                          refine wq_cVi M_M_deepNow (R_M_deepNow Z _) ob_26 rfl rfl (by decide) (by decide) (Nat.le_of_ble_eq_true rfl) ln_RX13_437 dX13_size_119 (fun gr34 x36 J35 => ?_)
                          exact wq_iret rfl rfl dX13_size_122
                        · skip
                          refine WQ.split (fun c41 => ?_) (fun c41 => ?_)
                          · refine wq_tin (n := 9) 123 dX13_size_31 rfl c41 (by decide) (by decide) rfl (by decide) ?_
                            refine wq_aload_n dX13_size_123 0 rfl rfl ?_
                            refine wq_cVi M_M_unlike (R_M_unlike Z _) ob_26 rfl rfl (by decide) (by decide) (Nat.le_of_ble_eq_true rfl) ln_RX13_440 dX13_size_124 (fun gr38 x40 J39 => ?_)
                            exact wq_iret rfl rfl dX13_size_127
                          · skip
                            refine WQ.split (fun c45 => ?_) (fun c45 => ?_)
                            · refine wq_tin (n := 10) 128 dX13_size_31 rfl c45 (by decide) (by decide) rfl (by decide) ?_
                              refine wq_aload_n dX13_size_128 0 rfl rfl ?_
                              refine wq_cVi M_M_worthNow (R_M_worthNow Z _) ob_26 rfl rfl (by decide) (by decide) (Nat.le_of_ble_eq_true rfl) ln_RX13_443 dX13_size_129 (fun gr42 x44 J43 => ?_)
                              exact wq_iret rfl rfl dX13_size_132
                            · skip
                              refine WQ.split (fun c46 => ?_) (fun c46 => ?_)
                              · refine wq_tin (n := 11) 133 dX13_size_31 rfl c46 (by decide) (by decide) rfl (by decide) ?_
                                refine wq_aload_n dX13_size_133 0 rfl rfl ?_
                                refine g_26_6 ln_RX13_342 dX13_size_134 ?_
                                exact wq_iret rfl rfl dX13_size_137
                              · skip
                                refine wq_tout 138 dX13_size_31 rfl (by omega) (by decide) ?_
                                refine wq_aload_n dX13_size_138 0 rfl rfl ?_
                                refine g_26_0 ln_RX13_9 dX13_size_139 ?_
                                refine wq_iload_n dX13_size_142 1 rfl rfl ?_
                                refine wq_iconst dX13_size_143 ?_
                                refine wq_isub dX13_size_144 ?_
                                refine wq_grd (fun g47 => ?_)
                                refine wq_iald (k := 27) (i := 0) rfl (by decide) rfl rfl (m := 16860) g47 (Nat.le_of_ble_eq_true rfl) dX13_size_145 ?_
                                exact wq_iret rfl rfl dX13_size_146
      · refine wq_iconst dX13_size_28 ?_
        exact wq_iret rfl rfl dX13_size_29) (fun hj49 => ?_)
  refine WQ.both ((w32 x4) = 0) ?_
  refine wq_if_ne 20 dX13_size_13 (by decide) rfl (fun c50 => ?_) (fun c50 => ?_)
  · refine wq_iconst dX13_size_16 ?_
    refine wq_goto 21 dX13_size_17 (by decide) ?_
    exact WQ.top (if_pos c50) hj49
  · refine wq_iconst dX13_size_20 ?_
    exact WQ.top (if_neg c50) hj49

noncomputable def f_M_noRule (a1 : Int) (I : Mem) : Option ((Int) × Mem) :=
bnd (f_M_in a1 0 39 I) fun x3 J2 =>
bnd (f_M_fails (if (w32 x3) = 0 then 1 else 0) 1 J2) fun x6 J5 =>
if x6 = 0 ∨ x6 = 1 then
some (x6, J5)
else none
set_option maxRecDepth 20000 in
theorem R_M_noRule (Z : ZT) (a1 : Int) (I : Mem) (r : Int) (J : Mem) (hf : f_M_noRule a1 I = some (r, J)) : Runs Z yX13_noRule cX13_noRule 2 (some .boolean) 2 [vr Z 26 0, vi a1] I (some (vi r), J) := by
  refine Runs.of (rv := fun x => some (vi x)) (by decide +kernel) (Nat.le_of_ble_eq_true rfl) hf (fun gr => ?_)
  unfold f_M_noRule
  refine WQ.loc [0, 1] (lv' := [(0, vr Z 26 0), (1, vi a1)]) rfl ?_
  refine wq_aload_n dX13_noRule_0 0 rfl rfl ?_
  refine wq_iload_n dX13_noRule_1 1 rfl rfl ?_
  refine wq_iconst dX13_noRule_2 ?_
  refine wq_bipush dX13_noRule_3 (by decide) ?_
  refine wq_cSi M_M_in (R_M_in Z a1 0 39 _) rfl rfl rfl (by decide) (by decide) (Nat.le_of_ble_eq_true rfl) ln_RX13_224 dX13_noRule_5 (fun gr1 x3 J2 => ?_)
  refine WQ.via 16 [vi (if (w32 x3) = 0 then 1 else 0), vr Z 26 0] (by
      refine wq_iconst dX13_noRule_16 ?_
      refine wq_cVi M_M_fails (R_M_fails Z (if (w32 x3) = 0 then 1 else 0) 1 _) ob_26 rfl rfl (by decide) (by decide) (Nat.le_of_ble_eq_true rfl) ln_RX13_428 dX13_noRule_17 (fun gr4 x6 J5 => ?_)
      refine wq_grd (fun g7 => ?_)
      exact wq_zret rfl g7 rfl dX13_noRule_20) (fun hj8 => ?_)
  refine WQ.both ((w32 x3) = 0) ?_
  refine wq_if_ne 15 dX13_noRule_8 (by decide) rfl (fun c9 => ?_) (fun c9 => ?_)
  · refine wq_iconst dX13_noRule_11 ?_
    refine wq_goto 16 dX13_noRule_12 (by decide) ?_
    exact WQ.top (if_pos c9) hj8
  · refine wq_iconst dX13_noRule_15 ?_
    exact WQ.top (if_neg c9) hj8

noncomputable def f_M_noSuchRule_j19    (I : Mem) : Option ((Int) × Mem) :=
bnd (f_M_fails 1 1 I) fun x16 J15 =>
if x16 = 0 ∨ x16 = 1 then
some (x16, J15)
else none

noncomputable def f_M_noSuchRule (a1 : Int) (I : Mem) : Option ((Int) × Mem) :=
bnd (f_M_in a1 0 39 I) fun x3 J2 =>
if (w32 x3) = 0 then
f_M_noSuchRule_j19 J2
else
bnd (f_M_isHere a1 J2) fun x7 J6 =>
if (w32 x7) = 0 then
f_M_noSuchRule_j19 J6
else
bnd (f_M_fails 0 1 J6) fun x10 J9 =>
if x10 = 0 ∨ x10 = 1 then
some (x10, J9)
else none
set_option maxRecDepth 20000 in
theorem R_M_noSuchRule (Z : ZT) (a1 : Int) (I : Mem) (r : Int) (J : Mem) (hf : f_M_noSuchRule a1 I = some (r, J)) : Runs Z yX13_noSuchRule cX13_noSuchRule 2 (some .boolean) 3 [vr Z 26 0, vi a1] I (some (vi r), J) := by
  refine Runs.of (rv := fun x => some (vi x)) (by decide +kernel) (Nat.le_of_ble_eq_true rfl) hf (fun gr => ?_)
  unfold f_M_noSuchRule
  refine WQ.loc [0, 1] (lv' := [(0, vr Z 26 0), (1, vi a1)]) rfl ?_
  refine wq_aload_n dX13_noSuchRule_0 0 rfl rfl ?_
  refine wq_iload_n dX13_noSuchRule_1 1 rfl rfl ?_
  refine wq_iconst dX13_noSuchRule_2 ?_
  refine wq_bipush dX13_noSuchRule_3 (by decide) ?_
  refine wq_cSi M_M_in (R_M_in Z a1 0 39 _) rfl rfl rfl (by decide) (by decide) (Nat.le_of_ble_eq_true rfl) ln_RX13_224 dX13_noSuchRule_5 (fun gr1 x3 J2 => ?_)
  have hj4 : ∀ (gr19 : Nat → Nat)   (J18 : Mem), WQ Z (yX13_noSuchRule, cX13_noSuchRule, 2, some .boolean, 3) I gr19 19 [] [vr Z 26 0] J18 (f_M_noSuchRule_j19 J18) (fun b K => some (.inl ((fun x => some (vi x)) b), K)) := by
    intro gr19 J18
    unfold f_M_noSuchRule_j19
    refine wq_iconst dX13_noSuchRule_19 ?_
    refine wq_goto 24 dX13_noSuchRule_20 (by decide) ?_
    refine wq_iconst dX13_noSuchRule_24 ?_
    refine wq_cVi M_M_fails (R_M_fails Z 1 1 _) ob_26 rfl rfl (by decide) (by decide) (Nat.le_of_ble_eq_true rfl) ln_RX13_428 dX13_noSuchRule_25 (fun gr20 x22 J21 => ?_)
    refine wq_grd (fun g23 => ?_)
    exact wq_zret rfl g23 rfl dX13_noSuchRule_28
  refine wq_if_eq 19 dX13_noSuchRule_8 (by decide) rfl (fun c13 => ?_) (fun c13 => ?_)
  · exact WQ.loc [] rfl (hj4 _   _)
  · refine wq_aload_n dX13_noSuchRule_11 0 rfl rfl ?_
    refine wq_iload_n dX13_noSuchRule_12 1 rfl rfl ?_
    refine wq_cVi M_M_isHere (R_M_isHere Z a1 _) ob_26 rfl rfl (by decide) (by decide) (Nat.le_of_ble_eq_true rfl) ln_RX13_111 dX13_noSuchRule_13 (fun gr5 x7 J6 => ?_)
    refine wq_if_ne 23 dX13_noSuchRule_16 (by decide) rfl (fun c12 => ?_) (fun c12 => ?_)
    · exact WQ.loc [] rfl (hj4 _   _)
    · refine wq_iconst dX13_noSuchRule_23 ?_
      refine wq_iconst dX13_noSuchRule_24 ?_
      refine wq_cVi M_M_fails (R_M_fails Z 0 1 _) ob_26 rfl rfl (by decide) (by decide) (Nat.le_of_ble_eq_true rfl) ln_RX13_428 dX13_noSuchRule_25 (fun gr8 x10 J9 => ?_)
      refine wq_grd (fun g11 => ?_)
      exact wq_zret rfl g11 rfl dX13_noSuchRule_28

theorem M_M_noRule : MwV yX13_noRule cX13_noRule 2 (some .boolean) 1 := ⟨li_9 39 (by decide +kernel) (by decide +kernel), li_9 38 (by decide +kernel) (by decide +kernel), lw_in 122 (by decide +kernel) (by decide +kernel), li_1 16 (by decide +kernel) (by decide +kernel), by decide +kernel⟩
theorem ln_RX13_446 : Cond.methodLink RX13 446 yX13_noRule ∈ lw_good := li_9 36 (by decide +kernel) (by decide +kernel)
noncomputable def f_M_isRule (a1 : Int) (I : Mem) : Option ((Int) × Mem) :=
ltI (sI I 26 0 7 0) fun J1 =>
bnd (f_M_noRule a1 J1) fun x4 J3 =>
if (w32 x4) = 0 then
bnd (f_M_isHere a1 J3) fun x7 J6 =>
if (w32 x7) = 0 then
some (0, J6)
else
some (1, J6)
else
some (0, J3)
set_option maxRecDepth 20000 in
theorem R_M_isRule (Z : ZT) (a1 : Int) (I : Mem) (r : Int) (J : Mem) (hf : f_M_isRule a1 I = some (r, J)) : Runs Z yX13_isRule cX13_isRule 2 (some .boolean) 3 [vr Z 26 0, vi a1] I (some (vi r), J) := by
  refine Runs.of (rv := fun x => some (vi x)) (by decide +kernel) (Nat.le_of_ble_eq_true rfl) hf (fun gr => ?_)
  unfold f_M_isRule
  refine WQ.loc [0, 1] (lv' := [(0, vr Z 26 0), (1, vi a1)]) rfl ?_
  refine wq_aload_n dX13_isRule_0 0 rfl rfl ?_
  refine wq_iconst dX13_isRule_1 ?_
  refine p_26_7 ln_RX13_100 dX13_isRule_2 (fun J1 => ?_)
  refine wq_aload_n dX13_isRule_5 0 rfl rfl ?_
  refine wq_iload_n dX13_isRule_6 1 rfl rfl ?_
  refine wq_cVi M_M_noRule (R_M_noRule Z a1 _) ob_26 rfl rfl (by decide) (by decide) (Nat.le_of_ble_eq_true rfl) ln_RX13_446 dX13_isRule_7 (fun gr2 x4 J3 => ?_)
  refine wq_if_ne 25 dX13_isRule_10 (by decide) rfl (fun c9 => ?_) (fun c9 => ?_)
  · refine wq_aload_n dX13_isRule_13 0 rfl rfl ?_
    refine wq_iload_n dX13_isRule_14 1 rfl rfl ?_
    refine wq_cVi M_M_isHere (R_M_isHere Z a1 _) ob_26 rfl rfl (by decide) (by decide) (Nat.le_of_ble_eq_true rfl) ln_RX13_111 dX13_isRule_15 (fun gr5 x7 J6 => ?_)
    refine wq_if_eq 25 dX13_isRule_18 (by decide) rfl (fun c8 => ?_) (fun c8 => ?_)
    · refine wq_iconst dX13_isRule_25 ?_
      exact wq_zret rfl (by decide) rfl dX13_isRule_26
    · refine wq_iconst dX13_isRule_21 ?_
      refine wq_goto 26 dX13_isRule_22 (by decide) ?_
      exact wq_zret rfl (by decide) rfl dX13_isRule_26
  · refine wq_iconst dX13_isRule_25 ?_
    exact wq_zret rfl (by decide) rfl dX13_isRule_26

theorem ln_RX13_83 : Cond.fieldLink RX13 83 RX13 "comes" "[I" ∈ lw_good := li_7 95 (by decide +kernel) (by decide +kernel)
noncomputable def f_M_comesBy_w2 (v1 : Int) (v2 : Int) (s : Int) (I : Mem) : Option (((Int) ⊕ (Unit)) × Mem) :=
bnd (f_M_many v1 I) fun x3 J2 =>
if (w32 s) < (w32 x3) then
bnd (f_M_at v1 s J2) fun x6 J5 =>
if 0 ≤ (w32 x6) ∧ (w32 x6) < 66 then
ltI (sI J5 27 21 (w32 x6).toNat ((J5 27 21 (w32 x6).toNat) + v2)) fun J8 =>
some (.inl (s + 1), J8)
else none
else
some (.inr (), J2)

noncomputable def f_M_comesBy (a1 : Int) (a2 : Int) (I : Mem) : Option ((Unit) × Mem) :=
bnd (whl (f_M_comesBy_w2 a1 a2) 0 I) fun r26 J27 =>
some ((), J27)
set_option maxRecDepth 20000 in
theorem R_M_comesBy (Z : ZT) (a1 : Int) (a2 : Int) (I : Mem) (r : Unit) (J : Mem) (hf : f_M_comesBy a1 a2 I = some (r, J)) : Runs Z yX13_comesBy cX13_comesBy 4 (none) 2 [vr Z 26 0, vi a1, vi a2] I (none, J) := by
  refine Runs.of (rv := fun _ => none) (by decide +kernel) (Nat.le_of_ble_eq_true rfl) hf (fun gr => ?_)
  unfold f_M_comesBy
  refine WQ.loc [0, 1, 2] (lv' := [(0, vr Z 26 0), (1, vi a1), (2, vi a2)]) rfl ?_
  refine wq_iconst dX13_comesBy_0 ?_
  refine wq_istore_n (lv' := [(3, vi 0), (0, vr Z 26 0), (1, vi a1), (2, vi a2)]) dX13_comesBy_1 rfl (by decide) rfl ?_
  refine WQ.loc [1, 2, 3, 0] (lv' := [(0, vr Z 26 0), (1, vi a1), (2, vi a2), (3, vi 0)]) rfl ?_
  refine wq_loopS (fun s16 => [(0, vr Z 26 0), (1, vi a1), (2, vi a2), (3, vi s16)]) 32 (fun _ => []) (fun κ10 bk11 ex12 gr15 s16 J14 => ?_) (fun gr28 r26 J27 => ?_) gr _ rfl
  · unfold f_M_comesBy_w2
    refine wq_iload_n dX13_comesBy_2 3 rfl rfl ?_
    refine wq_aload_n dX13_comesBy_3 0 rfl rfl ?_
    refine wq_iload_n dX13_comesBy_4 1 rfl rfl ?_
    refine wq_cVi M_M_many (R_M_many Z a1 _) ob_26 rfl rfl (by decide) (by decide) (Nat.le_of_ble_eq_true rfl) ln_RX13_103 dX13_comesBy_5 (fun gr17 x19 J18 => ?_)
    refine wq_icmp_ge 32 dX13_comesBy_8 (by decide) rfl rfl (fun c25 => ?_) (fun c25 => ?_)
    · refine wq_aload_n dX13_comesBy_11 0 rfl rfl ?_
      refine g_26_41 ln_RX13_83 dX13_comesBy_12 ?_
      refine wq_aload_n dX13_comesBy_15 0 rfl rfl ?_
      refine wq_iload_n dX13_comesBy_16 1 rfl rfl ?_
      refine wq_iload_n dX13_comesBy_17 3 rfl rfl ?_
      refine wq_cVi M_M_at (R_M_at Z a1 s16 _) ob_26 rfl rfl (by decide) (by decide) (Nat.le_of_ble_eq_true rfl) ln_RX13_119 dX13_comesBy_18 (fun gr20 x22 J21 => ?_)
      refine wq_dup2 dX13_comesBy_21 rfl rfl ?_
      refine wq_grd (fun g23 => ?_)
      refine wq_iald (k := 27) (i := 21) rfl (by decide) rfl rfl (m := 66) g23 (Nat.le_of_ble_eq_true rfl) dX13_comesBy_22 ?_
      refine wq_iload_n dX13_comesBy_23 2 rfl rfl ?_
      refine wq_iadd dX13_comesBy_24 ?_
      refine wq_iast (k := 27) (i := 21) (fun _ _ => rfl) (by decide) rfl rfl (m := 66) g23 (Nat.le_of_ble_eq_true rfl) (by decide) (by decide) (by decide) dX13_comesBy_25 (fun J24 => ?_)
      refine wq_iinc (lv' := [(3, vi (s16 + 1)), (0, vr Z 26 0), (1, vi a1), (2, vi a2)]) dX13_comesBy_26 3 rfl (by decide) rfl ?_
      refine wq_goto 2 dX13_comesBy_29 (by decide) ?_
      exact WQ.loc [1, 2, 3, 0] rfl (bk11 _ _ _)
    · exact WQ.loc [] rfl (ex12 _ _ _)
  · exact wq_vret rfl rfl dX13_comesBy_32
end
section
theorem M_M_comesBy : MwV yX13_comesBy cX13_comesBy 4 (none) 2 := ⟨li_9 55 (by decide +kernel) (by decide +kernel), li_9 54 (by decide +kernel) (by decide +kernel), lw_in 125 (by decide +kernel) (by decide +kernel), li_1 16 (by decide +kernel) (by decide +kernel), by decide +kernel⟩
theorem ln_RX13_449 : Cond.methodLink RX13 449 yX13_comesBy ∈ lw_good := li_9 52 (by decide +kernel) (by decide +kernel)
noncomputable def f_M_comesOf_w6 (v1 : Int) (s : Int) (I : Mem) : Option (((Int) ⊕ (Unit)) × Mem) :=
if (w32 s) < 66 then
if 0 ≤ (w32 s) ∧ (w32 s) < 66 then
ltI (sI I 27 21 (w32 s).toNat 0) fun J5 =>
some (.inl (s + 1), J5)
else none
else
some (.inr (), I)

noncomputable def f_M_comesOf_w40 (v1 : Int) (v2 : Int) (s : Int) (I : Mem) : Option (((Int) ⊕ (Unit)) × Mem) :=
if (w32 s) < 40 then
bnd (f_M_isHere s I) fun x25 J24 =>
if (w32 x25) = 0 then
some (.inl (s + 1), J24)
else
if 0 ≤ (w32 (26 + s)) ∧ (w32 (26 + s)) < 66 then
if (w32 (J24 27 6 (w32 (26 + s)).toNat)) = (w32 v2) then
bnd (f_M_comesBy (s + 1) (J24 27 21 (w32 (26 + s)).toNat) J24) fun _ J28 =>
some (.inl (s + 1), J28)
else
some (.inl (s + 1), J24)
else none
else
some (.inr (), I)

noncomputable def f_M_comesOf_w34 (v1 : Int) (s : Int) (I : Mem) : Option (((Int) ⊕ (Unit)) × Mem) :=
if 0 < (w32 s) then
bnd (whl (f_M_comesOf_w40 v1 s) 0 I) fun r50 J51 =>
some (.inl (s + (-1)), J51)
else
some (.inr (), I)

noncomputable def f_M_comesOf (a1 : Int) (I : Mem) : Option ((Int) × Mem) :=
bnd (f_M_laysLengths I) fun _ J2 =>
bnd (whl (f_M_comesOf_w6 a1) 0 J2) fun r17 J18 =>
bnd (f_M_comesBy 0 1 J18) fun _ J21 =>
bnd (whl (f_M_comesOf_w34 a1) 40 J21) fun r82 J83 =>
if 0 ≤ (w32 a1) ∧ (w32 a1) < 66 then
some ((J83 27 21 (w32 a1).toNat), J83)
else none
set_option maxRecDepth 20000 in
theorem R_M_comesOf (Z : ZT) (a1 : Int) (I : Mem) (r : Int) (J : Mem) (hf : f_M_comesOf a1 I = some (r, J)) : Runs Z yX13_comesOf cX13_comesOf 4 (some .int) 4 [vr Z 26 0, vi a1] I (some (vi r), J) := by
  refine Runs.of (rv := fun x => some (vi x)) (by decide +kernel) (Nat.le_of_ble_eq_true rfl) hf (fun gr => ?_)
  unfold f_M_comesOf
  refine WQ.loc [0, 1] (lv' := [(0, vr Z 26 0), (1, vi a1)]) rfl ?_
  refine wq_aload_n dX13_comesOf_0 0 rfl rfl ?_
  refine wq_cVv M_M_laysLengths (R_M_laysLengths Z _) ob_26 rfl rfl (by decide) (by decide) (Nat.le_of_ble_eq_true rfl) ln_RX13_137 dX13_comesOf_1 (fun gr1 _ J2 => ?_)
  refine wq_iconst dX13_comesOf_4 ?_
  refine wq_istore_n (lv' := [(2, vi 0), (0, vr Z 26 0), (1, vi a1)]) dX13_comesOf_5 rfl (by decide) rfl ?_
  refine WQ.loc [1, 2, 0] (lv' := [(0, vr Z 26 0), (1, vi a1), (2, vi 0)]) rfl ?_
  refine wq_loopS (fun s13 => [(0, vr Z 26 0), (1, vi a1), (2, vi s13)]) 25 (fun _ => [(0, vr Z 26 0), (1, vi a1)]) (fun κ7 bk8 ex9 gr12 s13 J11 => ?_) (fun gr19 r17 J18 => ?_) gr1 _ rfl
  · unfold f_M_comesOf_w6
    refine wq_iload_n dX13_comesOf_6 2 rfl rfl ?_
    refine wq_bipush dX13_comesOf_7 (by decide) ?_
    refine wq_icmp_ge 25 dX13_comesOf_9 (by decide) rfl rfl (fun c16 => ?_) (fun c16 => ?_)
    · refine wq_aload_n dX13_comesOf_12 0 rfl rfl ?_
      refine g_26_41 ln_RX13_83 dX13_comesOf_13 ?_
      refine wq_iload_n dX13_comesOf_16 2 rfl rfl ?_
      refine wq_iconst dX13_comesOf_17 ?_
      refine wq_grd (fun g14 => ?_)
      refine wq_iast (k := 27) (i := 21) (fun _ _ => rfl) (by decide) rfl rfl (m := 66) g14 (Nat.le_of_ble_eq_true rfl) (by decide) (by decide) (by decide) dX13_comesOf_18 (fun J15 => ?_)
      refine wq_iinc (lv' := [(2, vi (s13 + 1)), (0, vr Z 26 0), (1, vi a1)]) dX13_comesOf_19 2 rfl (by decide) rfl ?_
      refine wq_goto 6 dX13_comesOf_22 (by decide) ?_
      exact WQ.loc [1, 2, 0] rfl (bk8 _ _ _)
    · exact WQ.loc [0, 1] rfl (ex9 _ _ _)
  · refine wq_aload_n dX13_comesOf_25 0 rfl rfl ?_
    refine wq_iconst dX13_comesOf_26 ?_
    refine wq_iconst dX13_comesOf_27 ?_
    refine wq_cVv M_M_comesBy (R_M_comesBy Z 0 1 _) ob_26 rfl rfl (by decide) (by decide) (Nat.le_of_ble_eq_true rfl) ln_RX13_449 dX13_comesOf_28 (fun gr20 _ J21 => ?_)
    refine wq_bipush dX13_comesOf_31 (by decide) ?_
    refine wq_istore_n (lv' := [(2, vi 40), (0, vr Z 26 0), (1, vi a1)]) dX13_comesOf_33 rfl (by decide) rfl ?_
    refine WQ.loc [1, 2, 0] (lv' := [(0, vr Z 26 0), (1, vi a1), (2, vi 40)]) rfl ?_
    refine wq_loopS (fun s60 => [(0, vr Z 26 0), (1, vi a1), (2, vi s60)]) 95 (fun _ => [(0, vr Z 26 0), (1, vi a1)]) (fun κ54 bk55 ex56 gr59 s60 J58 => ?_) (fun gr84 r82 J83 => ?_) gr20 _ rfl
    · unfold f_M_comesOf_w34
      refine wq_iload_n dX13_comesOf_34 2 rfl rfl ?_
      refine wq_if_le 95 dX13_comesOf_35 (by decide) rfl (fun c81 => ?_) (fun c81 => ?_)
      · refine wq_iconst dX13_comesOf_38 ?_
        refine wq_istore_n (lv' := [(3, vi 0), (0, vr Z 26 0), (1, vi a1), (2, vi s60)]) dX13_comesOf_39 rfl (by decide) rfl ?_
        refine WQ.loc [1, 2, 3, 0] (lv' := [(0, vr Z 26 0), (1, vi a1), (2, vi s60), (3, vi 0)]) rfl ?_
        refine wq_loopS (fun s67 => [(0, vr Z 26 0), (1, vi a1), (2, vi s60), (3, vi s67)]) 89 (fun _ => [(0, vr Z 26 0), (1, vi a1), (2, vi s60)]) (fun κ61 bk62 ex63 gr66 s67 J65 => ?_) (fun gr80 r78 J79 => ?_) gr59 _ rfl
        · unfold f_M_comesOf_w40
          refine wq_iload_n dX13_comesOf_40 3 rfl rfl ?_
          refine wq_bipush dX13_comesOf_41 (by decide) ?_
          refine wq_icmp_ge 89 dX13_comesOf_43 (by decide) rfl rfl (fun c77 => ?_) (fun c77 => ?_)
          · refine wq_aload_n dX13_comesOf_46 0 rfl rfl ?_
            refine wq_iload_n dX13_comesOf_47 3 rfl rfl ?_
            refine wq_cVi M_M_isHere (R_M_isHere Z s67 _) ob_26 rfl rfl (by decide) (by decide) (Nat.le_of_ble_eq_true rfl) ln_RX13_111 dX13_comesOf_48 (fun gr68 x70 J69 => ?_)
            refine wq_if_eq 83 dX13_comesOf_51 (by decide) rfl (fun c76 => ?_) (fun c76 => ?_)
            · refine wq_iinc (lv' := [(3, vi (s67 + 1)), (0, vr Z 26 0), (1, vi a1), (2, vi s60)]) dX13_comesOf_83 3 rfl (by decide) rfl ?_
              refine wq_goto 40 dX13_comesOf_86 (by decide) ?_
              exact WQ.loc [1, 2, 3, 0] rfl (bk62 _ _ _)
            · refine wq_aload_n dX13_comesOf_54 0 rfl rfl ?_
              refine g_26_9 ln_RX13_34 dX13_comesOf_55 ?_
              refine wq_bipush dX13_comesOf_58 (by decide) ?_
              refine wq_iload_n dX13_comesOf_60 3 rfl rfl ?_
              refine wq_iadd dX13_comesOf_61 ?_
              refine wq_grd (fun g71 => ?_)
              refine wq_iald (k := 27) (i := 6) rfl (by decide) rfl rfl (m := 66) g71 (Nat.le_of_ble_eq_true rfl) dX13_comesOf_62 ?_
              refine wq_iload_n dX13_comesOf_63 2 rfl rfl ?_
              refine wq_icmp_ne 83 dX13_comesOf_64 (by decide) rfl rfl (fun c75 => ?_) (fun c75 => ?_)
              · refine wq_aload_n dX13_comesOf_67 0 rfl rfl ?_
                refine wq_iload_n dX13_comesOf_68 3 rfl rfl ?_
                refine wq_iconst dX13_comesOf_69 ?_
                refine wq_iadd dX13_comesOf_70 ?_
                refine wq_aload_n dX13_comesOf_71 0 rfl rfl ?_
                refine g_26_41 ln_RX13_83 dX13_comesOf_72 ?_
                refine wq_bipush dX13_comesOf_75 (by decide) ?_
                refine wq_iload_n dX13_comesOf_77 3 rfl rfl ?_
                refine wq_iadd dX13_comesOf_78 ?_
                refine wq_iald (k := 27) (i := 21) rfl (by decide) rfl rfl (m := 66) g71 (Nat.le_of_ble_eq_true rfl) dX13_comesOf_79 ?_
                refine wq_cVv M_M_comesBy (R_M_comesBy Z (s67 + 1) (J69 27 21 (w32 (26 + s67)).toNat) _) ob_26 rfl rfl (by decide) (by decide) (Nat.le_of_ble_eq_true rfl) ln_RX13_449 dX13_comesOf_80 (fun gr72 _ J73 => ?_)
                refine wq_iinc (lv' := [(3, vi (s67 + 1)), (0, vr Z 26 0), (1, vi a1), (2, vi s60)]) dX13_comesOf_83 3 rfl (by decide) rfl ?_
                refine wq_goto 40 dX13_comesOf_86 (by decide) ?_
                exact WQ.loc [1, 2, 3, 0] rfl (bk62 _ _ _)
              · refine wq_iinc (lv' := [(3, vi (s67 + 1)), (0, vr Z 26 0), (1, vi a1), (2, vi s60)]) dX13_comesOf_83 3 rfl (by decide) rfl ?_
                refine wq_goto 40 dX13_comesOf_86 (by decide) ?_
                exact WQ.loc [1, 2, 3, 0] rfl (bk62 _ _ _)
          · exact WQ.loc [0, 1, 2] rfl (ex63 _ _ _)
        · refine wq_iinc (lv' := [(2, vi (s60 + (-1))), (0, vr Z 26 0), (1, vi a1)]) dX13_comesOf_89 2 rfl (by decide) rfl ?_
          refine wq_goto 34 dX13_comesOf_92 (by decide) ?_
          exact WQ.loc [1, 2, 0] rfl (bk55 _ _ _)
      · exact WQ.loc [0, 1] rfl (ex56 _ _ _)
    · refine wq_aload_n dX13_comesOf_95 0 rfl rfl ?_
      refine g_26_41 ln_RX13_83 dX13_comesOf_96 ?_
      refine wq_iload_n dX13_comesOf_99 1 rfl rfl ?_
      refine wq_grd (fun g85 => ?_)
      refine wq_iald (k := 27) (i := 21) rfl (by decide) rfl rfl (m := 66) g85 (Nat.le_of_ble_eq_true rfl) dX13_comesOf_100 ?_
      exact wq_iret rfl rfl dX13_comesOf_101

theorem M_M_noSuchRule : MwV yX13_noSuchRule cX13_noSuchRule 2 (some .boolean) 1 := ⟨li_9 47 (by decide +kernel) (by decide +kernel), li_9 46 (by decide +kernel) (by decide +kernel), lw_in 123 (by decide +kernel) (by decide +kernel), li_1 16 (by decide +kernel) (by decide +kernel), by decide +kernel⟩
theorem M_M_comesOf : MwV yX13_comesOf cX13_comesOf 4 (some .int) 1 := ⟨li_9 51 (by decide +kernel) (by decide +kernel), li_9 50 (by decide +kernel) (by decide +kernel), lw_in 124 (by decide +kernel) (by decide +kernel), li_1 16 (by decide +kernel) (by decide +kernel), by decide +kernel⟩
theorem ln_RX13_455 : Cond.methodLink RX13 455 yX13_comesOf ∈ lw_good := li_9 48 (by decide +kernel) (by decide +kernel)
theorem ln_RX13_452 : Cond.methodLink RX13 452 yX13_noSuchRule ∈ lw_good := li_9 44 (by decide +kernel) (by decide +kernel)
noncomputable def f_M_rule (a1 : Int) (a2 : Int) (I : Mem) : Option ((Int) × Mem) :=
ltI (sI I 26 0 7 0) fun J1 =>
bnd (f_M_noSuchRule a1 J1) fun x4 J3 =>
if (w32 x4) = 0 then
bnd (f_M_in a2 0 4 J3) fun x7 J6 =>
bnd (f_M_fails (if (w32 x7) = 0 then 1 else 0) 2 J6) fun x10 J9 =>
if (w32 x10) = 0 then
bnd (f_M_laysLengths J9) fun _ J12 =>
if (w32 a2) = 0 then
bnd (f_M_many (a1 + 1) J12) fun x16 J15 =>
some (x16, J15)
else if (w32 a2) = 1 then
bnd (f_M_usesOf a1 J12) fun x20 J19 =>
some (x20, J19)
else if (w32 a2) = 2 then
if 0 ≤ (w32 (26 + a1)) ∧ (w32 (26 + a1)) < 66 then
some ((J12 27 5 (w32 (26 + a1)).toNat), J12)
else none
else if (w32 a2) = 3 then
if 0 ≤ (w32 (26 + a1)) ∧ (w32 (26 + a1)) < 66 then
some ((J12 27 6 (w32 (26 + a1)).toNat), J12)
else none
else bnd (f_M_comesOf (26 + a1) J12) fun x28 J27 =>
some (x28, J27)
else
some (0, J9)
else
some (0, J3)
set_option maxRecDepth 20000 in
theorem R_M_rule (Z : ZT) (a1 : Int) (a2 : Int) (I : Mem) (r : Int) (J : Mem) (hf : f_M_rule a1 a2 I = some (r, J)) : Runs Z yX13_rule cX13_rule 3 (some .int) 5 [vr Z 26 0, vi a1, vi a2] I (some (vi r), J) := by
  refine Runs.of (rv := fun x => some (vi x)) (by decide +kernel) (Nat.le_of_ble_eq_true rfl) hf (fun gr => ?_)
  unfold f_M_rule
  refine WQ.loc [0, 1, 2] (lv' := [(0, vr Z 26 0), (1, vi a1), (2, vi a2)]) rfl ?_
  refine wq_aload_n dX13_rule_0 0 rfl rfl ?_
  refine wq_iconst dX13_rule_1 ?_
  refine p_26_7 ln_RX13_100 dX13_rule_2 (fun J1 => ?_)
  refine wq_aload_n dX13_rule_5 0 rfl rfl ?_
  refine wq_iload_n dX13_rule_6 1 rfl rfl ?_
  refine wq_cVi M_M_noSuchRule (R_M_noSuchRule Z a1 _) ob_26 rfl rfl (by decide) (by decide) (Nat.le_of_ble_eq_true rfl) ln_RX13_452 dX13_rule_7 (fun gr2 x4 J3 => ?_)
  refine wq_if_ne 35 dX13_rule_10 (by decide) rfl (fun c32 => ?_) (fun c32 => ?_)
  · refine wq_aload_n dX13_rule_13 0 rfl rfl ?_
    refine wq_iload_n dX13_rule_14 2 rfl rfl ?_
    refine wq_iconst dX13_rule_15 ?_
    refine wq_iconst dX13_rule_16 ?_
    refine wq_cSi M_M_in (R_M_in Z a2 0 4 _) rfl rfl rfl (by decide) (by decide) (Nat.le_of_ble_eq_true rfl) ln_RX13_224 dX13_rule_17 (fun gr5 x7 J6 => ?_)
    refine WQ.via 28 [vi (if (w32 x7) = 0 then 1 else 0), vr Z 26 0] (by
        refine wq_iconst dX13_rule_28 ?_
        refine wq_cVi M_M_fails (R_M_fails Z (if (w32 x7) = 0 then 1 else 0) 2 _) ob_26 rfl rfl (by decide) (by decide) (Nat.le_of_ble_eq_true rfl) ln_RX13_428 dX13_rule_29 (fun gr8 x10 J9 => ?_)
        refine wq_if_eq 37 dX13_rule_32 (by decide) rfl (fun c29 => ?_) (fun c29 => ?_)
        · refine wq_aload_n dX13_rule_37 0 rfl rfl ?_
          refine wq_cVv M_M_laysLengths (R_M_laysLengths Z _) ob_26 rfl rfl (by decide) (by decide) (Nat.le_of_ble_eq_true rfl) ln_RX13_137 dX13_rule_38 (fun gr11 _ J12 => ?_)
          refine wq_iload_n dX13_rule_41 2 rfl rfl ?_
          refine WQ.split (fun c17 => ?_) (fun c17 => ?_)
          · refine wq_tin (n := 0) 72 dX13_rule_42 rfl c17 (by decide) (by decide) rfl (by decide) ?_
            refine wq_aload_n dX13_rule_72 0 rfl rfl ?_
            refine wq_iload_n dX13_rule_73 1 rfl rfl ?_
            refine wq_iconst dX13_rule_74 ?_
            refine wq_iadd dX13_rule_75 ?_
            refine wq_cVi M_M_many (R_M_many Z (a1 + 1) _) ob_26 rfl rfl (by decide) (by decide) (Nat.le_of_ble_eq_true rfl) ln_RX13_103 dX13_rule_76 (fun gr14 x16 J15 => ?_)
            exact wq_iret rfl rfl dX13_rule_79
          · skip
            refine WQ.split (fun c21 => ?_) (fun c21 => ?_)
            · refine wq_tin (n := 1) 80 dX13_rule_42 rfl c21 (by decide) (by decide) rfl (by decide) ?_
              refine wq_aload_n dX13_rule_80 0 rfl rfl ?_
              refine wq_iload_n dX13_rule_81 1 rfl rfl ?_
              refine wq_cVi M_M_usesOf (R_M_usesOf Z a1 _) ob_26 rfl rfl (by decide) (by decide) (Nat.le_of_ble_eq_true rfl) ln_RX13_180 dX13_rule_82 (fun gr18 x20 J19 => ?_)
              exact wq_iret rfl rfl dX13_rule_85
            · skip
              refine WQ.split (fun c23 => ?_) (fun c23 => ?_)
              · refine wq_tin (n := 2) 86 dX13_rule_42 rfl c23 (by decide) (by decide) rfl (by decide) ?_
                refine wq_aload_n dX13_rule_86 0 rfl rfl ?_
                refine g_26_8 ln_RX13_31 dX13_rule_87 ?_
                refine wq_bipush dX13_rule_90 (by decide) ?_
                refine wq_iload_n dX13_rule_92 1 rfl rfl ?_
                refine wq_iadd dX13_rule_93 ?_
                refine wq_grd (fun g22 => ?_)
                refine wq_iald (k := 27) (i := 5) rfl (by decide) rfl rfl (m := 66) g22 (Nat.le_of_ble_eq_true rfl) dX13_rule_94 ?_
                exact wq_iret rfl rfl dX13_rule_95
              · skip
                refine WQ.split (fun c25 => ?_) (fun c25 => ?_)
                · refine wq_tin (n := 3) 96 dX13_rule_42 rfl c25 (by decide) (by decide) rfl (by decide) ?_
                  refine wq_aload_n dX13_rule_96 0 rfl rfl ?_
                  refine g_26_9 ln_RX13_34 dX13_rule_97 ?_
                  refine wq_bipush dX13_rule_100 (by decide) ?_
                  refine wq_iload_n dX13_rule_102 1 rfl rfl ?_
                  refine wq_iadd dX13_rule_103 ?_
                  refine wq_grd (fun g24 => ?_)
                  refine wq_iald (k := 27) (i := 6) rfl (by decide) rfl rfl (m := 66) g24 (Nat.le_of_ble_eq_true rfl) dX13_rule_104 ?_
                  exact wq_iret rfl rfl dX13_rule_105
                · skip
                  refine wq_tout 106 dX13_rule_42 rfl (by omega) (by decide) ?_
                  refine wq_aload_n dX13_rule_106 0 rfl rfl ?_
                  refine wq_bipush dX13_rule_107 (by decide) ?_
                  refine wq_iload_n dX13_rule_109 1 rfl rfl ?_
                  refine wq_iadd dX13_rule_110 ?_
                  refine wq_cVi M_M_comesOf (R_M_comesOf Z (26 + a1) _) ob_26 rfl rfl (by decide) (by decide) (Nat.le_of_ble_eq_true rfl) ln_RX13_455 dX13_rule_111 (fun gr26 x28 J27 => ?_)
                  exact wq_iret rfl rfl dX13_rule_114
        · refine wq_iconst dX13_rule_35 ?_
          exact wq_iret rfl rfl dX13_rule_36) (fun hj30 => ?_)
    refine WQ.both ((w32 x7) = 0) ?_
    refine wq_if_ne 27 dX13_rule_20 (by decide) rfl (fun c31 => ?_) (fun c31 => ?_)
    · refine wq_iconst dX13_rule_23 ?_
      refine wq_goto 28 dX13_rule_24 (by decide) ?_
      exact WQ.top (if_pos c31) hj30
    · refine wq_iconst dX13_rule_27 ?_
      exact WQ.top (if_neg c31) hj30
  · refine wq_iconst dX13_rule_35 ?_
    exact wq_iret rfl rfl dX13_rule_36

noncomputable def f_M_bodyAt (a1 : Int) (a2 : Int) (I : Mem) : Option ((Int) × Mem) :=
ltI (sI I 26 0 7 0) fun J1 =>
bnd (f_M_noSuchRule a1 J1) fun x4 J3 =>
if (w32 x4) = 0 then
bnd (f_M_many (a1 + 1) J3) fun x7 J6 =>
bnd (f_M_in a2 0 (x7 - 1) J6) fun x10 J9 =>
bnd (f_M_fails (if (w32 x10) = 0 then 1 else 0) 1 J9) fun x13 J12 =>
if (w32 x13) = 0 then
bnd (f_M_at (a1 + 1) a2 J12) fun x16 J15 =>
some (x16, J15)
else
some (0, J12)
else
some (0, J3)
set_option maxRecDepth 20000 in
theorem R_M_bodyAt (Z : ZT) (a1 : Int) (a2 : Int) (I : Mem) (r : Int) (J : Mem) (hf : f_M_bodyAt a1 a2 I = some (r, J)) : Runs Z yX13_bodyAt cX13_bodyAt 3 (some .int) 4 [vr Z 26 0, vi a1, vi a2] I (some (vi r), J) := by
  refine Runs.of (rv := fun x => some (vi x)) (by decide +kernel) (Nat.le_of_ble_eq_true rfl) hf (fun gr => ?_)
  unfold f_M_bodyAt
  refine WQ.loc [0, 1, 2] (lv' := [(0, vr Z 26 0), (1, vi a1), (2, vi a2)]) rfl ?_
  refine wq_aload_n dX13_bodyAt_0 0 rfl rfl ?_
  refine wq_iconst dX13_bodyAt_1 ?_
  refine p_26_7 ln_RX13_100 dX13_bodyAt_2 (fun J1 => ?_)
  refine wq_aload_n dX13_bodyAt_5 0 rfl rfl ?_
  refine wq_iload_n dX13_bodyAt_6 1 rfl rfl ?_
  refine wq_cVi M_M_noSuchRule (R_M_noSuchRule Z a1 _) ob_26 rfl rfl (by decide) (by decide) (Nat.le_of_ble_eq_true rfl) ln_RX13_452 dX13_bodyAt_7 (fun gr2 x4 J3 => ?_)
  refine wq_if_ne 43 dX13_bodyAt_10 (by decide) rfl (fun c20 => ?_) (fun c20 => ?_)
  · refine wq_aload_n dX13_bodyAt_13 0 rfl rfl ?_
    refine wq_iload_n dX13_bodyAt_14 2 rfl rfl ?_
    refine wq_iconst dX13_bodyAt_15 ?_
    refine wq_aload_n dX13_bodyAt_16 0 rfl rfl ?_
    refine wq_iload_n dX13_bodyAt_17 1 rfl rfl ?_
    refine wq_iconst dX13_bodyAt_18 ?_
    refine wq_iadd dX13_bodyAt_19 ?_
    refine wq_cVi M_M_many (R_M_many Z (a1 + 1) _) ob_26 rfl rfl (by decide) (by decide) (Nat.le_of_ble_eq_true rfl) ln_RX13_103 dX13_bodyAt_20 (fun gr5 x7 J6 => ?_)
    refine wq_iconst dX13_bodyAt_23 ?_
    refine wq_isub dX13_bodyAt_24 ?_
    refine wq_cSi M_M_in (R_M_in Z a2 0 (x7 - 1) _) rfl rfl rfl (by decide) (by decide) (Nat.le_of_ble_eq_true rfl) ln_RX13_224 dX13_bodyAt_25 (fun gr8 x10 J9 => ?_)
    refine WQ.via 36 [vi (if (w32 x10) = 0 then 1 else 0), vr Z 26 0] (by
        refine wq_iconst dX13_bodyAt_36 ?_
        refine wq_cVi M_M_fails (R_M_fails Z (if (w32 x10) = 0 then 1 else 0) 1 _) ob_26 rfl rfl (by decide) (by decide) (Nat.le_of_ble_eq_true rfl) ln_RX13_428 dX13_bodyAt_37 (fun gr11 x13 J12 => ?_)
        refine wq_if_eq 47 dX13_bodyAt_40 (by decide) rfl (fun c17 => ?_) (fun c17 => ?_)
        · refine wq_aload_n dX13_bodyAt_47 0 rfl rfl ?_
          refine wq_iload_n dX13_bodyAt_48 1 rfl rfl ?_
          refine wq_iconst dX13_bodyAt_49 ?_
          refine wq_iadd dX13_bodyAt_50 ?_
          refine wq_iload_n dX13_bodyAt_51 2 rfl rfl ?_
          refine wq_cVi M_M_at (R_M_at Z (a1 + 1) a2 _) ob_26 rfl rfl (by decide) (by decide) (Nat.le_of_ble_eq_true rfl) ln_RX13_119 dX13_bodyAt_52 (fun gr14 x16 J15 => ?_)
          exact wq_iret rfl rfl dX13_bodyAt_55
        · refine wq_iconst dX13_bodyAt_43 ?_
          refine wq_goto 55 dX13_bodyAt_44 (by decide) ?_
          exact wq_iret rfl rfl dX13_bodyAt_55) (fun hj18 => ?_)
    refine WQ.both ((w32 x10) = 0) ?_
    refine wq_if_ne 35 dX13_bodyAt_28 (by decide) rfl (fun c19 => ?_) (fun c19 => ?_)
    · refine wq_iconst dX13_bodyAt_31 ?_
      refine wq_goto 36 dX13_bodyAt_32 (by decide) ?_
      exact WQ.top (if_pos c19) hj18
    · refine wq_iconst dX13_bodyAt_35 ?_
      exact WQ.top (if_neg c19) hj18
  · refine wq_iconst dX13_bodyAt_43 ?_
    refine wq_goto 55 dX13_bodyAt_44 (by decide) ?_
    exact wq_iret rfl rfl dX13_bodyAt_55

noncomputable def f_M_startAt (a1 : Int) (I : Mem) : Option ((Int) × Mem) :=
ltI (sI I 26 0 7 0) fun J1 =>
bnd (f_M_many 0 J1) fun x4 J3 =>
bnd (f_M_in a1 0 (x4 - 1) J3) fun x7 J6 =>
bnd (f_M_fails (if (w32 x7) = 0 then 1 else 0) 1 J6) fun x10 J9 =>
if (w32 x10) = 0 then
bnd (f_M_at 0 a1 J9) fun x13 J12 =>
some (x13, J12)
else
some (0, J9)
set_option maxRecDepth 20000 in
theorem R_M_startAt (Z : ZT) (a1 : Int) (I : Mem) (r : Int) (J : Mem) (hf : f_M_startAt a1 I = some (r, J)) : Runs Z yX13_startAt cX13_startAt 2 (some .int) 2 [vr Z 26 0, vi a1] I (some (vi r), J) := by
  refine Runs.of (rv := fun x => some (vi x)) (by decide +kernel) (Nat.le_of_ble_eq_true rfl) hf (fun gr => ?_)
  unfold f_M_startAt
  refine WQ.loc [0, 1] (lv' := [(0, vr Z 26 0), (1, vi a1)]) rfl ?_
  refine wq_aload_n dX13_startAt_0 0 rfl rfl ?_
  refine wq_iconst dX13_startAt_1 ?_
  refine p_26_7 ln_RX13_100 dX13_startAt_2 (fun J1 => ?_)
  refine wq_aload_n dX13_startAt_5 0 rfl rfl ?_
  refine wq_iload_n dX13_startAt_6 1 rfl rfl ?_
  refine wq_iconst dX13_startAt_7 ?_
  refine wq_aload_n dX13_startAt_8 0 rfl rfl ?_
  refine wq_iconst dX13_startAt_9 ?_
  refine wq_cVi M_M_many (R_M_many Z 0 _) ob_26 rfl rfl (by decide) (by decide) (Nat.le_of_ble_eq_true rfl) ln_RX13_103 dX13_startAt_10 (fun gr2 x4 J3 => ?_)
  refine wq_iconst dX13_startAt_13 ?_
  refine wq_isub dX13_startAt_14 ?_
  refine wq_cSi M_M_in (R_M_in Z a1 0 (x4 - 1) _) rfl rfl rfl (by decide) (by decide) (Nat.le_of_ble_eq_true rfl) ln_RX13_224 dX13_startAt_15 (fun gr5 x7 J6 => ?_)
  refine WQ.via 26 [vi (if (w32 x7) = 0 then 1 else 0), vr Z 26 0] (by
      refine wq_iconst dX13_startAt_26 ?_
      refine wq_cVi M_M_fails (R_M_fails Z (if (w32 x7) = 0 then 1 else 0) 1 _) ob_26 rfl rfl (by decide) (by decide) (Nat.le_of_ble_eq_true rfl) ln_RX13_428 dX13_startAt_27 (fun gr8 x10 J9 => ?_)
      refine wq_if_eq 37 dX13_startAt_30 (by decide) rfl (fun c14 => ?_) (fun c14 => ?_)
      · refine wq_aload_n dX13_startAt_37 0 rfl rfl ?_
        refine wq_iconst dX13_startAt_38 ?_
        refine wq_iload_n dX13_startAt_39 1 rfl rfl ?_
        refine wq_cVi M_M_at (R_M_at Z 0 a1 _) ob_26 rfl rfl (by decide) (by decide) (Nat.le_of_ble_eq_true rfl) ln_RX13_119 dX13_startAt_40 (fun gr11 x13 J12 => ?_)
        exact wq_iret rfl rfl dX13_startAt_43
      · refine wq_iconst dX13_startAt_33 ?_
        refine wq_goto 43 dX13_startAt_34 (by decide) ?_
        exact wq_iret rfl rfl dX13_startAt_43) (fun hj15 => ?_)
  refine WQ.both ((w32 x7) = 0) ?_
  refine wq_if_ne 25 dX13_startAt_18 (by decide) rfl (fun c16 => ?_) (fun c16 => ?_)
  · refine wq_iconst dX13_startAt_21 ?_
    refine wq_goto 26 dX13_startAt_22 (by decide) ?_
    exact WQ.top (if_pos c16) hj15
  · refine wq_iconst dX13_startAt_25 ?_
    exact WQ.top (if_neg c16) hj15

noncomputable def f_M_noPlace (a1 : Int) (I : Mem) : Option ((Int) × Mem) :=
bnd (f_M_unfolds I) fun x3 J2 =>
bnd (f_M_in a1 0 (x3 - 1) J2) fun x6 J5 =>
bnd (f_M_fails (if (w32 x6) = 0 then 1 else 0) 1 J5) fun x9 J8 =>
if x9 = 0 ∨ x9 = 1 then
some (x9, J8)
else none
set_option maxRecDepth 20000 in
theorem R_M_noPlace (Z : ZT) (a1 : Int) (I : Mem) (r : Int) (J : Mem) (hf : f_M_noPlace a1 I = some (r, J)) : Runs Z yX13_noPlace cX13_noPlace 2 (some .boolean) 3 [vr Z 26 0, vi a1] I (some (vi r), J) := by
  refine Runs.of (rv := fun x => some (vi x)) (by decide +kernel) (Nat.le_of_ble_eq_true rfl) hf (fun gr => ?_)
  unfold f_M_noPlace
  refine WQ.loc [0, 1] (lv' := [(0, vr Z 26 0), (1, vi a1)]) rfl ?_
  refine wq_aload_n dX13_noPlace_0 0 rfl rfl ?_
  refine wq_iload_n dX13_noPlace_1 1 rfl rfl ?_
  refine wq_iconst dX13_noPlace_2 ?_
  refine wq_aload_n dX13_noPlace_3 0 rfl rfl ?_
  refine wq_cVi M_M_unfolds (R_M_unfolds Z _) ob_26 rfl rfl (by decide) (by decide) (Nat.le_of_ble_eq_true rfl) ln_RX13_140 dX13_noPlace_4 (fun gr1 x3 J2 => ?_)
  refine wq_iconst dX13_noPlace_7 ?_
  refine wq_isub dX13_noPlace_8 ?_
  refine wq_cSi M_M_in (R_M_in Z a1 0 (x3 - 1) _) rfl rfl rfl (by decide) (by decide) (Nat.le_of_ble_eq_true rfl) ln_RX13_224 dX13_noPlace_9 (fun gr4 x6 J5 => ?_)
  refine WQ.via 20 [vi (if (w32 x6) = 0 then 1 else 0), vr Z 26 0] (by
      refine wq_iconst dX13_noPlace_20 ?_
      refine wq_cVi M_M_fails (R_M_fails Z (if (w32 x6) = 0 then 1 else 0) 1 _) ob_26 rfl rfl (by decide) (by decide) (Nat.le_of_ble_eq_true rfl) ln_RX13_428 dX13_noPlace_21 (fun gr7 x9 J8 => ?_)
      refine wq_grd (fun g10 => ?_)
      exact wq_zret rfl g10 rfl dX13_noPlace_24) (fun hj11 => ?_)
  refine WQ.both ((w32 x6) = 0) ?_
  refine wq_if_ne 19 dX13_noPlace_12 (by decide) rfl (fun c12 => ?_) (fun c12 => ?_)
  · refine wq_iconst dX13_noPlace_15 ?_
    refine wq_goto 20 dX13_noPlace_16 (by decide) ?_
    exact WQ.top (if_pos c12) hj11
  · refine wq_iconst dX13_noPlace_19 ?_
    exact WQ.top (if_neg c12) hj11

theorem M_M_noPlace : MwV yX13_noPlace cX13_noPlace 2 (some .boolean) 1 := ⟨li_9 71 (by decide +kernel) (by decide +kernel), li_9 70 (by decide +kernel) (by decide +kernel), lw_in 126 (by decide +kernel) (by decide +kernel), li_1 16 (by decide +kernel) (by decide +kernel), by decide +kernel⟩
theorem ln_RX13_458 : Cond.methodLink RX13 458 yX13_noPlace ∈ lw_good := li_9 68 (by decide +kernel) (by decide +kernel)
noncomputable def f_M_letterAt (a1 : Int) (I : Mem) : Option ((Int) × Mem) :=
ltI (sI I 26 0 7 0) fun J1 =>
bnd (f_M_noPlace a1 J1) fun x4 J3 =>
if (w32 x4) = 0 then
if 0 ≤ (w32 a1) ∧ (w32 a1) < 401 then
some ((J3 27 7 (w32 a1).toNat), J3)
else none
else
some (0, J3)
set_option maxRecDepth 20000 in
theorem R_M_letterAt (Z : ZT) (a1 : Int) (I : Mem) (r : Int) (J : Mem) (hf : f_M_letterAt a1 I = some (r, J)) : Runs Z yX13_letterAt cX13_letterAt 2 (some .int) 4 [vr Z 26 0, vi a1] I (some (vi r), J) := by
  refine Runs.of (rv := fun x => some (vi x)) (by decide +kernel) (Nat.le_of_ble_eq_true rfl) hf (fun gr => ?_)
  unfold f_M_letterAt
  refine WQ.loc [0, 1] (lv' := [(0, vr Z 26 0), (1, vi a1)]) rfl ?_
  refine wq_aload_n dX13_letterAt_0 0 rfl rfl ?_
  refine wq_iconst dX13_letterAt_1 ?_
  refine p_26_7 ln_RX13_100 dX13_letterAt_2 (fun J1 => ?_)
  refine wq_aload_n dX13_letterAt_5 0 rfl rfl ?_
  refine wq_iload_n dX13_letterAt_6 1 rfl rfl ?_
  refine wq_cVi M_M_noPlace (R_M_noPlace Z a1 _) ob_26 rfl rfl (by decide) (by decide) (Nat.le_of_ble_eq_true rfl) ln_RX13_458 dX13_letterAt_7 (fun gr2 x4 J3 => ?_)
  refine wq_if_eq 17 dX13_letterAt_10 (by decide) rfl (fun c6 => ?_) (fun c6 => ?_)
  · refine wq_aload_n dX13_letterAt_17 0 rfl rfl ?_
    refine g_26_11 ln_RX13_37 dX13_letterAt_18 ?_
    refine wq_iload_n dX13_letterAt_21 1 rfl rfl ?_
    refine wq_grd (fun g5 => ?_)
    refine wq_iald (k := 27) (i := 7) rfl (by decide) rfl rfl (m := 401) g5 (Nat.le_of_ble_eq_true rfl) dX13_letterAt_22 ?_
    exact wq_iret rfl rfl dX13_letterAt_23
  · refine wq_iconst dX13_letterAt_13 ?_
    refine wq_goto 23 dX13_letterAt_14 (by decide) ?_
    exact wq_iret rfl rfl dX13_letterAt_23

noncomputable def f_M_symbolOf (a1 : Int) (I : Mem) : Option ((Int) × Mem) :=
ltI (sI I 26 0 7 0) fun J1 =>
bnd (f_M_noPlace a1 J1) fun x4 J3 =>
if (w32 x4) = 0 then
if 0 ≤ (w32 a1) ∧ (w32 a1) < 401 then
some ((J3 27 8 (w32 a1).toNat), J3)
else none
else
some (0, J3)
set_option maxRecDepth 20000 in
theorem R_M_symbolOf (Z : ZT) (a1 : Int) (I : Mem) (r : Int) (J : Mem) (hf : f_M_symbolOf a1 I = some (r, J)) : Runs Z yX13_symbolOf cX13_symbolOf 2 (some .int) 4 [vr Z 26 0, vi a1] I (some (vi r), J) := by
  refine Runs.of (rv := fun x => some (vi x)) (by decide +kernel) (Nat.le_of_ble_eq_true rfl) hf (fun gr => ?_)
  unfold f_M_symbolOf
  refine WQ.loc [0, 1] (lv' := [(0, vr Z 26 0), (1, vi a1)]) rfl ?_
  refine wq_aload_n dX13_symbolOf_0 0 rfl rfl ?_
  refine wq_iconst dX13_symbolOf_1 ?_
  refine p_26_7 ln_RX13_100 dX13_symbolOf_2 (fun J1 => ?_)
  refine wq_aload_n dX13_symbolOf_5 0 rfl rfl ?_
  refine wq_iload_n dX13_symbolOf_6 1 rfl rfl ?_
  refine wq_cVi M_M_noPlace (R_M_noPlace Z a1 _) ob_26 rfl rfl (by decide) (by decide) (Nat.le_of_ble_eq_true rfl) ln_RX13_458 dX13_symbolOf_7 (fun gr2 x4 J3 => ?_)
  refine wq_if_eq 17 dX13_symbolOf_10 (by decide) rfl (fun c6 => ?_) (fun c6 => ?_)
  · refine wq_aload_n dX13_symbolOf_17 0 rfl rfl ?_
    refine g_26_12 ln_RX13_40 dX13_symbolOf_18 ?_
    refine wq_iload_n dX13_symbolOf_21 1 rfl rfl ?_
    refine wq_grd (fun g5 => ?_)
    refine wq_iald (k := 27) (i := 8) rfl (by decide) rfl rfl (m := 401) g5 (Nat.le_of_ble_eq_true rfl) dX13_symbolOf_22 ?_
    exact wq_iret rfl rfl dX13_symbolOf_23
  · refine wq_iconst dX13_symbolOf_13 ?_
    refine wq_goto 23 dX13_symbolOf_14 (by decide) ?_
    exact wq_iret rfl rfl dX13_symbolOf_23

theorem M_M_lettersOf : MwV yX13_lettersOf cX13_lettersOf 5 (some .int) 1 := ⟨li_9 83 (by decide +kernel) (by decide +kernel), li_9 82 (by decide +kernel) (by decide +kernel), lw_in 127 (by decide +kernel) (by decide +kernel), li_1 16 (by decide +kernel) (by decide +kernel), by decide +kernel⟩
theorem ln_RX13_461 : Cond.methodLink RX13 461 yX13_lettersOf ∈ lw_good := li_9 80 (by decide +kernel) (by decide +kernel)
noncomputable def f_M_letters (a1 : Int) (I : Mem) : Option ((Int) × Mem) :=
ltI (sI I 26 0 7 0) fun J1 =>
bnd (f_M_in a1 0 25 J1) fun x4 J3 =>
bnd (f_M_fails (if (w32 x4) = 0 then 1 else 0) 1 J3) fun x7 J6 =>
if (w32 x7) = 0 then
bnd (f_M_lettersOf a1 J6) fun x10 J9 =>
some (x10, J9)
else
some (0, J6)
set_option maxRecDepth 20000 in
theorem R_M_letters (Z : ZT) (a1 : Int) (I : Mem) (r : Int) (J : Mem) (hf : f_M_letters a1 I = some (r, J)) : Runs Z yX13_letters cX13_letters 2 (some .int) 4 [vr Z 26 0, vi a1] I (some (vi r), J) := by
  refine Runs.of (rv := fun x => some (vi x)) (by decide +kernel) (Nat.le_of_ble_eq_true rfl) hf (fun gr => ?_)
  unfold f_M_letters
  refine WQ.loc [0, 1] (lv' := [(0, vr Z 26 0), (1, vi a1)]) rfl ?_
  refine wq_aload_n dX13_letters_0 0 rfl rfl ?_
  refine wq_iconst dX13_letters_1 ?_
  refine p_26_7 ln_RX13_100 dX13_letters_2 (fun J1 => ?_)
  refine wq_aload_n dX13_letters_5 0 rfl rfl ?_
  refine wq_iload_n dX13_letters_6 1 rfl rfl ?_
  refine wq_iconst dX13_letters_7 ?_
  refine wq_bipush dX13_letters_8 (by decide) ?_
  refine wq_cSi M_M_in (R_M_in Z a1 0 25 _) rfl rfl rfl (by decide) (by decide) (Nat.le_of_ble_eq_true rfl) ln_RX13_224 dX13_letters_10 (fun gr2 x4 J3 => ?_)
  refine WQ.via 21 [vi (if (w32 x4) = 0 then 1 else 0), vr Z 26 0] (by
      refine wq_iconst dX13_letters_21 ?_
      refine wq_cVi M_M_fails (R_M_fails Z (if (w32 x4) = 0 then 1 else 0) 1 _) ob_26 rfl rfl (by decide) (by decide) (Nat.le_of_ble_eq_true rfl) ln_RX13_428 dX13_letters_22 (fun gr5 x7 J6 => ?_)
      refine wq_if_eq 32 dX13_letters_25 (by decide) rfl (fun c11 => ?_) (fun c11 => ?_)
      · refine wq_aload_n dX13_letters_32 0 rfl rfl ?_
        refine wq_iload_n dX13_letters_33 1 rfl rfl ?_
        refine wq_cVi M_M_lettersOf (R_M_lettersOf Z a1 _) ob_26 rfl rfl (by decide) (by decide) (Nat.le_of_ble_eq_true rfl) ln_RX13_461 dX13_letters_34 (fun gr8 x10 J9 => ?_)
        exact wq_iret rfl rfl dX13_letters_37
      · refine wq_iconst dX13_letters_28 ?_
        refine wq_goto 37 dX13_letters_29 (by decide) ?_
        exact wq_iret rfl rfl dX13_letters_37) (fun hj12 => ?_)
  refine WQ.both ((w32 x4) = 0) ?_
  refine wq_if_ne 20 dX13_letters_13 (by decide) rfl (fun c13 => ?_) (fun c13 => ?_)
  · refine wq_iconst dX13_letters_16 ?_
    refine wq_goto 21 dX13_letters_17 (by decide) ?_
    exact WQ.top (if_pos c13) hj12
  · refine wq_iconst dX13_letters_20 ?_
    exact WQ.top (if_neg c13) hj12

noncomputable def f_M_account (a1 : Int) (I : Mem) : Option ((Int) × Mem) :=
ltI (sI I 26 0 7 0) fun J1 =>
bnd (f_M_in a1 0 8 J1) fun x4 J3 =>
bnd (f_M_fails (if (w32 x4) = 0 then 1 else 0) 1 J3) fun x7 J6 =>
if (w32 x7) = 0 then
if 0 ≤ (w32 (6 + a1)) ∧ (w32 (6 + a1)) < 16860 then
some ((J6 27 0 (w32 (6 + a1)).toNat), J6)
else none
else
some (0, J6)
set_option maxRecDepth 20000 in
theorem R_M_account (Z : ZT) (a1 : Int) (I : Mem) (r : Int) (J : Mem) (hf : f_M_account a1 I = some (r, J)) : Runs Z yX13_account cX13_account 2 (some .int) 2 [vr Z 26 0, vi a1] I (some (vi r), J) := by
  refine Runs.of (rv := fun x => some (vi x)) (by decide +kernel) (Nat.le_of_ble_eq_true rfl) hf (fun gr => ?_)
  unfold f_M_account
  refine WQ.loc [0, 1] (lv' := [(0, vr Z 26 0), (1, vi a1)]) rfl ?_
  refine wq_aload_n dX13_account_0 0 rfl rfl ?_
  refine wq_iconst dX13_account_1 ?_
  refine p_26_7 ln_RX13_100 dX13_account_2 (fun J1 => ?_)
  refine wq_aload_n dX13_account_5 0 rfl rfl ?_
  refine wq_iload_n dX13_account_6 1 rfl rfl ?_
  refine wq_iconst dX13_account_7 ?_
  refine wq_bipush dX13_account_8 (by decide) ?_
  refine wq_cSi M_M_in (R_M_in Z a1 0 8 _) rfl rfl rfl (by decide) (by decide) (Nat.le_of_ble_eq_true rfl) ln_RX13_224 dX13_account_10 (fun gr2 x4 J3 => ?_)
  refine WQ.via 21 [vi (if (w32 x4) = 0 then 1 else 0), vr Z 26 0] (by
      refine wq_iconst dX13_account_21 ?_
      refine wq_cVi M_M_fails (R_M_fails Z (if (w32 x4) = 0 then 1 else 0) 1 _) ob_26 rfl rfl (by decide) (by decide) (Nat.le_of_ble_eq_true rfl) ln_RX13_428 dX13_account_22 (fun gr5 x7 J6 => ?_)
      refine wq_if_eq 32 dX13_account_25 (by decide) rfl (fun c9 => ?_) (fun c9 => ?_)
      · refine wq_aload_n dX13_account_32 0 rfl rfl ?_
        refine g_26_0 ln_RX13_9 dX13_account_33 ?_
        refine wq_bipush dX13_account_36 (by decide) ?_
        refine wq_iload_n dX13_account_38 1 rfl rfl ?_
        refine wq_iadd dX13_account_39 ?_
        refine wq_grd (fun g8 => ?_)
        refine wq_iald (k := 27) (i := 0) rfl (by decide) rfl rfl (m := 16860) g8 (Nat.le_of_ble_eq_true rfl) dX13_account_40 ?_
        exact wq_iret rfl rfl dX13_account_41
      · refine wq_iconst dX13_account_28 ?_
        refine wq_goto 41 dX13_account_29 (by decide) ?_
        exact wq_iret rfl rfl dX13_account_41) (fun hj10 => ?_)
  refine WQ.both ((w32 x4) = 0) ?_
  refine wq_if_ne 20 dX13_account_13 (by decide) rfl (fun c11 => ?_) (fun c11 => ?_)
  · refine wq_iconst dX13_account_16 ?_
    refine wq_goto 21 dX13_account_17 (by decide) ?_
    exact WQ.top (if_pos c11) hj10
  · refine wq_iconst dX13_account_20 ?_
    exact WQ.top (if_neg c11) hj10

theorem ln_RX13_464 : Cond.methodLink RX13 464 Lib.Math.abs.name ∈ lw_good := li_9 92 (by decide +kernel) (by decide +kernel)
noncomputable def f_M_gap_w24 (v1 : Int) (s : Int × Int) (I : Mem) : Option (((Int × Int) ⊕ (Int)) × Mem) :=
if (w32 s.2) < (w32 v1) then
if (w32 s.2) < (w32 (I 27 0 3)) then
if 0 ≤ (w32 s.2) ∧ (w32 s.2) < 401 then
if 0 ≤ (w32 (16460 + s.2)) ∧ (w32 (16460 + s.2)) < 16860 then
bnd (f_M_one (if (w32 (I 27 7 (w32 s.2).toNat)) = (w32 (I 27 0 (w32 (16460 + s.2)).toNat)) then 0 else 1) I) fun x11 J10 =>
some (.inl ((s.1 + x11), (s.2 + 1)), J10)
else none
else none
else
some (.inr s.1, I)
else
some (.inr s.1, I)

noncomputable def f_M_gap  (I : Mem) : Option ((Int) × Mem) :=
ltI (sI I 26 0 7 0) fun J1 =>
bnd (f_M_unfolds J1) fun x4 J3 =>
bnd (whl (f_M_gap_w24 x4) ((iab (x4 - (J3 27 0 3))), 0) J3) fun r33 J34 =>
some (r33, J34)
set_option maxRecDepth 20000 in
theorem R_M_gap (Z : ZT)  (I : Mem) (r : Int) (J : Mem) (hf : f_M_gap I = some (r, J)) : Runs Z yX13_gap cX13_gap 4 (some .int) 3 [vr Z 26 0] I (some (vi r), J) := by
  refine Runs.of (rv := fun x => some (vi x)) (by decide +kernel) (Nat.le_of_ble_eq_true rfl) hf (fun gr => ?_)
  unfold f_M_gap
  refine WQ.loc [0] (lv' := [(0, vr Z 26 0)]) rfl ?_
  refine wq_aload_n dX13_gap_0 0 rfl rfl ?_
  refine wq_iconst dX13_gap_1 ?_
  refine p_26_7 ln_RX13_100 dX13_gap_2 (fun J1 => ?_)
  refine wq_aload_n dX13_gap_5 0 rfl rfl ?_
  refine wq_cVi M_M_unfolds (R_M_unfolds Z _) ob_26 rfl rfl (by decide) (by decide) (Nat.le_of_ble_eq_true rfl) ln_RX13_140 dX13_gap_6 (fun gr2 x4 J3 => ?_)
  refine wq_istore_n (lv' := [(1, vi x4), (0, vr Z 26 0)]) dX13_gap_9 rfl (by decide) rfl ?_
  refine wq_iload_n dX13_gap_10 0 rfl rfl ?_
  refine wq_aload_n dX13_gap_11 1 rfl rfl ?_
  refine g_26_0 ln_RX13_9 dX13_gap_12 ?_
  refine wq_iconst dX13_gap_15 ?_
  refine wq_iald (k := 27) (i := 0) rfl (by decide) rfl rfl (m := 16860) (by decide) (Nat.le_of_ble_eq_true rfl) dX13_gap_16 ?_
  refine wq_isub dX13_gap_17 ?_
  refine wq_abs (by decide) (Nat.le_of_ble_eq_true rfl) ln_RX13_464 mt_abs_s mt_i mt_abs_c dX13_gap_18 ?_
  refine wq_istore_n (lv' := [(2, vi (iab (x4 - (J3 27 0 3)))), (1, vi x4), (0, vr Z 26 0)]) dX13_gap_21 rfl (by decide) rfl ?_
  refine wq_iconst dX13_gap_22 ?_
  refine wq_istore_n (lv' := [(3, vi 0), (2, vi (iab (x4 - (J3 27 0 3)))), (1, vi x4), (0, vr Z 26 0)]) dX13_gap_23 rfl (by decide) rfl ?_
  refine WQ.loc [3, 2, 1, 0] (lv' := [(0, vr Z 26 0), (1, vi x4), (2, vi (iab (x4 - (J3 27 0 3)))), (3, vi 0)]) rfl ?_
  refine wq_loopS (fun s22 => [(0, vr Z 26 0), (1, vi x4), (2, vi s22.1), (3, vi s22.2)]) 75 (fun r33 => [(2, vi r33)]) (fun κ16 bk17 ex18 gr21 s22 J20 => ?_) (fun gr35 r33 J34 => ?_) gr2 _ rfl
  · unfold f_M_gap_w24
    refine wq_iload_n dX13_gap_24 3 rfl rfl ?_
    refine wq_iload_n dX13_gap_25 1 rfl rfl ?_
    refine wq_icmp_ge 75 dX13_gap_26 (by decide) rfl rfl (fun c32 => ?_) (fun c32 => ?_)
    · refine wq_iload_n dX13_gap_29 3 rfl rfl ?_
      refine wq_aload_n dX13_gap_30 0 rfl rfl ?_
      refine g_26_0 ln_RX13_9 dX13_gap_31 ?_
      refine wq_iconst dX13_gap_34 ?_
      refine wq_iald (k := 27) (i := 0) rfl (by decide) rfl rfl (m := 16860) (by decide) (Nat.le_of_ble_eq_true rfl) dX13_gap_35 ?_
      refine wq_icmp_ge 75 dX13_gap_36 (by decide) rfl rfl (fun c31 => ?_) (fun c31 => ?_)
      · refine wq_iload_n dX13_gap_39 2 rfl rfl ?_
        refine wq_aload_n dX13_gap_40 0 rfl rfl ?_
        refine g_26_11 ln_RX13_37 dX13_gap_41 ?_
        refine wq_iload_n dX13_gap_44 3 rfl rfl ?_
        refine wq_grd (fun g24 => ?_)
        refine wq_iald (k := 27) (i := 7) rfl (by decide) rfl rfl (m := 401) g24 (Nat.le_of_ble_eq_true rfl) dX13_gap_45 ?_
        refine wq_aload_n dX13_gap_46 0 rfl rfl ?_
        refine g_26_0 ln_RX13_9 dX13_gap_47 ?_
        refine wq_sipush dX13_gap_50 (by decide) ?_
        refine wq_iload_n dX13_gap_53 3 rfl rfl ?_
        refine wq_iadd dX13_gap_54 ?_
        refine wq_grd (fun g25 => ?_)
        refine wq_iald (k := 27) (i := 0) rfl (by decide) rfl rfl (m := 16860) g25 (Nat.le_of_ble_eq_true rfl) dX13_gap_55 ?_
        refine WQ.via 64 [vi (if (w32 (J20 27 7 (w32 s22.2).toNat)) = (w32 (J20 27 0 (w32 (16460 + s22.2)).toNat)) then 0 else 1), vi s22.1] (by
            refine wq_cSi M_M_one (R_M_one Z (if (w32 (J20 27 7 (w32 s22.2).toNat)) = (w32 (J20 27 0 (w32 (16460 + s22.2)).toNat)) then 0 else 1) _) rfl rfl rfl (by decide) (by decide) (Nat.le_of_ble_eq_true rfl) ln_RX13_115 dX13_gap_64 (fun gr26 x28 J27 => ?_)
            refine wq_iadd dX13_gap_67 ?_
            refine wq_istore_n (lv' := [(2, vi (s22.1 + x28)), (0, vr Z 26 0), (1, vi x4), (3, vi s22.2)]) dX13_gap_68 rfl (by decide) rfl ?_
            refine wq_iinc (lv' := [(3, vi (s22.2 + 1)), (2, vi (s22.1 + x28)), (0, vr Z 26 0), (1, vi x4)]) dX13_gap_69 3 rfl (by decide) rfl ?_
            refine wq_goto 24 dX13_gap_72 (by decide) ?_
            exact WQ.loc [2, 3, 1, 0] rfl (bk17 _ _ _)) (fun hj29 => ?_)
        refine WQ.both ((w32 (J20 27 7 (w32 s22.2).toNat)) = (w32 (J20 27 0 (w32 (16460 + s22.2)).toNat))) ?_
        refine wq_icmp_eq 63 dX13_gap_56 (by decide) rfl rfl (fun c30 => ?_) (fun c30 => ?_)
        · refine wq_iconst dX13_gap_63 ?_
          exact WQ.top (if_pos c30) hj29
        · refine wq_iconst dX13_gap_59 ?_
          refine wq_goto 64 dX13_gap_60 (by decide) ?_
          exact WQ.top (if_neg c30) hj29
      · exact WQ.loc [2] rfl (ex18 _ _ _)
    · exact WQ.loc [2] rfl (ex18 _ _ _)
  · refine wq_iload_n dX13_gap_75 0 rfl rfl ?_
    exact wq_iret rfl rfl dX13_gap_76

noncomputable def f_M_rulesGap  (I : Mem) : Option ((Int) × Mem) :=
ltI (sI I 26 0 7 0) fun J1 =>
bnd (f_M_rules J1) fun x9 J8 =>
some (((((((J1 27 0 4) + (J1 27 0 7)) - (J1 27 0 8)) - (J1 27 0 9)) - (J1 27 0 10)) - x9), J8)
set_option maxRecDepth 20000 in
theorem R_M_rulesGap (Z : ZT)  (I : Mem) (r : Int) (J : Mem) (hf : f_M_rulesGap I = some (r, J)) : Runs Z yX13_rulesGap cX13_rulesGap 1 (some .int) 4 [vr Z 26 0] I (some (vi r), J) := by
  refine Runs.of (rv := fun x => some (vi x)) (by decide +kernel) (Nat.le_of_ble_eq_true rfl) hf (fun gr => ?_)
  unfold f_M_rulesGap
  refine WQ.loc [0] (lv' := [(0, vr Z 26 0)]) rfl ?_
  refine wq_aload_n dX13_rulesGap_0 0 rfl rfl ?_
  refine wq_iconst dX13_rulesGap_1 ?_
  refine p_26_7 ln_RX13_100 dX13_rulesGap_2 (fun J1 => ?_)
  refine wq_aload_n dX13_rulesGap_5 0 rfl rfl ?_
  refine g_26_0 ln_RX13_9 dX13_rulesGap_6 ?_
  refine wq_iconst dX13_rulesGap_9 ?_
  refine wq_iald (k := 27) (i := 0) rfl (by decide) rfl rfl (m := 16860) (by decide) (Nat.le_of_ble_eq_true rfl) dX13_rulesGap_10 ?_
  refine wq_aload_n dX13_rulesGap_11 0 rfl rfl ?_
  refine g_26_0 ln_RX13_9 dX13_rulesGap_12 ?_
  refine wq_bipush dX13_rulesGap_15 (by decide) ?_
  refine wq_iald (k := 27) (i := 0) rfl (by decide) rfl rfl (m := 16860) (by decide) (Nat.le_of_ble_eq_true rfl) dX13_rulesGap_17 ?_
  refine wq_iadd dX13_rulesGap_18 ?_
  refine wq_aload_n dX13_rulesGap_19 0 rfl rfl ?_
  refine g_26_0 ln_RX13_9 dX13_rulesGap_20 ?_
  refine wq_bipush dX13_rulesGap_23 (by decide) ?_
  refine wq_iald (k := 27) (i := 0) rfl (by decide) rfl rfl (m := 16860) (by decide) (Nat.le_of_ble_eq_true rfl) dX13_rulesGap_25 ?_
  refine wq_isub dX13_rulesGap_26 ?_
  refine wq_aload_n dX13_rulesGap_27 0 rfl rfl ?_
  refine g_26_0 ln_RX13_9 dX13_rulesGap_28 ?_
  refine wq_bipush dX13_rulesGap_31 (by decide) ?_
  refine wq_iald (k := 27) (i := 0) rfl (by decide) rfl rfl (m := 16860) (by decide) (Nat.le_of_ble_eq_true rfl) dX13_rulesGap_33 ?_
  refine wq_isub dX13_rulesGap_34 ?_
  refine wq_aload_n dX13_rulesGap_35 0 rfl rfl ?_
  refine g_26_0 ln_RX13_9 dX13_rulesGap_36 ?_
  refine wq_bipush dX13_rulesGap_39 (by decide) ?_
  refine wq_iald (k := 27) (i := 0) rfl (by decide) rfl rfl (m := 16860) (by decide) (Nat.le_of_ble_eq_true rfl) dX13_rulesGap_41 ?_
  refine wq_isub dX13_rulesGap_42 ?_
  refine wq_aload_n dX13_rulesGap_43 0 rfl rfl ?_
  refine wq_cVi M_M_rules (R_M_rules Z _) ob_26 rfl rfl (by decide) (by decide) (Nat.le_of_ble_eq_true rfl) ln_RX13_144 dX13_rulesGap_44 (fun gr7 x9 J8 => ?_)
  refine wq_isub dX13_rulesGap_47 ?_
  exact wq_iret rfl rfl dX13_rulesGap_48

noncomputable def f_M_noPair_j21    (I : Mem) : Option ((Int) × Mem) :=
bnd (f_M_fails 1 1 I) fun x16 J15 =>
if x16 = 0 ∨ x16 = 1 then
some (x16, J15)
else none

noncomputable def f_M_noPair (a1 : Int) (a2 : Int) (I : Mem) : Option ((Int) × Mem) :=
bnd (f_M_in a1 0 65 I) fun x3 J2 =>
if (w32 x3) = 0 then
f_M_noPair_j21 J2
else
bnd (f_M_in a2 0 65 J2) fun x7 J6 =>
if (w32 x7) = 0 then
f_M_noPair_j21 J6
else
bnd (f_M_fails 0 1 J6) fun x10 J9 =>
if x10 = 0 ∨ x10 = 1 then
some (x10, J9)
else none
set_option maxRecDepth 20000 in
theorem R_M_noPair (Z : ZT) (a1 : Int) (a2 : Int) (I : Mem) (r : Int) (J : Mem) (hf : f_M_noPair a1 a2 I = some (r, J)) : Runs Z yX13_noPair cX13_noPair 3 (some .boolean) 2 [vr Z 26 0, vi a1, vi a2] I (some (vi r), J) := by
  refine Runs.of (rv := fun x => some (vi x)) (by decide +kernel) (Nat.le_of_ble_eq_true rfl) hf (fun gr => ?_)
  unfold f_M_noPair
  refine WQ.loc [0, 1, 2] (lv' := [(0, vr Z 26 0), (1, vi a1), (2, vi a2)]) rfl ?_
  refine wq_aload_n dX13_noPair_0 0 rfl rfl ?_
  refine wq_iload_n dX13_noPair_1 1 rfl rfl ?_
  refine wq_iconst dX13_noPair_2 ?_
  refine wq_bipush dX13_noPair_3 (by decide) ?_
  refine wq_cSi M_M_in (R_M_in Z a1 0 65 _) rfl rfl rfl (by decide) (by decide) (Nat.le_of_ble_eq_true rfl) ln_RX13_224 dX13_noPair_5 (fun gr1 x3 J2 => ?_)
  have hj4 : ∀ (gr19 : Nat → Nat)   (J18 : Mem), WQ Z (yX13_noPair, cX13_noPair, 3, some .boolean, 2) I gr19 21 [] [vr Z 26 0] J18 (f_M_noPair_j21 J18) (fun b K => some (.inl ((fun x => some (vi x)) b), K)) := by
    intro gr19 J18
    unfold f_M_noPair_j21
    refine wq_iconst dX13_noPair_21 ?_
    refine wq_goto 26 dX13_noPair_22 (by decide) ?_
    refine wq_iconst dX13_noPair_26 ?_
    refine wq_cVi M_M_fails (R_M_fails Z 1 1 _) ob_26 rfl rfl (by decide) (by decide) (Nat.le_of_ble_eq_true rfl) ln_RX13_428 dX13_noPair_27 (fun gr20 x22 J21 => ?_)
    refine wq_grd (fun g23 => ?_)
    exact wq_zret rfl g23 rfl dX13_noPair_30
  refine wq_if_eq 21 dX13_noPair_8 (by decide) rfl (fun c13 => ?_) (fun c13 => ?_)
  · exact WQ.loc [] rfl (hj4 _   _)
  · refine wq_iload_n dX13_noPair_11 2 rfl rfl ?_
    refine wq_iconst dX13_noPair_12 ?_
    refine wq_bipush dX13_noPair_13 (by decide) ?_
    refine wq_cSi M_M_in (R_M_in Z a2 0 65 _) rfl rfl rfl (by decide) (by decide) (Nat.le_of_ble_eq_true rfl) ln_RX13_224 dX13_noPair_15 (fun gr5 x7 J6 => ?_)
    refine wq_if_ne 25 dX13_noPair_18 (by decide) rfl (fun c12 => ?_) (fun c12 => ?_)
    · exact WQ.loc [] rfl (hj4 _   _)
    · refine wq_iconst dX13_noPair_25 ?_
      refine wq_iconst dX13_noPair_26 ?_
      refine wq_cVi M_M_fails (R_M_fails Z 0 1 _) ob_26 rfl rfl (by decide) (by decide) (Nat.le_of_ble_eq_true rfl) ln_RX13_428 dX13_noPair_27 (fun gr8 x10 J9 => ?_)
      refine wq_grd (fun g11 => ?_)
      exact wq_zret rfl g11 rfl dX13_noPair_30

theorem M_M_noPair : MwV yX13_noPair cX13_noPair 3 (some .boolean) 2 := ⟨li_9 129 (by decide +kernel) (by decide +kernel), li_9 128 (by decide +kernel) (by decide +kernel), lw_in 128 (by decide +kernel) (by decide +kernel), li_1 16 (by decide +kernel) (by decide +kernel), by decide +kernel⟩
theorem ln_RX13_475 : Cond.methodLink RX13 475 yX13_noPair ∈ lw_good := li_9 126 (by decide +kernel) (by decide +kernel)
noncomputable def f_M_count (a1 : Int) (a2 : Int) (I : Mem) : Option ((Int) × Mem) :=
ltI (sI I 26 0 7 0) fun J1 =>
bnd (f_M_noPair a1 a2 J1) fun x4 J3 =>
if (w32 x4) = 0 then
bnd (f_M_laysPairs J3) fun _ J6 =>
bnd (f_M_pair a1 a2 J6) fun x10 J9 =>
if 0 ≤ (w32 x10) ∧ (w32 x10) < 4356 then
some ((J9 27 11 (w32 x10).toNat), J9)
else none
else
some (0, J3)
set_option maxRecDepth 20000 in
theorem R_M_count (Z : ZT) (a1 : Int) (a2 : Int) (I : Mem) (r : Int) (J : Mem) (hf : f_M_count a1 a2 I = some (r, J)) : Runs Z yX13_count cX13_count 3 (some .int) 4 [vr Z 26 0, vi a1, vi a2] I (some (vi r), J) := by
  refine Runs.of (rv := fun x => some (vi x)) (by decide +kernel) (Nat.le_of_ble_eq_true rfl) hf (fun gr => ?_)
  unfold f_M_count
  refine WQ.loc [0, 1, 2] (lv' := [(0, vr Z 26 0), (1, vi a1), (2, vi a2)]) rfl ?_
  refine wq_aload_n dX13_count_0 0 rfl rfl ?_
  refine wq_iconst dX13_count_1 ?_
  refine p_26_7 ln_RX13_100 dX13_count_2 (fun J1 => ?_)
  refine wq_aload_n dX13_count_5 0 rfl rfl ?_
  refine wq_iload_n dX13_count_6 1 rfl rfl ?_
  refine wq_iload_n dX13_count_7 2 rfl rfl ?_
  refine wq_cVi M_M_noPair (R_M_noPair Z a1 a2 _) ob_26 rfl rfl (by decide) (by decide) (Nat.le_of_ble_eq_true rfl) ln_RX13_475 dX13_count_8 (fun gr2 x4 J3 => ?_)
  refine wq_if_eq 16 dX13_count_11 (by decide) rfl (fun c12 => ?_) (fun c12 => ?_)
  · refine wq_aload_n dX13_count_16 0 rfl rfl ?_
    refine wq_cVv M_M_laysPairs (R_M_laysPairs Z _) ob_26 rfl rfl (by decide) (by decide) (Nat.le_of_ble_eq_true rfl) ln_RX13_160 dX13_count_17 (fun gr5 _ J6 => ?_)
    refine wq_aload_n dX13_count_20 0 rfl rfl ?_
    refine g_26_15 ln_RX13_49 dX13_count_21 ?_
    refine wq_iload_n dX13_count_24 1 rfl rfl ?_
    refine wq_iload_n dX13_count_25 2 rfl rfl ?_
    refine wq_cSi M_M_pair (R_M_pair Z a1 a2 _) rfl rfl rfl (by decide) (by decide) (Nat.le_of_ble_eq_true rfl) ln_RX13_147 dX13_count_26 (fun gr8 x10 J9 => ?_)
    refine wq_grd (fun g11 => ?_)
    refine wq_iald (k := 27) (i := 11) rfl (by decide) rfl rfl (m := 4356) g11 (Nat.le_of_ble_eq_true rfl) dX13_count_29 ?_
    exact wq_iret rfl rfl dX13_count_30
  · refine wq_iconst dX13_count_14 ?_
    exact wq_iret rfl rfl dX13_count_15

noncomputable def f_M_best (a1 : Int) (I : Mem) : Option ((Int) × Mem) :=
ltI (sI I 26 0 7 0) fun J1 =>
bnd (f_M_in a1 0 4 J1) fun x4 J3 =>
bnd (f_M_fails (if (w32 x4) = 0 then 1 else 0) 1 J3) fun x7 J6 =>
if (w32 x7) = 0 then
bnd (f_M_bestPair J6) fun x10 J9 =>
if (w32 x10) = (-1) then
if (w32 a1) = 4 then
some (0, J9)
else
some ((-1), J9)
else
if (w32 a1) = 0 then
some ((idv x10 66), J9)
else if (w32 a1) = 1 then
some ((irm x10 66), J9)
else if (w32 a1) = 2 then
if 0 ≤ (w32 x10) ∧ (w32 x10) < 4356 then
some ((J9 27 11 (w32 x10).toNat), J9)
else none
else if (w32 a1) = 3 then
if 0 ≤ (w32 x10) ∧ (w32 x10) < 4356 then
some ((J9 27 13 (w32 x10).toNat), J9)
else none
else if 0 ≤ (w32 x10) ∧ (w32 x10) < 4356 then
bnd (f_M_worthy (J9 27 11 (w32 x10).toNat) J9) fun x20 J19 =>
some (x20, J19)
else none
else
some (0, J6)
set_option maxRecDepth 20000 in
theorem R_M_best (Z : ZT) (a1 : Int) (I : Mem) (r : Int) (J : Mem) (hf : f_M_best a1 I = some (r, J)) : Runs Z yX13_best cX13_best 3 (some .int) 5 [vr Z 26 0, vi a1] I (some (vi r), J) := by
  refine Runs.of (rv := fun x => some (vi x)) (by decide +kernel) (Nat.le_of_ble_eq_true rfl) hf (fun gr => ?_)
  unfold f_M_best
  refine WQ.loc [0, 1] (lv' := [(0, vr Z 26 0), (1, vi a1)]) rfl ?_
  refine wq_aload_n dX13_best_0 0 rfl rfl ?_
  refine wq_iconst dX13_best_1 ?_
  refine p_26_7 ln_RX13_100 dX13_best_2 (fun J1 => ?_)
  refine wq_aload_n dX13_best_5 0 rfl rfl ?_
  refine wq_iload_n dX13_best_6 1 rfl rfl ?_
  refine wq_iconst dX13_best_7 ?_
  refine wq_iconst dX13_best_8 ?_
  refine wq_cSi M_M_in (R_M_in Z a1 0 4 _) rfl rfl rfl (by decide) (by decide) (Nat.le_of_ble_eq_true rfl) ln_RX13_224 dX13_best_9 (fun gr2 x4 J3 => ?_)
  refine WQ.via 20 [vi (if (w32 x4) = 0 then 1 else 0), vr Z 26 0] (by
      refine wq_iconst dX13_best_20 ?_
      refine wq_cVi M_M_fails (R_M_fails Z (if (w32 x4) = 0 then 1 else 0) 1 _) ob_26 rfl rfl (by decide) (by decide) (Nat.le_of_ble_eq_true rfl) ln_RX13_428 dX13_best_21 (fun gr5 x7 J6 => ?_)
      refine wq_if_eq 29 dX13_best_24 (by decide) rfl (fun c23 => ?_) (fun c23 => ?_)
      · refine wq_aload_n dX13_best_29 0 rfl rfl ?_
        refine wq_cVi M_M_bestPair (R_M_bestPair Z _) ob_26 rfl rfl (by decide) (by decide) (Nat.le_of_ble_eq_true rfl) ln_RX13_195 dX13_best_30 (fun gr8 x10 J9 => ?_)
        refine wq_istore_n (lv' := [(2, vi x10), (0, vr Z 26 0), (1, vi a1)]) dX13_best_33 rfl (by decide) rfl ?_
        refine wq_iload_n dX13_best_34 0 rfl rfl ?_
        refine wq_iconst dX13_best_35 ?_
        refine wq_icmp_ne 50 dX13_best_36 (by decide) rfl rfl (fun c22 => ?_) (fun c22 => ?_)
        · refine wq_iload_n dX13_best_39 2 rfl rfl ?_
          refine wq_iconst dX13_best_40 ?_
          refine wq_icmp_ne 48 dX13_best_41 (by decide) rfl rfl (fun c21 => ?_) (fun c21 => ?_)
          · refine wq_iconst dX13_best_44 ?_
            refine wq_goto 49 dX13_best_45 (by decide) ?_
            exact wq_iret rfl rfl dX13_best_49
          · refine wq_iconst dX13_best_48 ?_
            exact wq_iret rfl rfl dX13_best_49
        · refine wq_iload_n dX13_best_50 2 rfl rfl ?_
          refine WQ.split (fun c11 => ?_) (fun c11 => ?_)
          · refine wq_tin (n := 0) 80 dX13_best_51 rfl c11 (by decide) (by decide) rfl (by decide) ?_
            refine wq_iload_n dX13_best_80 0 rfl rfl ?_
            refine wq_bipush dX13_best_81 (by decide) ?_
            refine wq_idiv dX13_best_83 (by decide) ?_
            exact wq_iret rfl rfl dX13_best_84
          · skip
            refine WQ.split (fun c12 => ?_) (fun c12 => ?_)
            · refine wq_tin (n := 1) 85 dX13_best_51 rfl c12 (by decide) (by decide) rfl (by decide) ?_
              refine wq_iload_n dX13_best_85 0 rfl rfl ?_
              refine wq_bipush dX13_best_86 (by decide) ?_
              refine wq_irem dX13_best_88 (by decide) ?_
              exact wq_iret rfl rfl dX13_best_89
            · skip
              refine WQ.split (fun c14 => ?_) (fun c14 => ?_)
              · refine wq_tin (n := 2) 90 dX13_best_51 rfl c14 (by decide) (by decide) rfl (by decide) ?_
                refine wq_aload_n dX13_best_90 1 rfl rfl ?_
                refine g_26_15 ln_RX13_49 dX13_best_91 ?_
                refine wq_iload_n dX13_best_94 0 rfl rfl ?_
                refine wq_grd (fun g13 => ?_)
                refine wq_iald (k := 27) (i := 11) rfl (by decide) rfl rfl (m := 4356) g13 (Nat.le_of_ble_eq_true rfl) dX13_best_95 ?_
                exact wq_iret rfl rfl dX13_best_96
              · skip
                refine WQ.split (fun c16 => ?_) (fun c16 => ?_)
                · refine wq_tin (n := 3) 97 dX13_best_51 rfl c16 (by decide) (by decide) rfl (by decide) ?_
                  refine wq_aload_n dX13_best_97 1 rfl rfl ?_
                  refine g_26_17 ln_RX13_55 dX13_best_98 ?_
                  refine wq_iload_n dX13_best_101 0 rfl rfl ?_
                  refine wq_grd (fun g15 => ?_)
                  refine wq_iald (k := 27) (i := 13) rfl (by decide) rfl rfl (m := 4356) g15 (Nat.le_of_ble_eq_true rfl) dX13_best_102 ?_
                  exact wq_iret rfl rfl dX13_best_103
                · skip
                  refine wq_tout 104 dX13_best_51 rfl (by omega) (by decide) ?_
                  refine wq_aload_n dX13_best_104 1 rfl rfl ?_
                  refine wq_aload_n dX13_best_105 1 rfl rfl ?_
                  refine g_26_15 ln_RX13_49 dX13_best_106 ?_
                  refine wq_iload_n dX13_best_109 0 rfl rfl ?_
                  refine wq_grd (fun g17 => ?_)
                  refine wq_iald (k := 27) (i := 11) rfl (by decide) rfl rfl (m := 4356) g17 (Nat.le_of_ble_eq_true rfl) dX13_best_110 ?_
                  refine wq_cVi M_M_worthy (R_M_worthy Z (J9 27 11 (w32 x10).toNat) _) ob_26 rfl rfl (by decide) (by decide) (Nat.le_of_ble_eq_true rfl) ln_RX13_425 dX13_best_111 (fun gr18 x20 J19 => ?_)
                  exact wq_iret rfl rfl dX13_best_114
      · refine wq_iconst dX13_best_27 ?_
        exact wq_iret rfl rfl dX13_best_28) (fun hj24 => ?_)
  refine WQ.both ((w32 x4) = 0) ?_
  refine wq_if_ne 19 dX13_best_12 (by decide) rfl (fun c25 => ?_) (fun c25 => ?_)
  · refine wq_iconst dX13_best_15 ?_
    refine wq_goto 20 dX13_best_16 (by decide) ?_
    exact WQ.top (if_pos c25) hj24
  · refine wq_iconst dX13_best_19 ?_
    exact WQ.top (if_neg c25) hj24

noncomputable def f_M_why_j90 (v3 : Int) (v4 : Int)   (I : Mem) : Option ((Int) × Mem) :=
if (w32 v3) = (w32 v4) then
some (0, I)
else
if 0 ≤ (w32 v3) ∧ (w32 v3) < 4356 then
if 0 ≤ (w32 v4) ∧ (w32 v4) < 4356 then
if (w32 (I 27 11 (w32 v4).toNat)) < (w32 (I 27 11 (w32 v3).toNat)) then
some (4, I)
else
some (5, I)
else none
else none

noncomputable def f_M_why_j69 (v3 : Int) (v4 : Int)   (I : Mem) : Option ((Int) × Mem) :=
if 0 ≤ (w32 v4) ∧ (w32 v4) < 4356 then
if (w32 (I 27 13 (w32 v4).toNat)) = (-1) then
bnd (f_M_freeRule I) fun x20 J19 =>
if (w32 x20) = (-1) then
some (3, J19)
else
f_M_why_j90 v3 v4 J19
else
f_M_why_j90 v3 v4 I
else none

noncomputable def f_M_why (a1 : Int) (a2 : Int) (I : Mem) : Option ((Int) × Mem) :=
ltI (sI I 26 0 7 0) fun J1 =>
bnd (f_M_noPair a1 a2 J1) fun x4 J3 =>
if (w32 x4) = 0 then
bnd (f_M_bestPair J3) fun x7 J6 =>
bnd (f_M_pair a1 a2 J6) fun x10 J9 =>
if 0 ≤ (w32 x10) ∧ (w32 x10) < 4356 then
if (w32 (J9 27 11 (w32 x10).toNat)) = 0 then
some (1, J9)
else
if (w32 (J9 27 13 (w32 x10).toNat)) = (-1) then
if (w32 (J9 27 11 (w32 x10).toNat)) < (w32 (J9 27 0 0)) then
some (2, J9)
else
f_M_why_j69 x7 x10 J9
else
f_M_why_j69 x7 x10 J9
else none
else
some (0, J3)
set_option maxRecDepth 20000 in
theorem R_M_why (Z : ZT) (a1 : Int) (a2 : Int) (I : Mem) (r : Int) (J : Mem) (hf : f_M_why a1 a2 I = some (r, J)) : Runs Z yX13_why cX13_why 5 (some .int) 5 [vr Z 26 0, vi a1, vi a2] I (some (vi r), J) := by
  refine Runs.of (rv := fun x => some (vi x)) (by decide +kernel) (Nat.le_of_ble_eq_true rfl) hf (fun gr => ?_)
  unfold f_M_why
  refine WQ.loc [0, 1, 2] (lv' := [(0, vr Z 26 0), (1, vi a1), (2, vi a2)]) rfl ?_
  refine wq_aload_n dX13_why_0 0 rfl rfl ?_
  refine wq_iconst dX13_why_1 ?_
  refine p_26_7 ln_RX13_100 dX13_why_2 (fun J1 => ?_)
  refine wq_aload_n dX13_why_5 0 rfl rfl ?_
  refine wq_iload_n dX13_why_6 1 rfl rfl ?_
  refine wq_iload_n dX13_why_7 2 rfl rfl ?_
  refine wq_cVi M_M_noPair (R_M_noPair Z a1 a2 _) ob_26 rfl rfl (by decide) (by decide) (Nat.le_of_ble_eq_true rfl) ln_RX13_475 dX13_why_8 (fun gr2 x4 J3 => ?_)
  refine wq_if_eq 16 dX13_why_11 (by decide) rfl (fun c49 => ?_) (fun c49 => ?_)
  · refine wq_aload_n dX13_why_16 0 rfl rfl ?_
    refine wq_cVi M_M_bestPair (R_M_bestPair Z _) ob_26 rfl rfl (by decide) (by decide) (Nat.le_of_ble_eq_true rfl) ln_RX13_195 dX13_why_17 (fun gr5 x7 J6 => ?_)
    refine wq_istore_n (lv' := [(3, vi x7), (0, vr Z 26 0), (1, vi a1), (2, vi a2)]) dX13_why_20 rfl (by decide) rfl ?_
    refine wq_iload_n dX13_why_21 2 rfl rfl ?_
    refine wq_iload_n dX13_why_22 3 rfl rfl ?_
    refine wq_cSi M_M_pair (R_M_pair Z a1 a2 _) rfl rfl rfl (by decide) (by decide) (Nat.le_of_ble_eq_true rfl) ln_RX13_147 dX13_why_23 (fun gr8 x10 J9 => ?_)
    refine wq_istore (lv' := [(4, vi x10), (3, vi x7), (0, vr Z 26 0), (1, vi a1), (2, vi a2)]) dX13_why_26 (by decide) rfl ?_
    refine wq_aload_n dX13_why_28 2 rfl rfl ?_
    refine g_26_15 ln_RX13_49 dX13_why_29 ?_
    refine wq_iload dX13_why_32 0 rfl ?_
    refine wq_grd (fun g11 => ?_)
    refine wq_iald (k := 27) (i := 11) rfl (by decide) rfl rfl (m := 4356) g11 (Nat.le_of_ble_eq_true rfl) dX13_why_34 ?_
    refine wq_if_ne 40 dX13_why_35 (by decide) rfl (fun c48 => ?_) (fun c48 => ?_)
    · refine wq_iconst dX13_why_38 ?_
      exact wq_iret rfl rfl dX13_why_39
    · refine wq_aload_n dX13_why_40 2 rfl rfl ?_
      refine g_26_17 ln_RX13_55 dX13_why_41 ?_
      refine wq_iload dX13_why_44 0 rfl ?_
      refine wq_iald (k := 27) (i := 13) rfl (by decide) rfl rfl (m := 4356) g11 (Nat.le_of_ble_eq_true rfl) dX13_why_46 ?_
      refine wq_iconst dX13_why_47 ?_
      have hj12 : ∀ (gr34 : Nat → Nat)   (J33 : Mem), WQ Z (yX13_why, cX13_why, 5, some .int, 5) I gr34 69 [(0, vr Z 26 0), (3, vi x7), (4, vi x10)] [] J33 (f_M_why_j69 x7 x10 J33) (fun b K => some (.inl ((fun x => some (vi x)) b), K)) := by
        intro gr34 J33
        unfold f_M_why_j69
        refine wq_aload_n dX13_why_69 0 rfl rfl ?_
        refine g_26_17 ln_RX13_55 dX13_why_70 ?_
        refine wq_iload dX13_why_73 2 rfl ?_
        refine wq_grd (fun g35 => ?_)
        refine wq_iald (k := 27) (i := 13) rfl (by decide) rfl rfl (m := 4356) g35 (Nat.le_of_ble_eq_true rfl) dX13_why_75 ?_
        refine wq_iconst dX13_why_76 ?_
        have hj36 : ∀ (gr43 : Nat → Nat)   (J42 : Mem), WQ Z (yX13_why, cX13_why, 5, some .int, 5) I gr43 90 [(0, vr Z 26 0), (3, vi x7), (4, vi x10)] [] J42 (f_M_why_j90 x7 x10 J42) (fun b K => some (.inl ((fun x => some (vi x)) b), K)) := by
          intro gr43 J42
          unfold f_M_why_j90
          refine wq_iload_n dX13_why_90 1 rfl rfl ?_
          refine wq_iload dX13_why_91 2 rfl ?_
          refine wq_icmp_ne 100 dX13_why_93 (by decide) rfl rfl (fun c47 => ?_) (fun c47 => ?_)
          · refine wq_iconst dX13_why_96 ?_
            refine wq_goto 121 dX13_why_97 (by decide) ?_
            exact wq_iret rfl rfl dX13_why_121
          · refine wq_aload_n dX13_why_100 0 rfl rfl ?_
            refine g_26_15 ln_RX13_49 dX13_why_101 ?_
            refine wq_iload_n dX13_why_104 1 rfl rfl ?_
            refine wq_grd (fun g44 => ?_)
            refine wq_iald (k := 27) (i := 11) rfl (by decide) rfl rfl (m := 4356) g44 (Nat.le_of_ble_eq_true rfl) dX13_why_105 ?_
            refine wq_aload_n dX13_why_106 0 rfl rfl ?_
            refine g_26_15 ln_RX13_49 dX13_why_107 ?_
            refine wq_iload dX13_why_110 2 rfl ?_
            refine wq_grd (fun g45 => ?_)
            refine wq_iald (k := 27) (i := 11) rfl (by decide) rfl rfl (m := 4356) g45 (Nat.le_of_ble_eq_true rfl) dX13_why_112 ?_
            refine wq_icmp_le 120 dX13_why_113 (by decide) rfl rfl (fun c46 => ?_) (fun c46 => ?_)
            · refine wq_iconst dX13_why_116 ?_
              refine wq_goto 121 dX13_why_117 (by decide) ?_
              exact wq_iret rfl rfl dX13_why_121
            · refine wq_iconst dX13_why_120 ?_
              exact wq_iret rfl rfl dX13_why_121
        refine wq_icmp_ne 90 dX13_why_77 (by decide) rfl rfl (fun c41 => ?_) (fun c41 => ?_)
        · refine wq_aload_n dX13_why_80 0 rfl rfl ?_
          refine wq_cVi M_M_freeRule (R_M_freeRule Z _) ob_26 rfl rfl (by decide) (by decide) (Nat.le_of_ble_eq_true rfl) ln_RX13_163 dX13_why_81 (fun gr37 x39 J38 => ?_)
          refine wq_iconst dX13_why_84 ?_
          refine wq_icmp_ne 90 dX13_why_85 (by decide) rfl rfl (fun c40 => ?_) (fun c40 => ?_)
          · refine wq_iconst dX13_why_88 ?_
            exact wq_iret rfl rfl dX13_why_89
          · exact WQ.loc [0, 1, 2] rfl (hj36 _   _)
        · exact WQ.loc [0, 1, 2] rfl (hj36 _   _)
      refine wq_icmp_ne 69 dX13_why_48 (by decide) rfl rfl (fun c15 => ?_) (fun c15 => ?_)
      · refine wq_aload_n dX13_why_51 2 rfl rfl ?_
        refine g_26_15 ln_RX13_49 dX13_why_52 ?_
        refine wq_iload dX13_why_55 0 rfl ?_
        refine wq_iald (k := 27) (i := 11) rfl (by decide) rfl rfl (m := 4356) g11 (Nat.le_of_ble_eq_true rfl) dX13_why_57 ?_
        refine wq_aload_n dX13_why_58 2 rfl rfl ?_
        refine g_26_0 ln_RX13_9 dX13_why_59 ?_
        refine wq_iconst dX13_why_62 ?_
        refine wq_iald (k := 27) (i := 0) rfl (by decide) rfl rfl (m := 16860) (by decide) (Nat.le_of_ble_eq_true rfl) dX13_why_63 ?_
        refine wq_icmp_ge 69 dX13_why_64 (by decide) rfl rfl (fun c14 => ?_) (fun c14 => ?_)
        · refine wq_iconst dX13_why_67 ?_
          exact wq_iret rfl rfl dX13_why_68
        · exact WQ.loc [2, 1, 0] rfl (hj12 _   _)
      · exact WQ.loc [2, 1, 0] rfl (hj12 _   _)
  · refine wq_iconst dX13_why_14 ?_
    exact wq_iret rfl rfl dX13_why_15

noncomputable def f_M_gain (a1 : Int) (a2 : Int) (I : Mem) : Option ((Int) × Mem) :=
ltI (sI I 26 0 7 0) fun J1 =>
bnd (f_M_noPair a1 a2 J1) fun x4 J3 =>
if (w32 x4) = 0 then
bnd (f_M_laysPairs J3) fun _ J6 =>
bnd (f_M_pair a1 a2 J6) fun x10 J9 =>
if 0 ≤ (w32 x10) ∧ (w32 x10) < 4356 then
if (w32 (J9 27 11 (w32 x10).toNat)) = 0 then
some (0, J9)
else
some (((J9 27 11 (w32 x10).toNat) - (if (w32 (J9 27 13 (w32 x10).toNat)) = (-1) then 2 else 0)), J9)
else none
else
some (0, J3)
set_option maxRecDepth 20000 in
theorem R_M_gain (Z : ZT) (a1 : Int) (a2 : Int) (I : Mem) (r : Int) (J : Mem) (hf : f_M_gain a1 a2 I = some (r, J)) : Runs Z yX13_gain cX13_gain 4 (some .int) 4 [vr Z 26 0, vi a1, vi a2] I (some (vi r), J) := by
  refine Runs.of (rv := fun x => some (vi x)) (by decide +kernel) (Nat.le_of_ble_eq_true rfl) hf (fun gr => ?_)
  unfold f_M_gain
  refine WQ.loc [0, 1, 2] (lv' := [(0, vr Z 26 0), (1, vi a1), (2, vi a2)]) rfl ?_
  refine wq_aload_n dX13_gain_0 0 rfl rfl ?_
  refine wq_iconst dX13_gain_1 ?_
  refine p_26_7 ln_RX13_100 dX13_gain_2 (fun J1 => ?_)
  refine wq_aload_n dX13_gain_5 0 rfl rfl ?_
  refine wq_iload_n dX13_gain_6 1 rfl rfl ?_
  refine wq_iload_n dX13_gain_7 2 rfl rfl ?_
  refine wq_cVi M_M_noPair (R_M_noPair Z a1 a2 _) ob_26 rfl rfl (by decide) (by decide) (Nat.le_of_ble_eq_true rfl) ln_RX13_475 dX13_gain_8 (fun gr2 x4 J3 => ?_)
  refine wq_if_eq 16 dX13_gain_11 (by decide) rfl (fun c15 => ?_) (fun c15 => ?_)
  · refine wq_aload_n dX13_gain_16 0 rfl rfl ?_
    refine wq_cVv M_M_laysPairs (R_M_laysPairs Z _) ob_26 rfl rfl (by decide) (by decide) (Nat.le_of_ble_eq_true rfl) ln_RX13_160 dX13_gain_17 (fun gr5 _ J6 => ?_)
    refine wq_iload_n dX13_gain_20 1 rfl rfl ?_
    refine wq_iload_n dX13_gain_21 2 rfl rfl ?_
    refine wq_cSi M_M_pair (R_M_pair Z a1 a2 _) rfl rfl rfl (by decide) (by decide) (Nat.le_of_ble_eq_true rfl) ln_RX13_147 dX13_gain_22 (fun gr8 x10 J9 => ?_)
    refine wq_istore_n (lv' := [(3, vi x10), (0, vr Z 26 0), (1, vi a1), (2, vi a2)]) dX13_gain_25 rfl (by decide) rfl ?_
    refine wq_aload_n dX13_gain_26 1 rfl rfl ?_
    refine g_26_15 ln_RX13_49 dX13_gain_27 ?_
    refine wq_iload_n dX13_gain_30 0 rfl rfl ?_
    refine wq_grd (fun g11 => ?_)
    refine wq_iald (k := 27) (i := 11) rfl (by decide) rfl rfl (m := 4356) g11 (Nat.le_of_ble_eq_true rfl) dX13_gain_31 ?_
    refine wq_if_ne 39 dX13_gain_32 (by decide) rfl (fun c14 => ?_) (fun c14 => ?_)
    · refine wq_iconst dX13_gain_35 ?_
      refine wq_goto 61 dX13_gain_36 (by decide) ?_
      exact wq_iret rfl rfl dX13_gain_61
    · refine wq_aload_n dX13_gain_39 1 rfl rfl ?_
      refine g_26_15 ln_RX13_49 dX13_gain_40 ?_
      refine wq_iload_n dX13_gain_43 0 rfl rfl ?_
      refine wq_iald (k := 27) (i := 11) rfl (by decide) rfl rfl (m := 4356) g11 (Nat.le_of_ble_eq_true rfl) dX13_gain_44 ?_
      refine wq_aload_n dX13_gain_45 1 rfl rfl ?_
      refine g_26_17 ln_RX13_55 dX13_gain_46 ?_
      refine wq_iload_n dX13_gain_49 0 rfl rfl ?_
      refine wq_iald (k := 27) (i := 13) rfl (by decide) rfl rfl (m := 4356) g11 (Nat.le_of_ble_eq_true rfl) dX13_gain_50 ?_
      refine wq_iconst dX13_gain_51 ?_
      refine WQ.via 60 [vi (if (w32 (J9 27 13 (w32 x10).toNat)) = (-1) then 2 else 0), vi (J9 27 11 (w32 x10).toNat)] (by
          refine wq_isub dX13_gain_60 ?_
          exact wq_iret rfl rfl dX13_gain_61) (fun hj12 => ?_)
      refine WQ.both ((w32 (J9 27 13 (w32 x10).toNat)) = (-1)) ?_
      refine wq_icmp_ne 59 dX13_gain_52 (by decide) rfl rfl (fun c13 => ?_) (fun c13 => ?_)
      · refine wq_iconst dX13_gain_55 ?_
        refine wq_goto 60 dX13_gain_56 (by decide) ?_
        exact WQ.top (if_pos c13) hj12
      · refine wq_iconst dX13_gain_59 ?_
        exact WQ.top (if_neg c13) hj12
  · refine wq_iconst dX13_gain_14 ?_
    exact wq_iret rfl rfl dX13_gain_15

noncomputable def f_M_stepsLeft_w11  (s : Int) (I : Mem) : Option (((Int) ⊕ (Int)) × Mem) :=
bnd (f_M_steps I) fun x7 J6 =>
if (w32 x7) = 0 then
some (.inr s, J6)
else
some (.inl (s + 1), J6)

noncomputable def f_M_stepsLeft  (I : Mem) : Option ((Int) × Mem) :=
ltI (sI I 26 0 7 0) fun J1 =>
bnd (f_M_aside J1) fun _ J3 =>
bnd (whl (f_M_stepsLeft_w11) 0 J3) fun r20 J21 =>
bnd (f_M_back r20 J21) fun x25 J24 =>
some (x25, J24)
set_option maxRecDepth 20000 in
theorem R_M_stepsLeft (Z : ZT)  (I : Mem) (r : Int) (J : Mem) (hf : f_M_stepsLeft I = some (r, J)) : Runs Z yX13_stepsLeft cX13_stepsLeft 2 (some .int) 7 [vr Z 26 0] I (some (vi r), J) := by
  refine Runs.of (rv := fun x => some (vi x)) (by decide +kernel) (Nat.le_of_ble_eq_true rfl) hf (fun gr => ?_)
  unfold f_M_stepsLeft
  refine WQ.loc [0] (lv' := [(0, vr Z 26 0)]) rfl ?_
  refine wq_aload_n dX13_stepsLeft_0 0 rfl rfl ?_
  refine wq_iconst dX13_stepsLeft_1 ?_
  refine p_26_7 ln_RX13_100 dX13_stepsLeft_2 (fun J1 => ?_)
  refine wq_aload_n dX13_stepsLeft_5 0 rfl rfl ?_
  refine wq_cVv M_M_aside (R_M_aside Z _) ob_26 rfl rfl (by decide) (by decide) (Nat.le_of_ble_eq_true rfl) ln_RX13_330 dX13_stepsLeft_6 (fun gr2 _ J3 => ?_)
  refine wq_iconst dX13_stepsLeft_9 ?_
  refine wq_istore_n (lv' := [(1, vi 0), (0, vr Z 26 0)]) dX13_stepsLeft_10 rfl (by decide) rfl ?_
  refine WQ.loc [1, 0] (lv' := [(0, vr Z 26 0), (1, vi 0)]) rfl ?_
  refine wq_loopS (fun s15 => [(0, vr Z 26 0), (1, vi s15)]) 24 (fun r20 => [(0, vr Z 26 0), (1, vi r20)]) (fun κ9 bk10 ex11 gr14 s15 J13 => ?_) (fun gr22 r20 J21 => ?_) gr2 _ rfl
  · unfold f_M_stepsLeft_w11
    refine wq_aload_n dX13_stepsLeft_11 0 rfl rfl ?_
    refine wq_cVi M_M_steps (R_M_steps Z _) ob_26 rfl rfl (by decide) (by decide) (Nat.le_of_ble_eq_true rfl) ln_RX13_204 dX13_stepsLeft_12 (fun gr16 x18 J17 => ?_)
    refine wq_if_eq 24 dX13_stepsLeft_15 (by decide) rfl (fun c19 => ?_) (fun c19 => ?_)
    · exact WQ.loc [0, 1] rfl (ex11 _ _ _)
    · refine wq_iinc (lv' := [(1, vi (s15 + 1)), (0, vr Z 26 0)]) dX13_stepsLeft_18 1 rfl (by decide) rfl ?_
      refine wq_goto 11 dX13_stepsLeft_21 (by decide) ?_
      exact WQ.loc [1, 0] rfl (bk10 _ _ _)
  · refine wq_aload_n dX13_stepsLeft_24 0 rfl rfl ?_
    refine wq_iload_n dX13_stepsLeft_25 1 rfl rfl ?_
    refine wq_cVi M_M_back (R_M_back Z r20 _) ob_26 rfl rfl (by decide) (by decide) (Nat.le_of_ble_eq_true rfl) ln_RX13_339 dX13_stepsLeft_26 (fun gr23 x25 J24 => ?_)
    exact wq_iret rfl rfl dX13_stepsLeft_29

theorem M_M_stepsMany : MwV yX13_stepsMany cX13_stepsMany 3 (some .int) 1 := ⟨li_8 132 (by decide +kernel) (by decide +kernel), li_8 131 (by decide +kernel) (by decide +kernel), lw_in 88 (by decide +kernel) (by decide +kernel), li_1 16 (by decide +kernel) (by decide +kernel), by decide +kernel⟩
theorem ln_RX13_391 : Cond.methodLink RX13 391 yX13_stepsMany ∈ lw_good := li_8 129 (by decide +kernel) (by decide +kernel)
noncomputable def f_M_sizeIn (a1 : Int) (I : Mem) : Option ((Int) × Mem) :=
ltI (sI I 26 0 7 0) fun J1 =>
bnd (f_M_in a1 0 100 J1) fun x4 J3 =>
bnd (f_M_fails (if (w32 x4) = 0 then 1 else 0) 1 J3) fun x7 J6 =>
if (w32 x7) = 0 then
bnd (f_M_aside J6) fun _ J9 =>
bnd (f_M_stepsMany a1 J9) fun x13 J12 =>
bnd (f_M_sizeNow J12) fun x16 J15 =>
bnd (f_M_back x16 J15) fun x19 J18 =>
some (x19, J18)
else
some (0, J6)
set_option maxRecDepth 20000 in
theorem R_M_sizeIn (Z : ZT) (a1 : Int) (I : Mem) (r : Int) (J : Mem) (hf : f_M_sizeIn a1 I = some (r, J)) : Runs Z yX13_sizeIn cX13_sizeIn 3 (some .int) 8 [vr Z 26 0, vi a1] I (some (vi r), J) := by
  refine Runs.of (rv := fun x => some (vi x)) (by decide +kernel) (Nat.le_of_ble_eq_true rfl) hf (fun gr => ?_)
  unfold f_M_sizeIn
  refine WQ.loc [0, 1] (lv' := [(0, vr Z 26 0), (1, vi a1)]) rfl ?_
  refine wq_aload_n dX13_sizeIn_0 0 rfl rfl ?_
  refine wq_iconst dX13_sizeIn_1 ?_
  refine p_26_7 ln_RX13_100 dX13_sizeIn_2 (fun J1 => ?_)
  refine wq_aload_n dX13_sizeIn_5 0 rfl rfl ?_
  refine wq_iload_n dX13_sizeIn_6 1 rfl rfl ?_
  refine wq_iconst dX13_sizeIn_7 ?_
  refine wq_bipush dX13_sizeIn_8 (by decide) ?_
  refine wq_cSi M_M_in (R_M_in Z a1 0 100 _) rfl rfl rfl (by decide) (by decide) (Nat.le_of_ble_eq_true rfl) ln_RX13_224 dX13_sizeIn_10 (fun gr2 x4 J3 => ?_)
  refine WQ.via 21 [vi (if (w32 x4) = 0 then 1 else 0), vr Z 26 0] (by
      refine wq_iconst dX13_sizeIn_21 ?_
      refine wq_cVi M_M_fails (R_M_fails Z (if (w32 x4) = 0 then 1 else 0) 1 _) ob_26 rfl rfl (by decide) (by decide) (Nat.le_of_ble_eq_true rfl) ln_RX13_428 dX13_sizeIn_22 (fun gr5 x7 J6 => ?_)
      refine wq_if_eq 30 dX13_sizeIn_25 (by decide) rfl (fun c20 => ?_) (fun c20 => ?_)
      · refine wq_aload_n dX13_sizeIn_30 0 rfl rfl ?_
        refine wq_cVv M_M_aside (R_M_aside Z _) ob_26 rfl rfl (by decide) (by decide) (Nat.le_of_ble_eq_true rfl) ln_RX13_330 dX13_sizeIn_31 (fun gr8 _ J9 => ?_)
        refine wq_aload_n dX13_sizeIn_34 0 rfl rfl ?_
        refine wq_iload_n dX13_sizeIn_35 1 rfl rfl ?_
        refine wq_cVi M_M_stepsMany (R_M_stepsMany Z a1 _) ob_26 rfl rfl (by decide) (by decide) (Nat.le_of_ble_eq_true rfl) ln_RX13_391 dX13_sizeIn_36 (fun gr11 x13 J12 => ?_)
        refine wq_istore_n (lv' := [(2, vi x13), (0, vr Z 26 0), (1, vi a1)]) dX13_sizeIn_39 rfl (by decide) rfl ?_
        refine wq_aload_n dX13_sizeIn_40 1 rfl rfl ?_
        refine wq_aload_n dX13_sizeIn_41 1 rfl rfl ?_
        refine wq_cVi M_M_sizeNow (R_M_sizeNow Z _) ob_26 rfl rfl (by decide) (by decide) (Nat.le_of_ble_eq_true rfl) ln_RX13_431 dX13_sizeIn_42 (fun gr14 x16 J15 => ?_)
        refine wq_cVi M_M_back (R_M_back Z x16 _) ob_26 rfl rfl (by decide) (by decide) (Nat.le_of_ble_eq_true rfl) ln_RX13_339 dX13_sizeIn_45 (fun gr17 x19 J18 => ?_)
        exact wq_iret rfl rfl dX13_sizeIn_48
      · refine wq_iconst dX13_sizeIn_28 ?_
        exact wq_iret rfl rfl dX13_sizeIn_29) (fun hj21 => ?_)
  refine WQ.both ((w32 x4) = 0) ?_
  refine wq_if_ne 20 dX13_sizeIn_13 (by decide) rfl (fun c22 => ?_) (fun c22 => ?_)
  · refine wq_iconst dX13_sizeIn_16 ?_
    refine wq_goto 21 dX13_sizeIn_17 (by decide) ?_
    exact WQ.top (if_pos c22) hj21
  · refine wq_iconst dX13_sizeIn_20 ?_
    exact WQ.top (if_neg c22) hj21

noncomputable def f_M_sizeWith_w13  (s : Int) (I : Mem) : Option (((Int) ⊕ (Unit)) × Mem) :=
if (w32 s) = 0 then
some (.inr (), I)
else
bnd (f_M_steps I) fun x8 J7 =>
some (.inl x8, J7)

noncomputable def f_M_sizeWith (a1 : Int) (a2 : Int) (I : Mem) : Option ((Int) × Mem) :=
bnd (f_M_aside I) fun _ J2 =>
if 0 ≤ (w32 a1) ∧ (w32 a1) < 16860 then
ltI (sI J2 27 0 (w32 a1).toNat a2) fun J5 =>
bnd (whl (f_M_sizeWith_w13) 1 J5) fun r21 J22 =>
bnd (f_M_sizeNow J22) fun x26 J25 =>
bnd (f_M_back x26 J25) fun x29 J28 =>
some (x29, J28)
else none
set_option maxRecDepth 20000 in
theorem R_M_sizeWith (Z : ZT) (a1 : Int) (a2 : Int) (I : Mem) (r : Int) (J : Mem) (hf : f_M_sizeWith a1 a2 I = some (r, J)) : Runs Z yX13_sizeWith cX13_sizeWith 4 (some .int) 7 [vr Z 26 0, vi a1, vi a2] I (some (vi r), J) := by
  refine Runs.of (rv := fun x => some (vi x)) (by decide +kernel) (Nat.le_of_ble_eq_true rfl) hf (fun gr => ?_)
  unfold f_M_sizeWith
  refine WQ.loc [0, 1, 2] (lv' := [(0, vr Z 26 0), (1, vi a1), (2, vi a2)]) rfl ?_
  refine wq_aload_n dX13_sizeWith_0 0 rfl rfl ?_
  refine wq_cVv M_M_aside (R_M_aside Z _) ob_26 rfl rfl (by decide) (by decide) (Nat.le_of_ble_eq_true rfl) ln_RX13_330 dX13_sizeWith_1 (fun gr1 _ J2 => ?_)
  refine wq_aload_n dX13_sizeWith_4 0 rfl rfl ?_
  refine g_26_0 ln_RX13_9 dX13_sizeWith_5 ?_
  refine wq_iload_n dX13_sizeWith_8 1 rfl rfl ?_
  refine wq_iload_n dX13_sizeWith_9 2 rfl rfl ?_
  refine wq_grd (fun g4 => ?_)
  refine wq_iast (k := 27) (i := 0) (fun _ _ => rfl) (by decide) rfl rfl (m := 16860) g4 (Nat.le_of_ble_eq_true rfl) (by decide) (by decide) (by decide) dX13_sizeWith_10 (fun J5 => ?_)
  refine wq_iconst dX13_sizeWith_11 ?_
  refine wq_istore_n (lv' := [(3, vi 1), (0, vr Z 26 0), (1, vi a1), (2, vi a2)]) dX13_sizeWith_12 rfl (by decide) rfl ?_
  refine WQ.loc [1, 0] (lv' := [(0, vr Z 26 0), (3, vi 1)]) rfl ?_
  refine wq_loopS (fun s16 => [(0, vr Z 26 0), (3, vi s16)]) 25 (fun _ => [(0, vr Z 26 0)]) (fun κ10 bk11 ex12 gr15 s16 J14 => ?_) (fun gr23 r21 J22 => ?_) gr1 _ rfl
  · unfold f_M_sizeWith_w13
    refine wq_iload_n dX13_sizeWith_13 1 rfl rfl ?_
    refine wq_if_eq 25 dX13_sizeWith_14 (by decide) rfl (fun c20 => ?_) (fun c20 => ?_)
    · exact WQ.loc [0] rfl (ex12 _ _ _)
    · refine wq_aload_n dX13_sizeWith_17 0 rfl rfl ?_
      refine wq_cVi M_M_steps (R_M_steps Z _) ob_26 rfl rfl (by decide) (by decide) (Nat.le_of_ble_eq_true rfl) ln_RX13_204 dX13_sizeWith_18 (fun gr17 x19 J18 => ?_)
      refine wq_istore_n (lv' := [(3, vi x19), (0, vr Z 26 0)]) dX13_sizeWith_21 rfl (by decide) rfl ?_
      refine wq_goto 13 dX13_sizeWith_22 (by decide) ?_
      exact WQ.loc [1, 0] rfl (bk11 _ _ _)
  · refine wq_aload_n dX13_sizeWith_25 0 rfl rfl ?_
    refine wq_aload_n dX13_sizeWith_26 0 rfl rfl ?_
    refine wq_cVi M_M_sizeNow (R_M_sizeNow Z _) ob_26 rfl rfl (by decide) (by decide) (Nat.le_of_ble_eq_true rfl) ln_RX13_431 dX13_sizeWith_27 (fun gr24 x26 J25 => ?_)
    refine wq_cVi M_M_back (R_M_back Z x26 _) ob_26 rfl rfl (by decide) (by decide) (Nat.le_of_ble_eq_true rfl) ln_RX13_339 dX13_sizeWith_30 (fun gr27 x29 J28 => ?_)
    exact wq_iret rfl rfl dX13_sizeWith_33

theorem M_M_sizeWith : MwV yX13_sizeWith cX13_sizeWith 4 (some .int) 2 := ⟨li_9 161 (by decide +kernel) (by decide +kernel), li_9 160 (by decide +kernel) (by decide +kernel), lw_in 130 (by decide +kernel) (by decide +kernel), li_1 16 (by decide +kernel) (by decide +kernel), by decide +kernel⟩
theorem ln_RX13_478 : Cond.methodLink RX13 478 yX13_sizeWith ∈ lw_good := li_9 158 (by decide +kernel) (by decide +kernel)
noncomputable def f_M_bestOf_w17 (v1 : Int) (s : Int × Int × Int) (I : Mem) : Option (((Int × Int × Int) ⊕ (Int)) × Mem) :=
bnd (f_M_mostOf v1 I) fun x9 J8 =>
if (w32 x9) < (w32 s.2.2) then
some (.inr s.1, J8)
else
bnd (f_M_sizeWith v1 s.2.2 J8) fun x12 J11 =>
if (w32 x12) < (w32 s.2.1) then
some (.inl (s.2.2, x12, (s.2.2 + 1)), J11)
else
some (.inl (s.1, s.2.1, (s.2.2 + 1)), J11)

noncomputable def f_M_bestOf (a1 : Int) (I : Mem) : Option ((Int) × Mem) :=
bnd (f_M_leastOf a1 I) fun x3 J2 =>
bnd (f_M_sizeWith a1 x3 J2) fun x6 J5 =>
bnd (whl (f_M_bestOf_w17 a1) (x3, x6, (x3 + 1)) J5) fun r30 J31 =>
some (r30, J31)
set_option maxRecDepth 20000 in
theorem R_M_bestOf (Z : ZT) (a1 : Int) (I : Mem) (r : Int) (J : Mem) (hf : f_M_bestOf a1 I = some (r, J)) : Runs Z yX13_bestOf cX13_bestOf 6 (some .int) 8 [vr Z 26 0, vi a1] I (some (vi r), J) := by
  refine Runs.of (rv := fun x => some (vi x)) (by decide +kernel) (Nat.le_of_ble_eq_true rfl) hf (fun gr => ?_)
  unfold f_M_bestOf
  refine WQ.loc [0, 1] (lv' := [(0, vr Z 26 0), (1, vi a1)]) rfl ?_
  refine wq_iload_n dX13_bestOf_0 1 rfl rfl ?_
  refine wq_cSi M_M_leastOf (R_M_leastOf Z a1 _) rfl rfl rfl (by decide) (by decide) (Nat.le_of_ble_eq_true rfl) ln_RX13_301 dX13_bestOf_1 (fun gr1 x3 J2 => ?_)
  refine wq_istore_n (lv' := [(2, vi x3), (0, vr Z 26 0), (1, vi a1)]) dX13_bestOf_4 rfl (by decide) rfl ?_
  refine wq_aload_n dX13_bestOf_5 1 rfl rfl ?_
  refine wq_iload_n dX13_bestOf_6 2 rfl rfl ?_
  refine wq_iload_n dX13_bestOf_7 0 rfl rfl ?_
  refine wq_cVi M_M_sizeWith (R_M_sizeWith Z a1 x3 _) ob_26 rfl rfl (by decide) (by decide) (Nat.le_of_ble_eq_true rfl) ln_RX13_478 dX13_bestOf_8 (fun gr4 x6 J5 => ?_)
  refine wq_istore_n (lv' := [(3, vi x6), (2, vi x3), (0, vr Z 26 0), (1, vi a1)]) dX13_bestOf_11 rfl (by decide) rfl ?_
  refine wq_iload_n dX13_bestOf_12 1 rfl rfl ?_
  refine wq_iconst dX13_bestOf_13 ?_
  refine wq_iadd dX13_bestOf_14 ?_
  refine wq_istore (lv' := [(4, vi (x3 + 1)), (3, vi x6), (2, vi x3), (0, vr Z 26 0), (1, vi a1)]) dX13_bestOf_15 (by decide) rfl ?_
  refine WQ.loc [3, 4, 2, 1, 0] (lv' := [(0, vr Z 26 0), (1, vi a1), (2, vi x3), (3, vi x6), (4, vi (x3 + 1))]) rfl ?_
  refine wq_loopS (fun s21 => [(0, vr Z 26 0), (1, vi a1), (2, vi s21.1), (3, vi s21.2.1), (4, vi s21.2.2)]) 56 (fun r30 => [(2, vi r30)]) (fun κ15 bk16 ex17 gr20 s21 J19 => ?_) (fun gr32 r30 J31 => ?_) gr4 _ rfl
  · unfold f_M_bestOf_w17
    refine wq_iload dX13_bestOf_17 4 rfl ?_
    refine wq_iload_n dX13_bestOf_19 1 rfl rfl ?_
    refine wq_cSi M_M_mostOf (R_M_mostOf Z a1 _) rfl rfl rfl (by decide) (by decide) (Nat.le_of_ble_eq_true rfl) ln_RX13_304 dX13_bestOf_20 (fun gr22 x24 J23 => ?_)
    refine wq_icmp_gt 56 dX13_bestOf_23 (by decide) rfl rfl (fun c29 => ?_) (fun c29 => ?_)
    · exact WQ.loc [2] rfl (ex17 _ _ _)
    · refine wq_aload_n dX13_bestOf_26 0 rfl rfl ?_
      refine wq_iload_n dX13_bestOf_27 1 rfl rfl ?_
      refine wq_iload dX13_bestOf_28 4 rfl ?_
      refine wq_cVi M_M_sizeWith (R_M_sizeWith Z a1 s21.2.2 _) ob_26 rfl rfl (by decide) (by decide) (Nat.le_of_ble_eq_true rfl) ln_RX13_478 dX13_bestOf_30 (fun gr25 x27 J26 => ?_)
      refine wq_istore (lv' := [(5, vi x27), (0, vr Z 26 0), (1, vi a1), (2, vi s21.1), (3, vi s21.2.1), (4, vi s21.2.2)]) dX13_bestOf_33 (by decide) rfl ?_
      refine wq_iload dX13_bestOf_35 0 rfl ?_
      refine wq_iload_n dX13_bestOf_37 4 rfl rfl ?_
      refine wq_icmp_lt 44 dX13_bestOf_38 (by decide) rfl rfl (fun c28 => ?_) (fun c28 => ?_)
      · refine wq_iload dX13_bestOf_44 5 rfl ?_
        refine wq_istore_n (lv' := [(2, vi s21.2.2), (5, vi x27), (0, vr Z 26 0), (1, vi a1), (3, vi s21.2.1), (4, vi s21.2.2)]) dX13_bestOf_46 rfl (by decide) rfl ?_
        refine wq_iload dX13_bestOf_47 1 rfl ?_
        refine wq_istore_n (lv' := [(3, vi x27), (2, vi s21.2.2), (5, vi x27), (0, vr Z 26 0), (1, vi a1), (4, vi s21.2.2)]) dX13_bestOf_49 rfl (by decide) rfl ?_
        refine wq_iinc (lv' := [(4, vi (s21.2.2 + 1)), (3, vi x27), (2, vi s21.2.2), (5, vi x27), (0, vr Z 26 0), (1, vi a1)]) dX13_bestOf_50 5 rfl (by decide) rfl ?_
        refine wq_goto 17 dX13_bestOf_53 (by decide) ?_
        exact WQ.loc [4, 5, 2, 1, 0] rfl (bk16 _ _ _)
      · refine wq_goto 50 dX13_bestOf_41 (by decide) ?_
        refine wq_iinc (lv' := [(4, vi (s21.2.2 + 1)), (5, vi x27), (0, vr Z 26 0), (1, vi a1), (2, vi s21.1), (3, vi s21.2.1)]) dX13_bestOf_50 5 rfl (by decide) rfl ?_
        refine wq_goto 17 dX13_bestOf_53 (by decide) ?_
        exact WQ.loc [2, 3, 4, 5, 0] rfl (bk16 _ _ _)
  · refine wq_iload_n dX13_bestOf_56 0 rfl rfl ?_
    exact wq_iret rfl rfl dX13_bestOf_57

theorem M_M_bestOf : MwV yX13_bestOf cX13_bestOf 6 (some .int) 1 := ⟨li_9 157 (by decide +kernel) (by decide +kernel), li_9 156 (by decide +kernel) (by decide +kernel), lw_in 129 (by decide +kernel) (by decide +kernel), li_1 16 (by decide +kernel) (by decide +kernel), by decide +kernel⟩
theorem ln_RX13_481 : Cond.methodLink RX13 481 yX13_bestOf ∈ lw_good := li_9 154 (by decide +kernel) (by decide +kernel)
noncomputable def f_M_bestTie  (I : Mem) : Option ((Int) × Mem) :=
ltI (sI I 26 0 7 0) fun J1 =>
bnd (f_M_bestOf 1 J1) fun x4 J3 =>
some (x4, J3)
set_option maxRecDepth 20000 in
theorem R_M_bestTie (Z : ZT)  (I : Mem) (r : Int) (J : Mem) (hf : f_M_bestTie I = some (r, J)) : Runs Z yX13_bestTie cX13_bestTie 1 (some .int) 9 [vr Z 26 0] I (some (vi r), J) := by
  refine Runs.of (rv := fun x => some (vi x)) (by decide +kernel) (Nat.le_of_ble_eq_true rfl) hf (fun gr => ?_)
  unfold f_M_bestTie
  refine WQ.loc [0] (lv' := [(0, vr Z 26 0)]) rfl ?_
  refine wq_aload_n dX13_bestTie_0 0 rfl rfl ?_
  refine wq_iconst dX13_bestTie_1 ?_
  refine p_26_7 ln_RX13_100 dX13_bestTie_2 (fun J1 => ?_)
  refine wq_aload_n dX13_bestTie_5 0 rfl rfl ?_
  refine wq_iconst dX13_bestTie_6 ?_
  refine wq_cVi M_M_bestOf (R_M_bestOf Z 1 _) ob_26 rfl rfl (by decide) (by decide) (Nat.le_of_ble_eq_true rfl) ln_RX13_481 dX13_bestTie_7 (fun gr2 x4 J3 => ?_)
  exact wq_iret rfl rfl dX13_bestTie_10

noncomputable def f_M_bestLeast  (I : Mem) : Option ((Int) × Mem) :=
ltI (sI I 26 0 7 0) fun J1 =>
bnd (f_M_bestOf 0 J1) fun x4 J3 =>
some (x4, J3)
set_option maxRecDepth 20000 in
theorem R_M_bestLeast (Z : ZT)  (I : Mem) (r : Int) (J : Mem) (hf : f_M_bestLeast I = some (r, J)) : Runs Z yX13_bestLeast cX13_bestLeast 1 (some .int) 9 [vr Z 26 0] I (some (vi r), J) := by
  refine Runs.of (rv := fun x => some (vi x)) (by decide +kernel) (Nat.le_of_ble_eq_true rfl) hf (fun gr => ?_)
  unfold f_M_bestLeast
  refine WQ.loc [0] (lv' := [(0, vr Z 26 0)]) rfl ?_
  refine wq_aload_n dX13_bestLeast_0 0 rfl rfl ?_
  refine wq_iconst dX13_bestLeast_1 ?_
  refine p_26_7 ln_RX13_100 dX13_bestLeast_2 (fun J1 => ?_)
  refine wq_aload_n dX13_bestLeast_5 0 rfl rfl ?_
  refine wq_iconst dX13_bestLeast_6 ?_
  refine wq_cVi M_M_bestOf (R_M_bestOf Z 0 _) ob_26 rfl rfl (by decide) (by decide) (Nat.le_of_ble_eq_true rfl) ln_RX13_481 dX13_bestLeast_7 (fun gr2 x4 J3 => ?_)
  exact wq_iret rfl rfl dX13_bestLeast_10

noncomputable def f_M_inlinable  (I : Mem) : Option ((Int) × Mem) :=
ltI (sI I 26 0 7 0) fun J1 =>
bnd (f_M_aside J1) fun _ J3 =>
bnd (f_M_inlines J3) fun x7 J6 =>
bnd (f_M_back x7 J6) fun x10 J9 =>
some (x10, J9)
set_option maxRecDepth 20000 in
theorem R_M_inlinable (Z : ZT)  (I : Mem) (r : Int) (J : Mem) (hf : f_M_inlinable I = some (r, J)) : Runs Z yX13_inlinable cX13_inlinable 1 (some .int) 6 [vr Z 26 0] I (some (vi r), J) := by
  refine Runs.of (rv := fun x => some (vi x)) (by decide +kernel) (Nat.le_of_ble_eq_true rfl) hf (fun gr => ?_)
  unfold f_M_inlinable
  refine WQ.loc [0] (lv' := [(0, vr Z 26 0)]) rfl ?_
  refine wq_aload_n dX13_inlinable_0 0 rfl rfl ?_
  refine wq_iconst dX13_inlinable_1 ?_
  refine p_26_7 ln_RX13_100 dX13_inlinable_2 (fun J1 => ?_)
  refine wq_aload_n dX13_inlinable_5 0 rfl rfl ?_
  refine wq_cVv M_M_aside (R_M_aside Z _) ob_26 rfl rfl (by decide) (by decide) (Nat.le_of_ble_eq_true rfl) ln_RX13_330 dX13_inlinable_6 (fun gr2 _ J3 => ?_)
  refine wq_aload_n dX13_inlinable_9 0 rfl rfl ?_
  refine wq_aload_n dX13_inlinable_10 0 rfl rfl ?_
  refine wq_cVi M_M_inlines (R_M_inlines Z _) ob_26 rfl rfl (by decide) (by decide) (Nat.le_of_ble_eq_true rfl) ln_RX13_201 dX13_inlinable_11 (fun gr5 x7 J6 => ?_)
  refine wq_cVi M_M_back (R_M_back Z x7 _) ob_26 rfl rfl (by decide) (by decide) (Nat.le_of_ble_eq_true rfl) ln_RX13_339 dX13_inlinable_14 (fun gr8 x10 J9 => ?_)
  exact wq_iret rfl rfl dX13_inlinable_17

theorem M_M_isSymbol : MwV yX13_isSymbol cX13_isSymbol 2 (some .boolean) 1 := ⟨li_8 215 (by decide +kernel) (by decide +kernel), li_8 214 (by decide +kernel) (by decide +kernel), lw_in 108 (by decide +kernel) (by decide +kernel), li_1 16 (by decide +kernel) (by decide +kernel), by decide +kernel⟩
theorem ln_RX13_484 : Cond.methodLink RX13 484 yX13_isSymbol ∈ lw_good := li_8 212 (by decide +kernel) (by decide +kernel)
noncomputable def f_M_makeNow (a1 : Int) (a2 : Int) (I : Mem) : Option ((Int) × Mem) :=
bnd (f_M_isSymbol a1 I) fun x3 J2 =>
if (w32 x3) = 0 then
some ((-7), J2)
else
bnd (f_M_isSymbol a2 J2) fun x6 J5 =>
if (w32 x6) = 0 then
some ((-7), J5)
else
bnd (f_M_laysPairs J5) fun _ J8 =>
bnd (f_M_pair a1 a2 J8) fun x12 J11 =>
if 0 ≤ (w32 x12) ∧ (w32 x12) < 4356 then
if (w32 (J11 27 11 (w32 x12).toNat)) = 0 then
some ((-2), J11)
else
if (w32 (J11 27 13 (w32 x12).toNat)) = (-1) then
bnd (f_M_freeRule J11) fun x19 J18 =>
if (w32 x19) = (-1) then
some ((-3), J18)
else
bnd (f_M_makes x12 J18) fun x22 J21 =>
some (x22, J21)
else
bnd (f_M_makes x12 J11) fun x16 J15 =>
some (x16, J15)
else none
set_option maxRecDepth 20000 in
theorem R_M_makeNow (Z : ZT) (a1 : Int) (a2 : Int) (I : Mem) (r : Int) (J : Mem) (hf : f_M_makeNow a1 a2 I = some (r, J)) : Runs Z yX13_makeNow cX13_makeNow 4 (some .int) 5 [vr Z 26 0, vi a1, vi a2] I (some (vi r), J) := by
  refine Runs.of (rv := fun x => some (vi x)) (by decide +kernel) (Nat.le_of_ble_eq_true rfl) hf (fun gr => ?_)
  unfold f_M_makeNow
  refine WQ.loc [0, 1, 2] (lv' := [(0, vr Z 26 0), (1, vi a1), (2, vi a2)]) rfl ?_
  refine wq_aload_n dX13_makeNow_0 0 rfl rfl ?_
  refine wq_iload_n dX13_makeNow_1 1 rfl rfl ?_
  refine wq_cVi M_M_isSymbol (R_M_isSymbol Z a1 _) ob_26 rfl rfl (by decide) (by decide) (Nat.le_of_ble_eq_true rfl) ln_RX13_484 dX13_makeNow_2 (fun gr1 x3 J2 => ?_)
  refine wq_if_eq 16 dX13_makeNow_5 (by decide) rfl (fun c27 => ?_) (fun c27 => ?_)
  · refine wq_bipush dX13_makeNow_16 (by decide) ?_
    exact wq_iret rfl rfl dX13_makeNow_18
  · refine wq_aload_n dX13_makeNow_8 0 rfl rfl ?_
    refine wq_iload_n dX13_makeNow_9 2 rfl rfl ?_
    refine wq_cVi M_M_isSymbol (R_M_isSymbol Z a2 _) ob_26 rfl rfl (by decide) (by decide) (Nat.le_of_ble_eq_true rfl) ln_RX13_484 dX13_makeNow_10 (fun gr4 x6 J5 => ?_)
    refine wq_if_ne 19 dX13_makeNow_13 (by decide) rfl (fun c26 => ?_) (fun c26 => ?_)
    · refine wq_bipush dX13_makeNow_16 (by decide) ?_
      exact wq_iret rfl rfl dX13_makeNow_18
    · refine wq_aload_n dX13_makeNow_19 0 rfl rfl ?_
      refine wq_cVv M_M_laysPairs (R_M_laysPairs Z _) ob_26 rfl rfl (by decide) (by decide) (Nat.le_of_ble_eq_true rfl) ln_RX13_160 dX13_makeNow_20 (fun gr7 _ J8 => ?_)
      refine wq_iload_n dX13_makeNow_23 1 rfl rfl ?_
      refine wq_iload_n dX13_makeNow_24 2 rfl rfl ?_
      refine wq_cSi M_M_pair (R_M_pair Z a1 a2 _) rfl rfl rfl (by decide) (by decide) (Nat.le_of_ble_eq_true rfl) ln_RX13_147 dX13_makeNow_25 (fun gr10 x12 J11 => ?_)
      refine wq_istore_n (lv' := [(3, vi x12), (0, vr Z 26 0), (1, vi a1), (2, vi a2)]) dX13_makeNow_28 rfl (by decide) rfl ?_
      refine wq_aload_n dX13_makeNow_29 1 rfl rfl ?_
      refine g_26_15 ln_RX13_49 dX13_makeNow_30 ?_
      refine wq_iload_n dX13_makeNow_33 0 rfl rfl ?_
      refine wq_grd (fun g13 => ?_)
      refine wq_iald (k := 27) (i := 11) rfl (by decide) rfl rfl (m := 4356) g13 (Nat.le_of_ble_eq_true rfl) dX13_makeNow_34 ?_
      refine wq_if_ne 41 dX13_makeNow_35 (by decide) rfl (fun c25 => ?_) (fun c25 => ?_)
      · refine wq_bipush dX13_makeNow_38 (by decide) ?_
        exact wq_iret rfl rfl dX13_makeNow_40
      · refine wq_aload_n dX13_makeNow_41 1 rfl rfl ?_
        refine g_26_17 ln_RX13_55 dX13_makeNow_42 ?_
        refine wq_iload_n dX13_makeNow_45 0 rfl rfl ?_
        refine wq_iald (k := 27) (i := 13) rfl (by decide) rfl rfl (m := 4356) g13 (Nat.le_of_ble_eq_true rfl) dX13_makeNow_46 ?_
        refine wq_iconst dX13_makeNow_47 ?_
        refine wq_icmp_ne 64 dX13_makeNow_48 (by decide) rfl rfl (fun c24 => ?_) (fun c24 => ?_)
        · refine wq_aload_n dX13_makeNow_51 1 rfl rfl ?_
          refine wq_cVi M_M_freeRule (R_M_freeRule Z _) ob_26 rfl rfl (by decide) (by decide) (Nat.le_of_ble_eq_true rfl) ln_RX13_163 dX13_makeNow_52 (fun gr17 x19 J18 => ?_)
          refine wq_iconst dX13_makeNow_55 ?_
          refine wq_icmp_ne 64 dX13_makeNow_56 (by decide) rfl rfl (fun c23 => ?_) (fun c23 => ?_)
          · refine wq_bipush dX13_makeNow_59 (by decide) ?_
            refine wq_goto 69 dX13_makeNow_61 (by decide) ?_
            exact wq_iret rfl rfl dX13_makeNow_69
          · refine wq_aload_n dX13_makeNow_64 1 rfl rfl ?_
            refine wq_iload_n dX13_makeNow_65 0 rfl rfl ?_
            refine wq_cVi M_M_makes (R_M_makes Z x12 _) ob_26 rfl rfl (by decide) (by decide) (Nat.le_of_ble_eq_true rfl) ln_RX13_198 dX13_makeNow_66 (fun gr20 x22 J21 => ?_)
            exact wq_iret rfl rfl dX13_makeNow_69
        · refine wq_aload_n dX13_makeNow_64 1 rfl rfl ?_
          refine wq_iload_n dX13_makeNow_65 0 rfl rfl ?_
          refine wq_cVi M_M_makes (R_M_makes Z x12 _) ob_26 rfl rfl (by decide) (by decide) (Nat.le_of_ble_eq_true rfl) ln_RX13_198 dX13_makeNow_66 (fun gr14 x16 J15 => ?_)
          exact wq_iret rfl rfl dX13_makeNow_69

noncomputable def f_M_expandNow (a1 : Int) (I : Mem) : Option ((Int) × Mem) :=
bnd (f_M_isHere a1 I) fun x3 J2 =>
if (w32 x3) = 0 then
some ((-4), J2)
else
bnd (f_M_counts 4 1 J2) fun _ J5 =>
bnd (f_M_unmakes a1 J5) fun x9 J8 =>
some (x9, J8)
set_option maxRecDepth 20000 in
theorem R_M_expandNow (Z : ZT) (a1 : Int) (I : Mem) (r : Int) (J : Mem) (hf : f_M_expandNow a1 I = some (r, J)) : Runs Z yX13_expandNow cX13_expandNow 2 (some .int) 4 [vr Z 26 0, vi a1] I (some (vi r), J) := by
  refine Runs.of (rv := fun x => some (vi x)) (by decide +kernel) (Nat.le_of_ble_eq_true rfl) hf (fun gr => ?_)
  unfold f_M_expandNow
  refine WQ.loc [0, 1] (lv' := [(0, vr Z 26 0), (1, vi a1)]) rfl ?_
  refine wq_aload_n dX13_expandNow_0 0 rfl rfl ?_
  refine wq_iload_n dX13_expandNow_1 1 rfl rfl ?_
  refine wq_cVi M_M_isHere (R_M_isHere Z a1 _) ob_26 rfl rfl (by decide) (by decide) (Nat.le_of_ble_eq_true rfl) ln_RX13_111 dX13_expandNow_2 (fun gr1 x3 J2 => ?_)
  refine wq_if_ne 11 dX13_expandNow_5 (by decide) rfl (fun c10 => ?_) (fun c10 => ?_)
  · refine wq_bipush dX13_expandNow_8 (by decide) ?_
    exact wq_iret rfl rfl dX13_expandNow_10
  · refine wq_aload_n dX13_expandNow_11 0 rfl rfl ?_
    refine wq_iconst dX13_expandNow_12 ?_
    refine wq_iconst dX13_expandNow_13 ?_
    refine wq_cVv M_M_counts (R_M_counts Z 4 1 _) ob_26 rfl rfl (by decide) (by decide) (Nat.le_of_ble_eq_true rfl) ln_RX13_177 dX13_expandNow_14 (fun gr4 _ J5 => ?_)
    refine wq_aload_n dX13_expandNow_17 0 rfl rfl ?_
    refine wq_iload_n dX13_expandNow_18 1 rfl rfl ?_
    refine wq_cVi M_M_unmakes (R_M_unmakes Z a1 _) ob_26 rfl rfl (by decide) (by decide) (Nat.le_of_ble_eq_true rfl) ln_RX13_192 dX13_expandNow_19 (fun gr7 x9 J8 => ?_)
    exact wq_iret rfl rfl dX13_expandNow_22

noncomputable def f_M_appendNow (a1 : Int) (I : Mem) : Option ((Int) × Mem) :=
if (w32 (I 27 0 3)) = 400 then
some ((-5), I)
else
bnd (f_M_adds 0 a1 I) fun _ J3 =>
if 0 ≤ (w32 (16460 + (J3 27 0 3))) ∧ (w32 (16460 + (J3 27 0 3))) < 16860 then
ltI (sI J3 27 0 (w32 (16460 + (J3 27 0 3))).toNat a1) fun J7 =>
ltI (sI J7 27 0 3 ((J7 27 0 3) + 1)) fun J10 =>
bnd (f_M_counts 6 1 J10) fun _ J12 =>
some ((J12 27 0 3), J12)
else none
set_option maxRecDepth 20000 in
theorem R_M_appendNow (Z : ZT) (a1 : Int) (I : Mem) (r : Int) (J : Mem) (hf : f_M_appendNow a1 I = some (r, J)) : Runs Z yX13_appendNow cX13_appendNow 2 (some .int) 3 [vr Z 26 0, vi a1] I (some (vi r), J) := by
  refine Runs.of (rv := fun x => some (vi x)) (by decide +kernel) (Nat.le_of_ble_eq_true rfl) hf (fun gr => ?_)
  unfold f_M_appendNow
  refine WQ.loc [0, 1] (lv' := [(0, vr Z 26 0), (1, vi a1)]) rfl ?_
  refine wq_aload_n dX13_appendNow_0 0 rfl rfl ?_
  refine g_26_0 ln_RX13_9 dX13_appendNow_1 ?_
  refine wq_iconst dX13_appendNow_4 ?_
  refine wq_iald (k := 27) (i := 0) rfl (by decide) rfl rfl (m := 16860) (by decide) (Nat.le_of_ble_eq_true rfl) dX13_appendNow_5 ?_
  refine wq_sipush dX13_appendNow_6 (by decide) ?_
  refine wq_icmp_ne 15 dX13_appendNow_9 (by decide) rfl rfl (fun c15 => ?_) (fun c15 => ?_)
  · refine wq_bipush dX13_appendNow_12 (by decide) ?_
    exact wq_iret rfl rfl dX13_appendNow_14
  · refine wq_aload_n dX13_appendNow_15 0 rfl rfl ?_
    refine wq_iconst dX13_appendNow_16 ?_
    refine wq_iload_n dX13_appendNow_17 1 rfl rfl ?_
    refine wq_cVv M_M_adds (R_M_adds Z 0 a1 _) ob_26 rfl rfl (by decide) (by decide) (Nat.le_of_ble_eq_true rfl) ln_RX13_93 dX13_appendNow_18 (fun gr2 _ J3 => ?_)
    refine wq_aload_n dX13_appendNow_21 0 rfl rfl ?_
    refine g_26_0 ln_RX13_9 dX13_appendNow_22 ?_
    refine wq_sipush dX13_appendNow_25 (by decide) ?_
    refine wq_aload_n dX13_appendNow_28 0 rfl rfl ?_
    refine g_26_0 ln_RX13_9 dX13_appendNow_29 ?_
    refine wq_iconst dX13_appendNow_32 ?_
    refine wq_iald (k := 27) (i := 0) rfl (by decide) rfl rfl (m := 16860) (by decide) (Nat.le_of_ble_eq_true rfl) dX13_appendNow_33 ?_
    refine wq_iadd dX13_appendNow_34 ?_
    refine wq_iload_n dX13_appendNow_35 1 rfl rfl ?_
    refine wq_grd (fun g6 => ?_)
    refine wq_iast (k := 27) (i := 0) (fun _ _ => rfl) (by decide) rfl rfl (m := 16860) g6 (Nat.le_of_ble_eq_true rfl) (by decide) (by decide) (by decide) dX13_appendNow_36 (fun J7 => ?_)
    refine wq_aload_n dX13_appendNow_37 0 rfl rfl ?_
    refine g_26_0 ln_RX13_9 dX13_appendNow_38 ?_
    refine wq_iconst dX13_appendNow_41 ?_
    refine wq_dup2 dX13_appendNow_42 rfl rfl ?_
    refine wq_iald (k := 27) (i := 0) rfl (by decide) rfl rfl (m := 16860) (by decide) (Nat.le_of_ble_eq_true rfl) dX13_appendNow_43 ?_
    refine wq_iconst dX13_appendNow_44 ?_
    refine wq_iadd dX13_appendNow_45 ?_
    refine wq_iast (k := 27) (i := 0) (fun _ _ => rfl) (by decide) rfl rfl (m := 16860) (by decide) (Nat.le_of_ble_eq_true rfl) (by decide) (by decide) (by decide) dX13_appendNow_46 (fun J10 => ?_)
    refine wq_aload_n dX13_appendNow_47 0 rfl rfl ?_
    refine wq_bipush dX13_appendNow_48 (by decide) ?_
    refine wq_iconst dX13_appendNow_50 ?_
    refine wq_cVv M_M_counts (R_M_counts Z 6 1 _) ob_26 rfl rfl (by decide) (by decide) (Nat.le_of_ble_eq_true rfl) ln_RX13_177 dX13_appendNow_51 (fun gr11 _ J12 => ?_)
    refine wq_aload_n dX13_appendNow_54 0 rfl rfl ?_
    refine g_26_0 ln_RX13_9 dX13_appendNow_55 ?_
    refine wq_iconst dX13_appendNow_58 ?_
    refine wq_iald (k := 27) (i := 0) rfl (by decide) rfl rfl (m := 16860) (by decide) (Nat.le_of_ble_eq_true rfl) dX13_appendNow_59 ?_
    exact wq_iret rfl rfl dX13_appendNow_60
end
section
noncomputable def f_M_cutNow_w19 (v1 : Int) (s : Int) (I : Mem) : Option (((Int) ⊕ (Unit)) × Mem) :=
if 0 < (w32 s) then
bnd (f_M_many 0 I) fun x7 J6 =>
bnd (f_M_at 0 (x7 - 1) J6) fun x10 J9 =>
if 0 ≤ (w32 x10) ∧ (w32 x10) < 66 then
if (w32 s) < (w32 (J9 27 5 (w32 x10).toNat)) then
bnd (f_M_opens 0 (x7 - 1) (x10 - 26) J9) fun _ J13 =>
bnd (f_M_counts 8 1 J13) fun _ J16 =>
some (.inl s, J16)
else
ltI (sI J9 27 0 16 ((J9 27 0 16) - 1)) fun J20 =>
some (.inl (s - (J9 27 5 (w32 x10).toNat)), J20)
else none
else
some (.inr (), I)

noncomputable def f_M_cutNow (a1 : Int) (I : Mem) : Option ((Int) × Mem) :=
if (w32 a1) < (w32 (I 27 0 3)) then
bnd (f_M_laysLengths I) fun _ J3 =>
bnd (whl (f_M_cutNow_w19 a1) a1 J3) fun r48 J49 =>
ltI (sI J49 27 0 3 ((J49 27 0 3) - a1)) fun J53 =>
bnd (f_M_counts 7 a1 J53) fun _ J55 =>
bnd (f_M_many 0 J55) fun x59 J58 =>
some (x59, J58)
else
some ((-6), I)
set_option maxRecDepth 20000 in
theorem R_M_cutNow (Z : ZT) (a1 : Int) (I : Mem) (r : Int) (J : Mem) (hf : f_M_cutNow a1 I = some (r, J)) : Runs Z yX13_cutNow cX13_cutNow 5 (some .int) 4 [vr Z 26 0, vi a1] I (some (vi r), J) := by
  refine Runs.of (rv := fun x => some (vi x)) (by decide +kernel) (Nat.le_of_ble_eq_true rfl) hf (fun gr => ?_)
  unfold f_M_cutNow
  refine WQ.loc [0, 1] (lv' := [(0, vr Z 26 0), (1, vi a1)]) rfl ?_
  refine wq_iload_n dX13_cutNow_0 1 rfl rfl ?_
  refine wq_aload_n dX13_cutNow_1 0 rfl rfl ?_
  refine g_26_0 ln_RX13_9 dX13_cutNow_2 ?_
  refine wq_iconst dX13_cutNow_5 ?_
  refine wq_iald (k := 27) (i := 0) rfl (by decide) rfl rfl (m := 16860) (by decide) (Nat.le_of_ble_eq_true rfl) dX13_cutNow_6 ?_
  refine wq_icmp_lt 13 dX13_cutNow_7 (by decide) rfl rfl (fun c60 => ?_) (fun c60 => ?_)
  · refine wq_aload_n dX13_cutNow_13 0 rfl rfl ?_
    refine wq_cVv M_M_laysLengths (R_M_laysLengths Z _) ob_26 rfl rfl (by decide) (by decide) (Nat.le_of_ble_eq_true rfl) ln_RX13_137 dX13_cutNow_14 (fun gr2 _ J3 => ?_)
    refine wq_iload_n dX13_cutNow_17 1 rfl rfl ?_
    refine wq_istore_n (lv' := [(2, vi a1), (0, vr Z 26 0), (1, vi a1)]) dX13_cutNow_18 rfl (by decide) rfl ?_
    refine WQ.loc [1, 2, 0] (lv' := [(0, vr Z 26 0), (1, vi a1), (2, vi a1)]) rfl ?_
    refine wq_loopS (fun s29 => [(0, vr Z 26 0), (1, vi a1), (2, vi s29)]) 95 (fun _ => [(0, vr Z 26 0), (1, vi a1)]) (fun κ23 bk24 ex25 gr28 s29 J27 => ?_) (fun gr50 r48 J49 => ?_) gr2 _ rfl
    · unfold f_M_cutNow_w19
      refine wq_iload_n dX13_cutNow_19 2 rfl rfl ?_
      refine wq_if_le 95 dX13_cutNow_20 (by decide) rfl (fun c47 => ?_) (fun c47 => ?_)
      · refine wq_aload_n dX13_cutNow_23 0 rfl rfl ?_
        refine wq_iconst dX13_cutNow_24 ?_
        refine wq_cVi M_M_many (R_M_many Z 0 _) ob_26 rfl rfl (by decide) (by decide) (Nat.le_of_ble_eq_true rfl) ln_RX13_103 dX13_cutNow_25 (fun gr30 x32 J31 => ?_)
        refine wq_iconst dX13_cutNow_28 ?_
        refine wq_isub dX13_cutNow_29 ?_
        refine wq_istore_n (lv' := [(3, vi (x32 - 1)), (0, vr Z 26 0), (1, vi a1), (2, vi s29)]) dX13_cutNow_30 rfl (by decide) rfl ?_
        refine wq_aload_n dX13_cutNow_31 1 rfl rfl ?_
        refine wq_iconst dX13_cutNow_32 ?_
        refine wq_iload_n dX13_cutNow_33 0 rfl rfl ?_
        refine wq_cVi M_M_at (R_M_at Z 0 (x32 - 1) _) ob_26 rfl rfl (by decide) (by decide) (Nat.le_of_ble_eq_true rfl) ln_RX13_119 dX13_cutNow_34 (fun gr33 x35 J34 => ?_)
        refine wq_istore (lv' := [(4, vi x35), (3, vi (x32 - 1)), (0, vr Z 26 0), (1, vi a1), (2, vi s29)]) dX13_cutNow_37 (by decide) rfl ?_
        refine wq_aload_n dX13_cutNow_39 2 rfl rfl ?_
        refine g_26_8 ln_RX13_31 dX13_cutNow_40 ?_
        refine wq_iload dX13_cutNow_43 0 rfl ?_
        refine wq_grd (fun g36 => ?_)
        refine wq_iald (k := 27) (i := 5) rfl (by decide) rfl rfl (m := 66) g36 (Nat.le_of_ble_eq_true rfl) dX13_cutNow_45 ?_
        refine wq_iload_n dX13_cutNow_46 4 rfl rfl ?_
        refine wq_icmp_gt 74 dX13_cutNow_47 (by decide) rfl rfl (fun c46 => ?_) (fun c46 => ?_)
        · refine wq_aload_n dX13_cutNow_74 2 rfl rfl ?_
          refine wq_iconst dX13_cutNow_75 ?_
          refine wq_iload_n dX13_cutNow_76 1 rfl rfl ?_
          refine wq_iload dX13_cutNow_77 0 rfl ?_
          refine wq_bipush dX13_cutNow_79 (by decide) ?_
          refine wq_isub dX13_cutNow_81 ?_
          refine wq_cVv M_M_opens (R_M_opens Z 0 (x32 - 1) (x35 - 26) _) ob_26 rfl rfl (by decide) (by decide) (Nat.le_of_ble_eq_true rfl) ln_RX13_183 dX13_cutNow_82 (fun gr37 _ J38 => ?_)
          refine wq_aload_n dX13_cutNow_85 2 rfl rfl ?_
          refine wq_bipush dX13_cutNow_86 (by decide) ?_
          refine wq_iconst dX13_cutNow_88 ?_
          refine wq_cVv M_M_counts (R_M_counts Z 8 1 _) ob_26 rfl rfl (by decide) (by decide) (Nat.le_of_ble_eq_true rfl) ln_RX13_177 dX13_cutNow_89 (fun gr40 _ J41 => ?_)
          refine wq_goto 19 dX13_cutNow_92 (by decide) ?_
          exact WQ.loc [2, 3, 4] rfl (bk24 _ _ _)
        · refine wq_iload_n dX13_cutNow_50 4 rfl rfl ?_
          refine wq_aload_n dX13_cutNow_51 2 rfl rfl ?_
          refine g_26_8 ln_RX13_31 dX13_cutNow_52 ?_
          refine wq_iload dX13_cutNow_55 0 rfl ?_
          refine wq_iald (k := 27) (i := 5) rfl (by decide) rfl rfl (m := 66) g36 (Nat.le_of_ble_eq_true rfl) dX13_cutNow_57 ?_
          refine wq_isub dX13_cutNow_58 ?_
          refine wq_istore_n (lv' := [(2, vi (s29 - (J34 27 5 (w32 x35).toNat))), (4, vi x35), (3, vi (x32 - 1)), (0, vr Z 26 0), (1, vi a1)]) dX13_cutNow_59 rfl (by decide) rfl ?_
          refine wq_aload_n dX13_cutNow_60 3 rfl rfl ?_
          refine g_26_0 ln_RX13_9 dX13_cutNow_61 ?_
          refine wq_bipush dX13_cutNow_64 (by decide) ?_
          refine wq_dup2 dX13_cutNow_66 rfl rfl ?_
          refine wq_iald (k := 27) (i := 0) rfl (by decide) rfl rfl (m := 16860) (by decide) (Nat.le_of_ble_eq_true rfl) dX13_cutNow_67 ?_
          refine wq_iconst dX13_cutNow_68 ?_
          refine wq_isub dX13_cutNow_69 ?_
          refine wq_iast (k := 27) (i := 0) (fun _ _ => rfl) (by decide) rfl rfl (m := 16860) (by decide) (Nat.le_of_ble_eq_true rfl) (by decide) (by decide) (by decide) dX13_cutNow_70 (fun J45 => ?_)
          refine wq_goto 92 dX13_cutNow_71 (by decide) ?_
          refine wq_goto 19 dX13_cutNow_92 (by decide) ?_
          exact WQ.loc [3, 4, 0] rfl (bk24 _ _ _)
      · exact WQ.loc [0, 1] rfl (ex25 _ _ _)
    · refine wq_aload_n dX13_cutNow_95 0 rfl rfl ?_
      refine g_26_0 ln_RX13_9 dX13_cutNow_96 ?_
      refine wq_iconst dX13_cutNow_99 ?_
      refine wq_dup2 dX13_cutNow_100 rfl rfl ?_
      refine wq_iald (k := 27) (i := 0) rfl (by decide) rfl rfl (m := 16860) (by decide) (Nat.le_of_ble_eq_true rfl) dX13_cutNow_101 ?_
      refine wq_iload_n dX13_cutNow_102 1 rfl rfl ?_
      refine wq_isub dX13_cutNow_103 ?_
      refine wq_iast (k := 27) (i := 0) (fun _ _ => rfl) (by decide) rfl rfl (m := 16860) (by decide) (Nat.le_of_ble_eq_true rfl) (by decide) (by decide) (by decide) dX13_cutNow_104 (fun J53 => ?_)
      refine wq_aload_n dX13_cutNow_105 0 rfl rfl ?_
      refine wq_bipush dX13_cutNow_106 (by decide) ?_
      refine wq_iload_n dX13_cutNow_108 1 rfl rfl ?_
      refine wq_cVv M_M_counts (R_M_counts Z 7 a1 _) ob_26 rfl rfl (by decide) (by decide) (Nat.le_of_ble_eq_true rfl) ln_RX13_177 dX13_cutNow_109 (fun gr54 _ J55 => ?_)
      refine wq_aload_n dX13_cutNow_112 0 rfl rfl ?_
      refine wq_iconst dX13_cutNow_113 ?_
      refine wq_cVi M_M_many (R_M_many Z 0 _) ob_26 rfl rfl (by decide) (by decide) (Nat.le_of_ble_eq_true rfl) ln_RX13_103 dX13_cutNow_114 (fun gr57 x59 J58 => ?_)
      exact wq_iret rfl rfl dX13_cutNow_117
  · refine wq_bipush dX13_cutNow_10 (by decide) ?_
    exact wq_iret rfl rfl dX13_cutNow_12

noncomputable def f_M_setNow (a1 : Int) (a2 : Int) (I : Mem) : Option ((Int) × Mem) :=
if 0 ≤ (w32 a1) ∧ (w32 a1) < 16860 then
ltI (sI I 27 0 (w32 a1).toNat a2) fun J2 =>
some ((I 27 0 (w32 a1).toNat), J2)
else none
set_option maxRecDepth 20000 in
theorem R_M_setNow (Z : ZT) (a1 : Int) (a2 : Int) (I : Mem) (r : Int) (J : Mem) (hf : f_M_setNow a1 a2 I = some (r, J)) : Runs Z yX13_setNow cX13_setNow 4 (some .int) 1 [vr Z 26 0, vi a1, vi a2] I (some (vi r), J) := by
  refine Runs.of (rv := fun x => some (vi x)) (by decide +kernel) (Nat.le_of_ble_eq_true rfl) hf (fun gr => ?_)
  unfold f_M_setNow
  refine WQ.loc [0, 1, 2] (lv' := [(0, vr Z 26 0), (1, vi a1), (2, vi a2)]) rfl ?_
  refine wq_aload_n dX13_setNow_0 0 rfl rfl ?_
  refine g_26_0 ln_RX13_9 dX13_setNow_1 ?_
  refine wq_iload_n dX13_setNow_4 1 rfl rfl ?_
  refine wq_grd (fun g1 => ?_)
  refine wq_iald (k := 27) (i := 0) rfl (by decide) rfl rfl (m := 16860) g1 (Nat.le_of_ble_eq_true rfl) dX13_setNow_5 ?_
  refine wq_istore_n (lv' := [(3, vi (I 27 0 (w32 a1).toNat)), (0, vr Z 26 0), (1, vi a1), (2, vi a2)]) dX13_setNow_6 rfl (by decide) rfl ?_
  refine wq_aload_n dX13_setNow_7 1 rfl rfl ?_
  refine g_26_0 ln_RX13_9 dX13_setNow_8 ?_
  refine wq_iload_n dX13_setNow_11 2 rfl rfl ?_
  refine wq_iload_n dX13_setNow_12 3 rfl rfl ?_
  refine wq_iast (k := 27) (i := 0) (fun _ _ => rfl) (by decide) rfl rfl (m := 16860) g1 (Nat.le_of_ble_eq_true rfl) (by decide) (by decide) (by decide) dX13_setNow_13 (fun J2 => ?_)
  refine wq_iload_n dX13_setNow_14 0 rfl rfl ?_
  exact wq_iret rfl rfl dX13_setNow_15

theorem ln_RX13_487 : Cond.constant RX13 487 (Int32.ofInt 118020) ∈ lw_good := li_8 120 (by decide +kernel) (by decide +kernel)
theorem ln_RX13_20 : Cond.fieldLink RX13 20 RX13 "past" "[I" ∈ lw_good := li_7 57 (by decide +kernel) (by decide +kernel)
noncomputable def f_M_remembers_w11 (v1 : Nat) (s : Int) (I : Mem) : Option (((Int) ⊕ (Unit)) × Mem) :=
if (w32 s) < 118020 then
if 0 ≤ (w32 (s + 16860)) ∧ (w32 (s + 16860)) < 134880 then
if 0 ≤ (w32 s) ∧ (w32 s) < 134880 then
ltI (sI I 27 3 (w32 s).toNat (I 27 3 (w32 (s + 16860)).toNat)) fun J4 =>
some (.inl (s + 1), J4)
else none
else none
else
some (.inr (), I)

noncomputable def f_M_remembers_j50 (v1 : Nat)   (I : Mem) : Option ((Unit) × Mem) :=
bnd (f_M_lays v1 0 3 (16860 * (I 26 0 6)) I) fun _ J23 =>
ltI (sI J23 26 0 6 ((J23 26 0 6) + 1)) fun J25 =>
some ((), J25)

noncomputable def f_M_remembers (a1 : Nat) (I : Mem) : Option ((Unit) × Mem) :=
if a1 < 23 then
if (w32 (I 26 0 6)) = 8 then
bnd (whl (f_M_remembers_w11 a1) 0 I) fun r17 J18 =>
ltI (sI J18 26 0 6 ((J18 26 0 6) - 1)) fun J20 =>
f_M_remembers_j50 a1 J20
else
f_M_remembers_j50 a1 I
else none
set_option maxRecDepth 20000 in
theorem R_M_remembers (Z : ZT) (a1 : Nat) (I : Mem) (r : Unit) (J : Mem) (hf : f_M_remembers a1 I = some (r, J)) : Runs Z yX13_remembers cX13_remembers 3 (none) 2 [vr Z 26 0, vr Z 27 a1] I (none, J) := by
  refine Runs.of (rv := fun _ => none) (by decide +kernel) (Nat.le_of_ble_eq_true rfl) hf (fun gr => ?_)
  unfold f_M_remembers
  refine WQ.loc [0, 1] (lv' := [(0, vr Z 26 0), (1, vr Z 27 a1)]) rfl ?_
  refine wq_grd (fun h1 => ?_)
  refine wq_aload_n dX13_remembers_0 0 rfl rfl ?_
  refine g_26_6 ln_RX13_342 dX13_remembers_1 ?_
  refine wq_bipush dX13_remembers_4 (by decide) ?_
  have hj1 : ∀ (gr27 : Nat → Nat)   (J26 : Mem), WQ Z (yX13_remembers, cX13_remembers, 3, none, 2) I gr27 50 [(0, vr Z 26 0), (1, vr Z 27 a1)] [] J26 (f_M_remembers_j50 a1 J26) (fun b K => some (.inl ((fun _ => none) b), K)) := by
    intro gr27 J26
    unfold f_M_remembers_j50
    refine wq_aload_n dX13_remembers_50 1 rfl rfl ?_
    refine wq_iconst dX13_remembers_51 ?_
    refine wq_aload_n dX13_remembers_52 0 rfl rfl ?_
    refine g_26_3 ln_RX13_20 dX13_remembers_53 ?_
    refine wq_sipush dX13_remembers_56 (by decide) ?_
    refine wq_aload_n dX13_remembers_59 0 rfl rfl ?_
    refine g_26_6 ln_RX13_342 dX13_remembers_60 ?_
    refine wq_imul dX13_remembers_63 ?_
    refine wq_cSv M_M_lays (R_M_lays Z a1 0 3 (16860 * (J26 26 0 6)) _) rfl rfl rfl (by decide) (by decide) (Nat.le_of_ble_eq_true rfl) ln_RX13_208 dX13_remembers_64 (fun gr28 _ J29 => ?_)
    refine wq_aload_n dX13_remembers_67 0 rfl rfl ?_
    refine wq_dup dX13_remembers_68 rfl ?_
    refine g_26_6 ln_RX13_342 dX13_remembers_69 ?_
    refine wq_iconst dX13_remembers_72 ?_
    refine wq_iadd dX13_remembers_73 ?_
    refine p_26_6 ln_RX13_342 dX13_remembers_74 (fun J31 => ?_)
    exact wq_vret rfl rfl dX13_remembers_77
  refine wq_icmp_ne 50 dX13_remembers_6 (by decide) rfl rfl (fun c21 => ?_) (fun c21 => ?_)
  · refine wq_iconst dX13_remembers_9 ?_
    refine wq_istore_n (lv' := [(2, vi 0), (0, vr Z 26 0), (1, vr Z 27 a1)]) dX13_remembers_10 rfl (by decide) rfl ?_
    refine WQ.loc [1, 2, 0] (lv' := [(0, vr Z 26 0), (1, vr Z 27 a1), (2, vi 0)]) rfl ?_
    refine wq_loopS (fun s12 => [(0, vr Z 26 0), (1, vr Z 27 a1), (2, vi s12)]) 40 (fun _ => [(0, vr Z 26 0), (1, vr Z 27 a1)]) (fun κ6 bk7 ex8 gr11 s12 J10 => ?_) (fun gr19 r17 J18 => ?_) gr _ rfl
    · unfold f_M_remembers_w11
      refine wq_iload_n dX13_remembers_11 2 rfl rfl ?_
      refine wq_ldc_w ln_RX13_487 dX13_remembers_12 ?_
      refine wq_icmp_ge 40 dX13_remembers_15 (by decide) rfl rfl (fun c16 => ?_) (fun c16 => ?_)
      · refine wq_aload_n dX13_remembers_18 0 rfl rfl ?_
        refine g_26_3 ln_RX13_20 dX13_remembers_19 ?_
        refine wq_iload_n dX13_remembers_22 2 rfl rfl ?_
        refine wq_aload_n dX13_remembers_23 0 rfl rfl ?_
        refine g_26_3 ln_RX13_20 dX13_remembers_24 ?_
        refine wq_iload_n dX13_remembers_27 2 rfl rfl ?_
        refine wq_sipush dX13_remembers_28 (by decide) ?_
        refine wq_iadd dX13_remembers_31 ?_
        refine wq_grd (fun g13 => ?_)
        refine wq_iald (k := 27) (i := 3) rfl (by decide) rfl rfl (m := 134880) g13 (Nat.le_of_ble_eq_true rfl) dX13_remembers_32 ?_
        refine wq_grd (fun g14 => ?_)
        refine wq_iast (k := 27) (i := 3) (fun _ _ => rfl) (by decide) rfl rfl (m := 134880) g14 (Nat.le_of_ble_eq_true rfl) (by decide) (by decide) (by decide) dX13_remembers_33 (fun J15 => ?_)
        refine wq_iinc (lv' := [(2, vi (s12 + 1)), (0, vr Z 26 0), (1, vr Z 27 a1)]) dX13_remembers_34 2 rfl (by decide) rfl ?_
        refine wq_goto 11 dX13_remembers_37 (by decide) ?_
        exact WQ.loc [1, 2, 0] rfl (bk7 _ _ _)
      · exact WQ.loc [0, 1] rfl (ex8 _ _ _)
    · refine wq_aload_n dX13_remembers_40 0 rfl rfl ?_
      refine wq_dup dX13_remembers_41 rfl ?_
      refine g_26_6 ln_RX13_342 dX13_remembers_42 ?_
      refine wq_iconst dX13_remembers_45 ?_
      refine wq_isub dX13_remembers_46 ?_
      refine p_26_6 ln_RX13_342 dX13_remembers_47 (fun J20 => ?_)
      exact WQ.loc [0, 1] rfl (hj1 _   _)
  · exact WQ.loc [0, 1] rfl (hj1 _   _)

theorem ln_RX13_16 : Cond.fieldLink RX13 16 RX13 "ahead" "[I" ∈ lw_good := li_7 56 (by decide +kernel) (by decide +kernel)
noncomputable def f_M_holds  (I : Mem) : Option ((Unit) × Mem) :=
bnd (f_M_lays 0 0 2 0 I) fun _ J2 =>
some ((), J2)
set_option maxRecDepth 20000 in
theorem R_M_holds (Z : ZT)  (I : Mem) (r : Unit) (J : Mem) (hf : f_M_holds I = some (r, J)) : Runs Z yX13_holds cX13_holds 1 (none) 2 [vr Z 26 0] I (none, J) := by
  refine Runs.of (rv := fun _ => none) (by decide +kernel) (Nat.le_of_ble_eq_true rfl) hf (fun gr => ?_)
  unfold f_M_holds
  refine WQ.loc [0] (lv' := [(0, vr Z 26 0)]) rfl ?_
  refine wq_aload_n dX13_holds_0 0 rfl rfl ?_
  refine g_26_0 ln_RX13_9 dX13_holds_1 ?_
  refine wq_iconst dX13_holds_4 ?_
  refine wq_aload_n dX13_holds_5 0 rfl rfl ?_
  refine g_26_2 ln_RX13_16 dX13_holds_6 ?_
  refine wq_iconst dX13_holds_9 ?_
  refine wq_cSv M_M_lays (R_M_lays Z 0 0 2 0 _) rfl rfl rfl (by decide) (by decide) (Nat.le_of_ble_eq_true rfl) ln_RX13_208 dX13_holds_10 (fun gr1 _ J2 => ?_)
  exact wq_vret rfl rfl dX13_holds_13

theorem M_M_remembers : MwV yX13_remembers cX13_remembers 3 (none) 1 := ⟨li_8 119 (by decide +kernel) (by decide +kernel), li_8 118 (by decide +kernel) (by decide +kernel), lw_in 85 (by decide +kernel) (by decide +kernel), li_1 16 (by decide +kernel) (by decide +kernel), by decide +kernel⟩
theorem ln_RX13_415 : Cond.methodLink RX13 415 yX13_remembers ∈ lw_good := li_8 116 (by decide +kernel) (by decide +kernel)
noncomputable def f_M_recorded (a1 : Int) (I : Mem) : Option ((Int) × Mem) :=
if (w32 a1) < 0 then
some (a1, I)
else
bnd (f_M_remembers 2 I) fun _ J2 =>
some (a1, J2)
set_option maxRecDepth 20000 in
theorem R_M_recorded (Z : ZT) (a1 : Int) (I : Mem) (r : Int) (J : Mem) (hf : f_M_recorded a1 I = some (r, J)) : Runs Z yX13_recorded cX13_recorded 2 (some .int) 3 [vr Z 26 0, vi a1] I (some (vi r), J) := by
  refine Runs.of (rv := fun x => some (vi x)) (by decide +kernel) (Nat.le_of_ble_eq_true rfl) hf (fun gr => ?_)
  unfold f_M_recorded
  refine WQ.loc [0, 1] (lv' := [(0, vr Z 26 0), (1, vi a1)]) rfl ?_
  refine wq_iload_n dX13_recorded_0 1 rfl rfl ?_
  refine wq_if_lt 12 dX13_recorded_1 (by decide) rfl (fun c4 => ?_) (fun c4 => ?_)
  · refine wq_iload_n dX13_recorded_12 1 rfl rfl ?_
    exact wq_iret rfl rfl dX13_recorded_13
  · refine wq_aload_n dX13_recorded_4 0 rfl rfl ?_
    refine wq_aload_n dX13_recorded_5 0 rfl rfl ?_
    refine g_26_2 ln_RX13_16 dX13_recorded_6 ?_
    refine wq_cVv M_M_remembers (R_M_remembers Z 2 _) ob_26 rfl rfl (by decide) (by decide) (Nat.le_of_ble_eq_true rfl) ln_RX13_415 dX13_recorded_9 (fun gr1 _ J2 => ?_)
    refine wq_iload_n dX13_recorded_12 1 rfl rfl ?_
    exact wq_iret rfl rfl dX13_recorded_13

theorem M_M_holds : MwV yX13_holds cX13_holds 1 (none) 0 := ⟨li_9 177 (by decide +kernel) (by decide +kernel), li_9 176 (by decide +kernel) (by decide +kernel), lw_in 131 (by decide +kernel) (by decide +kernel), li_1 16 (by decide +kernel) (by decide +kernel), by decide +kernel⟩
theorem M_M_recorded : MwV yX13_recorded cX13_recorded 2 (some .int) 1 := ⟨li_9 181 (by decide +kernel) (by decide +kernel), li_9 180 (by decide +kernel) (by decide +kernel), lw_in 132 (by decide +kernel) (by decide +kernel), li_1 16 (by decide +kernel) (by decide +kernel), by decide +kernel⟩
theorem ln_RX13_491 : Cond.methodLink RX13 491 yX13_recorded ∈ lw_good := li_9 178 (by decide +kernel) (by decide +kernel)
theorem ln_RX13_488 : Cond.methodLink RX13 488 yX13_holds ∈ lw_good := li_9 174 (by decide +kernel) (by decide +kernel)
noncomputable def f_M_step (a1 : Int) (I : Mem) : Option ((Int) × Mem) :=
ltI (sI I 26 0 7 0) fun J1 =>
bnd (f_M_in a1 1 50 J1) fun x4 J3 =>
bnd (f_M_fails (if (w32 x4) = 0 then 1 else 0) 1 J3) fun x7 J6 =>
if (w32 x7) = 0 then
bnd (f_M_holds J6) fun _ J9 =>
bnd (f_M_stepsMany a1 J9) fun x13 J12 =>
bnd (f_M_recorded x13 J12) fun x16 J15 =>
some (x16, J15)
else
some (0, J6)
set_option maxRecDepth 20000 in
theorem R_M_step (Z : ZT) (a1 : Int) (I : Mem) (r : Int) (J : Mem) (hf : f_M_step a1 I = some (r, J)) : Runs Z yX13_step cX13_step 2 (some .int) 8 [vr Z 26 0, vi a1] I (some (vi r), J) := by
  refine Runs.of (rv := fun x => some (vi x)) (by decide +kernel) (Nat.le_of_ble_eq_true rfl) hf (fun gr => ?_)
  unfold f_M_step
  refine WQ.loc [0, 1] (lv' := [(0, vr Z 26 0), (1, vi a1)]) rfl ?_
  refine wq_aload_n dX13_step_0 0 rfl rfl ?_
  refine wq_iconst dX13_step_1 ?_
  refine p_26_7 ln_RX13_100 dX13_step_2 (fun J1 => ?_)
  refine wq_aload_n dX13_step_5 0 rfl rfl ?_
  refine wq_iload_n dX13_step_6 1 rfl rfl ?_
  refine wq_iconst dX13_step_7 ?_
  refine wq_bipush dX13_step_8 (by decide) ?_
  refine wq_cSi M_M_in (R_M_in Z a1 1 50 _) rfl rfl rfl (by decide) (by decide) (Nat.le_of_ble_eq_true rfl) ln_RX13_224 dX13_step_10 (fun gr2 x4 J3 => ?_)
  refine WQ.via 21 [vi (if (w32 x4) = 0 then 1 else 0), vr Z 26 0] (by
      refine wq_iconst dX13_step_21 ?_
      refine wq_cVi M_M_fails (R_M_fails Z (if (w32 x4) = 0 then 1 else 0) 1 _) ob_26 rfl rfl (by decide) (by decide) (Nat.le_of_ble_eq_true rfl) ln_RX13_428 dX13_step_22 (fun gr5 x7 J6 => ?_)
      refine wq_if_eq 30 dX13_step_25 (by decide) rfl (fun c17 => ?_) (fun c17 => ?_)
      · refine wq_aload_n dX13_step_30 0 rfl rfl ?_
        refine wq_cVv M_M_holds (R_M_holds Z _) ob_26 rfl rfl (by decide) (by decide) (Nat.le_of_ble_eq_true rfl) ln_RX13_488 dX13_step_31 (fun gr8 _ J9 => ?_)
        refine wq_aload_n dX13_step_34 0 rfl rfl ?_
        refine wq_aload_n dX13_step_35 0 rfl rfl ?_
        refine wq_iload_n dX13_step_36 1 rfl rfl ?_
        refine wq_cVi M_M_stepsMany (R_M_stepsMany Z a1 _) ob_26 rfl rfl (by decide) (by decide) (Nat.le_of_ble_eq_true rfl) ln_RX13_391 dX13_step_37 (fun gr11 x13 J12 => ?_)
        refine wq_cVi M_M_recorded (R_M_recorded Z x13 _) ob_26 rfl rfl (by decide) (by decide) (Nat.le_of_ble_eq_true rfl) ln_RX13_491 dX13_step_40 (fun gr14 x16 J15 => ?_)
        exact wq_iret rfl rfl dX13_step_43
      · refine wq_iconst dX13_step_28 ?_
        exact wq_iret rfl rfl dX13_step_29) (fun hj18 => ?_)
  refine WQ.both ((w32 x4) = 0) ?_
  refine wq_if_ne 20 dX13_step_13 (by decide) rfl (fun c19 => ?_) (fun c19 => ?_)
  · refine wq_iconst dX13_step_16 ?_
    refine wq_goto 21 dX13_step_17 (by decide) ?_
    exact WQ.top (if_pos c19) hj18
  · refine wq_iconst dX13_step_20 ?_
    exact WQ.top (if_neg c19) hj18

noncomputable def f_M_inline  (I : Mem) : Option ((Int) × Mem) :=
ltI (sI I 26 0 7 0) fun J1 =>
bnd (f_M_holds J1) fun _ J3 =>
bnd (f_M_inlines J3) fun x7 J6 =>
bnd (f_M_recorded x7 J6) fun x10 J9 =>
some (x10, J9)
set_option maxRecDepth 20000 in
theorem R_M_inline (Z : ZT)  (I : Mem) (r : Int) (J : Mem) (hf : f_M_inline I = some (r, J)) : Runs Z yX13_inline cX13_inline 1 (some .int) 6 [vr Z 26 0] I (some (vi r), J) := by
  refine Runs.of (rv := fun x => some (vi x)) (by decide +kernel) (Nat.le_of_ble_eq_true rfl) hf (fun gr => ?_)
  unfold f_M_inline
  refine WQ.loc [0] (lv' := [(0, vr Z 26 0)]) rfl ?_
  refine wq_aload_n dX13_inline_0 0 rfl rfl ?_
  refine wq_iconst dX13_inline_1 ?_
  refine p_26_7 ln_RX13_100 dX13_inline_2 (fun J1 => ?_)
  refine wq_aload_n dX13_inline_5 0 rfl rfl ?_
  refine wq_cVv M_M_holds (R_M_holds Z _) ob_26 rfl rfl (by decide) (by decide) (Nat.le_of_ble_eq_true rfl) ln_RX13_488 dX13_inline_6 (fun gr2 _ J3 => ?_)
  refine wq_aload_n dX13_inline_9 0 rfl rfl ?_
  refine wq_aload_n dX13_inline_10 0 rfl rfl ?_
  refine wq_cVi M_M_inlines (R_M_inlines Z _) ob_26 rfl rfl (by decide) (by decide) (Nat.le_of_ble_eq_true rfl) ln_RX13_201 dX13_inline_11 (fun gr5 x7 J6 => ?_)
  refine wq_cVi M_M_recorded (R_M_recorded Z x7 _) ob_26 rfl rfl (by decide) (by decide) (Nat.le_of_ble_eq_true rfl) ln_RX13_491 dX13_inline_14 (fun gr8 x10 J9 => ?_)
  exact wq_iret rfl rfl dX13_inline_17

theorem M_M_makeNow : MwV yX13_makeNow cX13_makeNow 4 (some .int) 2 := ⟨li_8 211 (by decide +kernel) (by decide +kernel), li_8 210 (by decide +kernel) (by decide +kernel), lw_in 107 (by decide +kernel) (by decide +kernel), li_1 16 (by decide +kernel) (by decide +kernel), by decide +kernel⟩
theorem ln_RX13_394 : Cond.methodLink RX13 394 yX13_makeNow ∈ lw_good := li_8 208 (by decide +kernel) (by decide +kernel)
noncomputable def f_M_make (a1 : Int) (a2 : Int) (I : Mem) : Option ((Int) × Mem) :=
ltI (sI I 26 0 7 0) fun J1 =>
bnd (f_M_noPair a1 a2 J1) fun x4 J3 =>
if (w32 x4) = 0 then
bnd (f_M_holds J3) fun _ J6 =>
bnd (f_M_makeNow a1 a2 J6) fun x10 J9 =>
bnd (f_M_recorded x10 J9) fun x13 J12 =>
some (x13, J12)
else
some (0, J3)
set_option maxRecDepth 20000 in
theorem R_M_make (Z : ZT) (a1 : Int) (a2 : Int) (I : Mem) (r : Int) (J : Mem) (hf : f_M_make a1 a2 I = some (r, J)) : Runs Z yX13_make cX13_make 3 (some .int) 6 [vr Z 26 0, vi a1, vi a2] I (some (vi r), J) := by
  refine Runs.of (rv := fun x => some (vi x)) (by decide +kernel) (Nat.le_of_ble_eq_true rfl) hf (fun gr => ?_)
  unfold f_M_make
  refine WQ.loc [0, 1, 2] (lv' := [(0, vr Z 26 0), (1, vi a1), (2, vi a2)]) rfl ?_
  refine wq_aload_n dX13_make_0 0 rfl rfl ?_
  refine wq_iconst dX13_make_1 ?_
  refine p_26_7 ln_RX13_100 dX13_make_2 (fun J1 => ?_)
  refine wq_aload_n dX13_make_5 0 rfl rfl ?_
  refine wq_iload_n dX13_make_6 1 rfl rfl ?_
  refine wq_iload_n dX13_make_7 2 rfl rfl ?_
  refine wq_cVi M_M_noPair (R_M_noPair Z a1 a2 _) ob_26 rfl rfl (by decide) (by decide) (Nat.le_of_ble_eq_true rfl) ln_RX13_475 dX13_make_8 (fun gr2 x4 J3 => ?_)
  refine wq_if_eq 16 dX13_make_11 (by decide) rfl (fun c14 => ?_) (fun c14 => ?_)
  · refine wq_aload_n dX13_make_16 0 rfl rfl ?_
    refine wq_cVv M_M_holds (R_M_holds Z _) ob_26 rfl rfl (by decide) (by decide) (Nat.le_of_ble_eq_true rfl) ln_RX13_488 dX13_make_17 (fun gr5 _ J6 => ?_)
    refine wq_aload_n dX13_make_20 0 rfl rfl ?_
    refine wq_aload_n dX13_make_21 0 rfl rfl ?_
    refine wq_iload_n dX13_make_22 1 rfl rfl ?_
    refine wq_iload_n dX13_make_23 2 rfl rfl ?_
    refine wq_cVi M_M_makeNow (R_M_makeNow Z a1 a2 _) ob_26 rfl rfl (by decide) (by decide) (Nat.le_of_ble_eq_true rfl) ln_RX13_394 dX13_make_24 (fun gr8 x10 J9 => ?_)
    refine wq_cVi M_M_recorded (R_M_recorded Z x10 _) ob_26 rfl rfl (by decide) (by decide) (Nat.le_of_ble_eq_true rfl) ln_RX13_491 dX13_make_27 (fun gr11 x13 J12 => ?_)
    exact wq_iret rfl rfl dX13_make_30
  · refine wq_iconst dX13_make_14 ?_
    exact wq_iret rfl rfl dX13_make_15

theorem M_M_expandNow : MwV yX13_expandNow cX13_expandNow 2 (some .int) 1 := ⟨li_8 219 (by decide +kernel) (by decide +kernel), li_8 218 (by decide +kernel) (by decide +kernel), lw_in 109 (by decide +kernel) (by decide +kernel), li_1 16 (by decide +kernel) (by decide +kernel), by decide +kernel⟩
theorem ln_RX13_397 : Cond.methodLink RX13 397 yX13_expandNow ∈ lw_good := li_8 216 (by decide +kernel) (by decide +kernel)
noncomputable def f_M_expand (a1 : Int) (I : Mem) : Option ((Int) × Mem) :=
ltI (sI I 26 0 7 0) fun J1 =>
bnd (f_M_noRule a1 J1) fun x4 J3 =>
if (w32 x4) = 0 then
bnd (f_M_holds J3) fun _ J6 =>
bnd (f_M_expandNow a1 J6) fun x10 J9 =>
bnd (f_M_recorded x10 J9) fun x13 J12 =>
some (x13, J12)
else
some (0, J3)
set_option maxRecDepth 20000 in
theorem R_M_expand (Z : ZT) (a1 : Int) (I : Mem) (r : Int) (J : Mem) (hf : f_M_expand a1 I = some (r, J)) : Runs Z yX13_expand cX13_expand 2 (some .int) 5 [vr Z 26 0, vi a1] I (some (vi r), J) := by
  refine Runs.of (rv := fun x => some (vi x)) (by decide +kernel) (Nat.le_of_ble_eq_true rfl) hf (fun gr => ?_)
  unfold f_M_expand
  refine WQ.loc [0, 1] (lv' := [(0, vr Z 26 0), (1, vi a1)]) rfl ?_
  refine wq_aload_n dX13_expand_0 0 rfl rfl ?_
  refine wq_iconst dX13_expand_1 ?_
  refine p_26_7 ln_RX13_100 dX13_expand_2 (fun J1 => ?_)
  refine wq_aload_n dX13_expand_5 0 rfl rfl ?_
  refine wq_iload_n dX13_expand_6 1 rfl rfl ?_
  refine wq_cVi M_M_noRule (R_M_noRule Z a1 _) ob_26 rfl rfl (by decide) (by decide) (Nat.le_of_ble_eq_true rfl) ln_RX13_446 dX13_expand_7 (fun gr2 x4 J3 => ?_)
  refine wq_if_eq 15 dX13_expand_10 (by decide) rfl (fun c14 => ?_) (fun c14 => ?_)
  · refine wq_aload_n dX13_expand_15 0 rfl rfl ?_
    refine wq_cVv M_M_holds (R_M_holds Z _) ob_26 rfl rfl (by decide) (by decide) (Nat.le_of_ble_eq_true rfl) ln_RX13_488 dX13_expand_16 (fun gr5 _ J6 => ?_)
    refine wq_aload_n dX13_expand_19 0 rfl rfl ?_
    refine wq_aload_n dX13_expand_20 0 rfl rfl ?_
    refine wq_iload_n dX13_expand_21 1 rfl rfl ?_
    refine wq_cVi M_M_expandNow (R_M_expandNow Z a1 _) ob_26 rfl rfl (by decide) (by decide) (Nat.le_of_ble_eq_true rfl) ln_RX13_397 dX13_expand_22 (fun gr8 x10 J9 => ?_)
    refine wq_cVi M_M_recorded (R_M_recorded Z x10 _) ob_26 rfl rfl (by decide) (by decide) (Nat.le_of_ble_eq_true rfl) ln_RX13_491 dX13_expand_25 (fun gr11 x13 J12 => ?_)
    exact wq_iret rfl rfl dX13_expand_28
  · refine wq_iconst dX13_expand_13 ?_
    exact wq_iret rfl rfl dX13_expand_14

theorem M_M_appendNow : MwV yX13_appendNow cX13_appendNow 2 (some .int) 1 := ⟨li_8 227 (by decide +kernel) (by decide +kernel), li_8 226 (by decide +kernel) (by decide +kernel), lw_in 111 (by decide +kernel) (by decide +kernel), li_1 16 (by decide +kernel) (by decide +kernel), by decide +kernel⟩
theorem ln_RX13_388 : Cond.methodLink RX13 388 yX13_appendNow ∈ lw_good := li_8 224 (by decide +kernel) (by decide +kernel)
noncomputable def f_M_append (a1 : Int) (I : Mem) : Option ((Int) × Mem) :=
ltI (sI I 26 0 7 0) fun J1 =>
bnd (f_M_in a1 0 25 J1) fun x4 J3 =>
bnd (f_M_fails (if (w32 x4) = 0 then 1 else 0) 1 J3) fun x7 J6 =>
if (w32 x7) = 0 then
bnd (f_M_holds J6) fun _ J9 =>
bnd (f_M_appendNow a1 J9) fun x13 J12 =>
bnd (f_M_recorded x13 J12) fun x16 J15 =>
some (x16, J15)
else
some (0, J6)
set_option maxRecDepth 20000 in
theorem R_M_append (Z : ZT) (a1 : Int) (I : Mem) (r : Int) (J : Mem) (hf : f_M_append a1 I = some (r, J)) : Runs Z yX13_append cX13_append 2 (some .int) 4 [vr Z 26 0, vi a1] I (some (vi r), J) := by
  refine Runs.of (rv := fun x => some (vi x)) (by decide +kernel) (Nat.le_of_ble_eq_true rfl) hf (fun gr => ?_)
  unfold f_M_append
  refine WQ.loc [0, 1] (lv' := [(0, vr Z 26 0), (1, vi a1)]) rfl ?_
  refine wq_aload_n dX13_append_0 0 rfl rfl ?_
  refine wq_iconst dX13_append_1 ?_
  refine p_26_7 ln_RX13_100 dX13_append_2 (fun J1 => ?_)
  refine wq_aload_n dX13_append_5 0 rfl rfl ?_
  refine wq_iload_n dX13_append_6 1 rfl rfl ?_
  refine wq_iconst dX13_append_7 ?_
  refine wq_bipush dX13_append_8 (by decide) ?_
  refine wq_cSi M_M_in (R_M_in Z a1 0 25 _) rfl rfl rfl (by decide) (by decide) (Nat.le_of_ble_eq_true rfl) ln_RX13_224 dX13_append_10 (fun gr2 x4 J3 => ?_)
  refine WQ.via 21 [vi (if (w32 x4) = 0 then 1 else 0), vr Z 26 0] (by
      refine wq_iconst dX13_append_21 ?_
      refine wq_cVi M_M_fails (R_M_fails Z (if (w32 x4) = 0 then 1 else 0) 1 _) ob_26 rfl rfl (by decide) (by decide) (Nat.le_of_ble_eq_true rfl) ln_RX13_428 dX13_append_22 (fun gr5 x7 J6 => ?_)
      refine wq_if_eq 30 dX13_append_25 (by decide) rfl (fun c17 => ?_) (fun c17 => ?_)
      · refine wq_aload_n dX13_append_30 0 rfl rfl ?_
        refine wq_cVv M_M_holds (R_M_holds Z _) ob_26 rfl rfl (by decide) (by decide) (Nat.le_of_ble_eq_true rfl) ln_RX13_488 dX13_append_31 (fun gr8 _ J9 => ?_)
        refine wq_aload_n dX13_append_34 0 rfl rfl ?_
        refine wq_aload_n dX13_append_35 0 rfl rfl ?_
        refine wq_iload_n dX13_append_36 1 rfl rfl ?_
        refine wq_cVi M_M_appendNow (R_M_appendNow Z a1 _) ob_26 rfl rfl (by decide) (by decide) (Nat.le_of_ble_eq_true rfl) ln_RX13_388 dX13_append_37 (fun gr11 x13 J12 => ?_)
        refine wq_cVi M_M_recorded (R_M_recorded Z x13 _) ob_26 rfl rfl (by decide) (by decide) (Nat.le_of_ble_eq_true rfl) ln_RX13_491 dX13_append_40 (fun gr14 x16 J15 => ?_)
        exact wq_iret rfl rfl dX13_append_43
      · refine wq_iconst dX13_append_28 ?_
        exact wq_iret rfl rfl dX13_append_29) (fun hj18 => ?_)
  refine WQ.both ((w32 x4) = 0) ?_
  refine wq_if_ne 20 dX13_append_13 (by decide) rfl (fun c19 => ?_) (fun c19 => ?_)
  · refine wq_iconst dX13_append_16 ?_
    refine wq_goto 21 dX13_append_17 (by decide) ?_
    exact WQ.top (if_pos c19) hj18
  · refine wq_iconst dX13_append_20 ?_
    exact WQ.top (if_neg c19) hj18

theorem M_M_cutNow : MwV yX13_cutNow cX13_cutNow 5 (some .int) 1 := ⟨li_8 231 (by decide +kernel) (by decide +kernel), li_8 230 (by decide +kernel) (by decide +kernel), lw_in 112 (by decide +kernel) (by decide +kernel), li_1 16 (by decide +kernel) (by decide +kernel), by decide +kernel⟩
theorem ln_RX13_403 : Cond.methodLink RX13 403 yX13_cutNow ∈ lw_good := li_8 228 (by decide +kernel) (by decide +kernel)
noncomputable def f_M_cut (a1 : Int) (I : Mem) : Option ((Int) × Mem) :=
ltI (sI I 26 0 7 0) fun J1 =>
bnd (f_M_in a1 1 400 J1) fun x4 J3 =>
bnd (f_M_fails (if (w32 x4) = 0 then 1 else 0) 1 J3) fun x7 J6 =>
if (w32 x7) = 0 then
bnd (f_M_holds J6) fun _ J9 =>
bnd (f_M_cutNow a1 J9) fun x13 J12 =>
bnd (f_M_recorded x13 J12) fun x16 J15 =>
some (x16, J15)
else
some (0, J6)
set_option maxRecDepth 20000 in
theorem R_M_cut (Z : ZT) (a1 : Int) (I : Mem) (r : Int) (J : Mem) (hf : f_M_cut a1 I = some (r, J)) : Runs Z yX13_cut cX13_cut 2 (some .int) 5 [vr Z 26 0, vi a1] I (some (vi r), J) := by
  refine Runs.of (rv := fun x => some (vi x)) (by decide +kernel) (Nat.le_of_ble_eq_true rfl) hf (fun gr => ?_)
  unfold f_M_cut
  refine WQ.loc [0, 1] (lv' := [(0, vr Z 26 0), (1, vi a1)]) rfl ?_
  refine wq_aload_n dX13_cut_0 0 rfl rfl ?_
  refine wq_iconst dX13_cut_1 ?_
  refine p_26_7 ln_RX13_100 dX13_cut_2 (fun J1 => ?_)
  refine wq_aload_n dX13_cut_5 0 rfl rfl ?_
  refine wq_iload_n dX13_cut_6 1 rfl rfl ?_
  refine wq_iconst dX13_cut_7 ?_
  refine wq_sipush dX13_cut_8 (by decide) ?_
  refine wq_cSi M_M_in (R_M_in Z a1 1 400 _) rfl rfl rfl (by decide) (by decide) (Nat.le_of_ble_eq_true rfl) ln_RX13_224 dX13_cut_11 (fun gr2 x4 J3 => ?_)
  refine WQ.via 22 [vi (if (w32 x4) = 0 then 1 else 0), vr Z 26 0] (by
      refine wq_iconst dX13_cut_22 ?_
      refine wq_cVi M_M_fails (R_M_fails Z (if (w32 x4) = 0 then 1 else 0) 1 _) ob_26 rfl rfl (by decide) (by decide) (Nat.le_of_ble_eq_true rfl) ln_RX13_428 dX13_cut_23 (fun gr5 x7 J6 => ?_)
      refine wq_if_eq 31 dX13_cut_26 (by decide) rfl (fun c17 => ?_) (fun c17 => ?_)
      · refine wq_aload_n dX13_cut_31 0 rfl rfl ?_
        refine wq_cVv M_M_holds (R_M_holds Z _) ob_26 rfl rfl (by decide) (by decide) (Nat.le_of_ble_eq_true rfl) ln_RX13_488 dX13_cut_32 (fun gr8 _ J9 => ?_)
        refine wq_aload_n dX13_cut_35 0 rfl rfl ?_
        refine wq_aload_n dX13_cut_36 0 rfl rfl ?_
        refine wq_iload_n dX13_cut_37 1 rfl rfl ?_
        refine wq_cVi M_M_cutNow (R_M_cutNow Z a1 _) ob_26 rfl rfl (by decide) (by decide) (Nat.le_of_ble_eq_true rfl) ln_RX13_403 dX13_cut_38 (fun gr11 x13 J12 => ?_)
        refine wq_cVi M_M_recorded (R_M_recorded Z x13 _) ob_26 rfl rfl (by decide) (by decide) (Nat.le_of_ble_eq_true rfl) ln_RX13_491 dX13_cut_41 (fun gr14 x16 J15 => ?_)
        exact wq_iret rfl rfl dX13_cut_44
      · refine wq_iconst dX13_cut_29 ?_
        exact wq_iret rfl rfl dX13_cut_30) (fun hj18 => ?_)
  refine WQ.both ((w32 x4) = 0) ?_
  refine wq_if_ne 21 dX13_cut_14 (by decide) rfl (fun c19 => ?_) (fun c19 => ?_)
  · refine wq_iconst dX13_cut_17 ?_
    refine wq_goto 22 dX13_cut_18 (by decide) ?_
    exact WQ.top (if_pos c19) hj18
  · refine wq_iconst dX13_cut_21 ?_
    exact WQ.top (if_neg c19) hj18

theorem M_M_setNow : MwV yX13_setNow cX13_setNow 4 (some .int) 2 := ⟨li_8 235 (by decide +kernel) (by decide +kernel), li_8 234 (by decide +kernel) (by decide +kernel), lw_in 113 (by decide +kernel) (by decide +kernel), li_1 16 (by decide +kernel) (by decide +kernel), by decide +kernel⟩
theorem ln_RX13_406 : Cond.methodLink RX13 406 yX13_setNow ∈ lw_good := li_8 232 (by decide +kernel) (by decide +kernel)
noncomputable def f_M_set_j40 (v1 : Int) (v2 : Int)  (e0 : Int) (I : Mem) : Option ((Int) × Mem) :=
bnd (f_M_fails e0 1 I) fun x20 J19 =>
if (w32 x20) = 0 then
bnd (f_M_holds J19) fun _ J22 =>
bnd (f_M_setNow (v1 - 4) v2 J22) fun x26 J25 =>
bnd (f_M_recorded x26 J25) fun x29 J28 =>
some (x29, J28)
else
some (0, J19)

noncomputable def f_M_set_j35 (v1 : Int) (v2 : Int)   (I : Mem) : Option ((Int) × Mem) :=
f_M_set_j40 v1 v2 1 I

noncomputable def f_M_set (a1 : Int) (a2 : Int) (I : Mem) : Option ((Int) × Mem) :=
ltI (sI I 26 0 7 0) fun J1 =>
bnd (f_M_in a1 4 6 J1) fun x4 J3 =>
if (w32 x4) = 0 then
f_M_set_j35 a1 a2 J3
else
bnd (f_M_leastOf (a1 - 4) J3) fun x9 J8 =>
bnd (f_M_mostOf (a1 - 4) J8) fun x12 J11 =>
bnd (f_M_in a2 x9 x12 J11) fun x15 J14 =>
if (w32 x15) = 0 then
f_M_set_j35 a1 a2 J14
else
f_M_set_j40 a1 a2 0 J14
set_option maxRecDepth 20000 in
theorem R_M_set (Z : ZT) (a1 : Int) (a2 : Int) (I : Mem) (r : Int) (J : Mem) (hf : f_M_set a1 a2 I = some (r, J)) : Runs Z yX13_set cX13_set 3 (some .int) 4 [vr Z 26 0, vi a1, vi a2] I (some (vi r), J) := by
  refine Runs.of (rv := fun x => some (vi x)) (by decide +kernel) (Nat.le_of_ble_eq_true rfl) hf (fun gr => ?_)
  unfold f_M_set
  refine WQ.loc [0, 1, 2] (lv' := [(0, vr Z 26 0), (1, vi a1), (2, vi a2)]) rfl ?_
  refine wq_aload_n dX13_set_0 0 rfl rfl ?_
  refine wq_iconst dX13_set_1 ?_
  refine p_26_7 ln_RX13_100 dX13_set_2 (fun J1 => ?_)
  refine wq_aload_n dX13_set_5 0 rfl rfl ?_
  refine wq_iload_n dX13_set_6 1 rfl rfl ?_
  refine wq_iconst dX13_set_7 ?_
  refine wq_bipush dX13_set_8 (by decide) ?_
  refine wq_cSi M_M_in (R_M_in Z a1 4 6 _) rfl rfl rfl (by decide) (by decide) (Nat.le_of_ble_eq_true rfl) ln_RX13_224 dX13_set_10 (fun gr2 x4 J3 => ?_)
  have hj5 : ∀ (gr32 : Nat → Nat)  (hj5e0 : Int) (J31 : Mem), WQ Z (yX13_set, cX13_set, 3, some .int, 4) I gr32 40 [(0, vr Z 26 0), (1, vi a1), (2, vi a2)] [vi hj5e0, vr Z 26 0] J31 (f_M_set_j40 a1 a2 hj5e0 J31) (fun b K => some (.inl ((fun x => some (vi x)) b), K)) := by
    intro gr32 hj5e0 J31
    unfold f_M_set_j40
    refine wq_iconst dX13_set_40 ?_
    refine wq_cVi M_M_fails (R_M_fails Z hj5e0 1 _) ob_26 rfl rfl (by decide) (by decide) (Nat.le_of_ble_eq_true rfl) ln_RX13_428 dX13_set_41 (fun gr33 x35 J34 => ?_)
    refine wq_if_eq 49 dX13_set_44 (by decide) rfl (fun c45 => ?_) (fun c45 => ?_)
    · refine wq_aload_n dX13_set_49 0 rfl rfl ?_
      refine wq_cVv M_M_holds (R_M_holds Z _) ob_26 rfl rfl (by decide) (by decide) (Nat.le_of_ble_eq_true rfl) ln_RX13_488 dX13_set_50 (fun gr36 _ J37 => ?_)
      refine wq_aload_n dX13_set_53 0 rfl rfl ?_
      refine wq_aload_n dX13_set_54 0 rfl rfl ?_
      refine wq_iload_n dX13_set_55 1 rfl rfl ?_
      refine wq_iconst dX13_set_56 ?_
      refine wq_isub dX13_set_57 ?_
      refine wq_iload_n dX13_set_58 2 rfl rfl ?_
      refine wq_cVi M_M_setNow (R_M_setNow Z (a1 - 4) a2 _) ob_26 rfl rfl (by decide) (by decide) (Nat.le_of_ble_eq_true rfl) ln_RX13_406 dX13_set_59 (fun gr39 x41 J40 => ?_)
      refine wq_cVi M_M_recorded (R_M_recorded Z x41 _) ob_26 rfl rfl (by decide) (by decide) (Nat.le_of_ble_eq_true rfl) ln_RX13_491 dX13_set_62 (fun gr42 x44 J43 => ?_)
      exact wq_iret rfl rfl dX13_set_65
    · refine wq_iconst dX13_set_47 ?_
      exact wq_iret rfl rfl dX13_set_48
  have hj6 : ∀ (gr47 : Nat → Nat)   (J46 : Mem), WQ Z (yX13_set, cX13_set, 3, some .int, 4) I gr47 35 [(0, vr Z 26 0), (1, vi a1), (2, vi a2)] [vr Z 26 0] J46 (f_M_set_j35 a1 a2 J46) (fun b K => some (.inl ((fun x => some (vi x)) b), K)) := by
    intro gr47 J46
    unfold f_M_set_j35
    refine wq_iconst dX13_set_35 ?_
    refine wq_goto 40 dX13_set_36 (by decide) ?_
    exact WQ.loc [0, 1, 2] rfl (hj5 _  _ _)
  refine wq_if_eq 35 dX13_set_13 (by decide) rfl (fun c17 => ?_) (fun c17 => ?_)
  · exact WQ.loc [0, 1, 2] rfl (hj6 _   _)
  · refine wq_iload_n dX13_set_16 2 rfl rfl ?_
    refine wq_iload_n dX13_set_17 1 rfl rfl ?_
    refine wq_iconst dX13_set_18 ?_
    refine wq_isub dX13_set_19 ?_
    refine wq_cSi M_M_leastOf (R_M_leastOf Z (a1 - 4) _) rfl rfl rfl (by decide) (by decide) (Nat.le_of_ble_eq_true rfl) ln_RX13_301 dX13_set_20 (fun gr7 x9 J8 => ?_)
    refine wq_iload_n dX13_set_23 1 rfl rfl ?_
    refine wq_iconst dX13_set_24 ?_
    refine wq_isub dX13_set_25 ?_
    refine wq_cSi M_M_mostOf (R_M_mostOf Z (a1 - 4) _) rfl rfl rfl (by decide) (by decide) (Nat.le_of_ble_eq_true rfl) ln_RX13_304 dX13_set_26 (fun gr10 x12 J11 => ?_)
    refine wq_cSi M_M_in (R_M_in Z a2 x9 x12 _) rfl rfl rfl (by decide) (by decide) (Nat.le_of_ble_eq_true rfl) ln_RX13_224 dX13_set_29 (fun gr13 x15 J14 => ?_)
    refine wq_if_ne 39 dX13_set_32 (by decide) rfl (fun c16 => ?_) (fun c16 => ?_)
    · exact WQ.loc [0, 1, 2] rfl (hj6 _   _)
    · refine wq_iconst dX13_set_39 ?_
      exact WQ.loc [0, 1, 2] rfl (hj5 _  _ _)

theorem ln_RX13_87 : Cond.fieldLink RX13 87 RX13 "page" "[I" ∈ lw_good := li_7 96 (by decide +kernel) (by decide +kernel)
theorem ln_RX13_494 : Cond.fieldLink RX13 494 RX13 "pageMany" "I" ∈ lw_good := li_7 97 (by decide +kernel) (by decide +kernel)
noncomputable def f_M_writes (a1 : Int) (I : Mem) : Option ((Unit) × Mem) :=
if 0 ≤ (w32 (I 26 0 43)) ∧ (w32 (I 26 0 43)) < 70000 then
ltI (sI I 27 22 (w32 (I 26 0 43)).toNat a1) fun J2 =>
ltI (sI J2 26 0 43 ((J2 26 0 43) + 1)) fun J3 =>
some ((), J3)
else none
set_option maxRecDepth 20000 in
theorem R_M_writes (Z : ZT) (a1 : Int) (I : Mem) (r : Unit) (J : Mem) (hf : f_M_writes a1 I = some (r, J)) : Runs Z yX13_writes cX13_writes 2 (none) 1 [vr Z 26 0, vi a1] I (none, J) := by
  refine Runs.of (rv := fun _ => none) (by decide +kernel) (Nat.le_of_ble_eq_true rfl) hf (fun gr => ?_)
  unfold f_M_writes
  refine WQ.loc [0, 1] (lv' := [(0, vr Z 26 0), (1, vi a1)]) rfl ?_
  refine wq_aload_n dX13_writes_0 0 rfl rfl ?_
  refine g_26_42 ln_RX13_87 dX13_writes_1 ?_
  refine wq_aload_n dX13_writes_4 0 rfl rfl ?_
  refine g_26_43 ln_RX13_494 dX13_writes_5 ?_
  refine wq_iload_n dX13_writes_8 1 rfl rfl ?_
  refine wq_grd (fun g1 => ?_)
  refine wq_iast (k := 27) (i := 22) (fun _ _ => rfl) (by decide) rfl rfl (m := 70000) g1 (Nat.le_of_ble_eq_true rfl) (by decide) (by decide) (by decide) dX13_writes_9 (fun J2 => ?_)
  refine wq_aload_n dX13_writes_10 0 rfl rfl ?_
  refine wq_dup dX13_writes_11 rfl ?_
  refine g_26_43 ln_RX13_494 dX13_writes_12 ?_
  refine wq_iconst dX13_writes_15 ?_
  refine wq_iadd dX13_writes_16 ?_
  refine p_26_43 ln_RX13_494 dX13_writes_17 (fun J3 => ?_)
  exact wq_vret rfl rfl dX13_writes_20

theorem M_M_writes : MwV yX13_writes cX13_writes 2 (none) 1 := ⟨li_9 217 (by decide +kernel) (by decide +kernel), li_9 216 (by decide +kernel) (by decide +kernel), lw_in 134 (by decide +kernel) (by decide +kernel), li_1 16 (by decide +kernel) (by decide +kernel), by decide +kernel⟩
theorem ln_RX13_497 : Cond.methodLink RX13 497 yX13_writes ∈ lw_good := li_9 214 (by decide +kernel) (by decide +kernel)
noncomputable def f_M_writesNumber_j17 (v1 : Int)   (I : Mem) : Option ((Unit) × Mem) :=
bnd (f_M_writes (48 + (irm v1 10)) I) fun _ J7 =>
some ((), J7)

noncomputable def f_M_writesNumber (a1 : Int) (I : Mem) : Option ((Unit) × Mem) :=
if 9 < (w32 a1) then
bnd (f_M_writes (48 + (idv a1 10)) I) fun _ J3 =>
f_M_writesNumber_j17 a1 J3
else
f_M_writesNumber_j17 a1 I
set_option maxRecDepth 20000 in
theorem R_M_writesNumber (Z : ZT) (a1 : Int) (I : Mem) (r : Unit) (J : Mem) (hf : f_M_writesNumber a1 I = some (r, J)) : Runs Z yX13_writesNumber cX13_writesNumber 2 (none) 2 [vr Z 26 0, vi a1] I (none, J) := by
  refine Runs.of (rv := fun _ => none) (by decide +kernel) (Nat.le_of_ble_eq_true rfl) hf (fun gr => ?_)
  unfold f_M_writesNumber
  refine WQ.loc [0, 1] (lv' := [(0, vr Z 26 0), (1, vi a1)]) rfl ?_
  refine wq_iload_n dX13_writesNumber_0 1 rfl rfl ?_
  refine wq_bipush dX13_writesNumber_1 (by decide) ?_
  have hj1 : ∀ (gr10 : Nat → Nat)   (J9 : Mem), WQ Z (yX13_writesNumber, cX13_writesNumber, 2, none, 2) I gr10 17 [(0, vr Z 26 0), (1, vi a1)] [] J9 (f_M_writesNumber_j17 a1 J9) (fun b K => some (.inl ((fun _ => none) b), K)) := by
    intro gr10 J9
    unfold f_M_writesNumber_j17
    refine wq_aload_n dX13_writesNumber_17 0 rfl rfl ?_
    refine wq_bipush dX13_writesNumber_18 (by decide) ?_
    refine wq_iload_n dX13_writesNumber_20 1 rfl rfl ?_
    refine wq_bipush dX13_writesNumber_21 (by decide) ?_
    refine wq_irem dX13_writesNumber_23 (by decide) ?_
    refine wq_iadd dX13_writesNumber_24 ?_
    refine wq_cVv M_M_writes (R_M_writes Z (48 + (irm a1 10)) _) ob_26 rfl rfl (by decide) (by decide) (Nat.le_of_ble_eq_true rfl) ln_RX13_497 dX13_writesNumber_25 (fun gr11 _ J12 => ?_)
    exact wq_vret rfl rfl dX13_writesNumber_28
  refine wq_icmp_le 17 dX13_writesNumber_3 (by decide) rfl rfl (fun c5 => ?_) (fun c5 => ?_)
  · refine wq_aload_n dX13_writesNumber_6 0 rfl rfl ?_
    refine wq_bipush dX13_writesNumber_7 (by decide) ?_
    refine wq_iload_n dX13_writesNumber_9 1 rfl rfl ?_
    refine wq_bipush dX13_writesNumber_10 (by decide) ?_
    refine wq_idiv dX13_writesNumber_12 (by decide) ?_
    refine wq_iadd dX13_writesNumber_13 ?_
    refine wq_cVv M_M_writes (R_M_writes Z (48 + (idv a1 10)) _) ob_26 rfl rfl (by decide) (by decide) (Nat.le_of_ble_eq_true rfl) ln_RX13_497 dX13_writesNumber_14 (fun gr2 _ J3 => ?_)
    exact WQ.loc [0, 1] rfl (hj1 _   _)
  · exact WQ.loc [0, 1] rfl (hj1 _   _)

theorem M_M_writesNumber : MwV yX13_writesNumber cX13_writesNumber 2 (none) 1 := ⟨li_9 221 (by decide +kernel) (by decide +kernel), li_9 220 (by decide +kernel) (by decide +kernel), lw_in 135 (by decide +kernel) (by decide +kernel), li_1 16 (by decide +kernel) (by decide +kernel), by decide +kernel⟩
theorem ln_RX13_500 : Cond.methodLink RX13 500 yX13_writesNumber ∈ lw_good := li_9 218 (by decide +kernel) (by decide +kernel)
noncomputable def f_M_writesRow_w2 (v1 : Int) (s : Int) (I : Mem) : Option (((Int) ⊕ (Unit)) × Mem) :=
bnd (f_M_many v1 I) fun x3 J2 =>
if (w32 s) < (w32 x3) then
bnd (f_M_at v1 s J2) fun x6 J5 =>
if (w32 x6) < 26 then
bnd (f_M_writes (97 + x6) J5) fun _ J17 =>
some (.inl (s + 1), J17)
else
bnd (f_M_writes 40 J5) fun _ J8 =>
bnd (f_M_writesNumber (x6 - 26) J8) fun _ J11 =>
bnd (f_M_writes 41 J11) fun _ J14 =>
some (.inl (s + 1), J14)
else
some (.inr (), J2)

noncomputable def f_M_writesRow (a1 : Int) (I : Mem) : Option ((Unit) × Mem) :=
bnd (whl (f_M_writesRow_w2 a1) 0 I) fun r48 J49 =>
some ((), J49)
set_option maxRecDepth 20000 in
theorem R_M_writesRow (Z : ZT) (a1 : Int) (I : Mem) (r : Unit) (J : Mem) (hf : f_M_writesRow a1 I = some (r, J)) : Runs Z yX13_writesRow cX13_writesRow 4 (none) 3 [vr Z 26 0, vi a1] I (none, J) := by
  refine Runs.of (rv := fun _ => none) (by decide +kernel) (Nat.le_of_ble_eq_true rfl) hf (fun gr => ?_)
  unfold f_M_writesRow
  refine WQ.loc [0, 1] (lv' := [(0, vr Z 26 0), (1, vi a1)]) rfl ?_
  refine wq_iconst dX13_writesRow_0 ?_
  refine wq_istore_n (lv' := [(2, vi 0), (0, vr Z 26 0), (1, vi a1)]) dX13_writesRow_1 rfl (by decide) rfl ?_
  refine WQ.loc [1, 2, 0] (lv' := [(0, vr Z 26 0), (1, vi a1), (2, vi 0)]) rfl ?_
  refine wq_loopS (fun s27 => [(0, vr Z 26 0), (1, vi a1), (2, vi s27)]) 61 (fun _ => []) (fun κ21 bk22 ex23 gr26 s27 J25 => ?_) (fun gr50 r48 J49 => ?_) gr _ rfl
  · unfold f_M_writesRow_w2
    refine wq_iload_n dX13_writesRow_2 2 rfl rfl ?_
    refine wq_aload_n dX13_writesRow_3 0 rfl rfl ?_
    refine wq_iload_n dX13_writesRow_4 1 rfl rfl ?_
    refine wq_cVi M_M_many (R_M_many Z a1 _) ob_26 rfl rfl (by decide) (by decide) (Nat.le_of_ble_eq_true rfl) ln_RX13_103 dX13_writesRow_5 (fun gr28 x30 J29 => ?_)
    refine wq_icmp_ge 61 dX13_writesRow_8 (by decide) rfl rfl (fun c47 => ?_) (fun c47 => ?_)
    · refine wq_aload_n dX13_writesRow_11 0 rfl rfl ?_
      refine wq_iload_n dX13_writesRow_12 1 rfl rfl ?_
      refine wq_iload_n dX13_writesRow_13 2 rfl rfl ?_
      refine wq_cVi M_M_at (R_M_at Z a1 s27 _) ob_26 rfl rfl (by decide) (by decide) (Nat.le_of_ble_eq_true rfl) ln_RX13_119 dX13_writesRow_14 (fun gr31 x33 J32 => ?_)
      refine wq_istore_n (lv' := [(3, vi x33), (0, vr Z 26 0), (1, vi a1), (2, vi s27)]) dX13_writesRow_17 rfl (by decide) rfl ?_
      refine wq_iload_n dX13_writesRow_18 0 rfl rfl ?_
      refine wq_bipush dX13_writesRow_19 (by decide) ?_
      refine wq_icmp_ge 35 dX13_writesRow_21 (by decide) rfl rfl (fun c46 => ?_) (fun c46 => ?_)
      · refine wq_aload_n dX13_writesRow_24 1 rfl rfl ?_
        refine wq_bipush dX13_writesRow_25 (by decide) ?_
        refine wq_iload_n dX13_writesRow_27 0 rfl rfl ?_
        refine wq_iadd dX13_writesRow_28 ?_
        refine wq_cVv M_M_writes (R_M_writes Z (97 + x33) _) ob_26 rfl rfl (by decide) (by decide) (Nat.le_of_ble_eq_true rfl) ln_RX13_497 dX13_writesRow_29 (fun gr43 _ J44 => ?_)
        refine wq_goto 55 dX13_writesRow_32 (by decide) ?_
        refine wq_iinc (lv' := [(2, vi (s27 + 1)), (3, vi x33), (0, vr Z 26 0), (1, vi a1)]) dX13_writesRow_55 3 rfl (by decide) rfl ?_
        refine wq_goto 2 dX13_writesRow_58 (by decide) ?_
        exact WQ.loc [2, 3, 0] rfl (bk22 _ _ _)
      · refine wq_aload_n dX13_writesRow_35 1 rfl rfl ?_
        refine wq_bipush dX13_writesRow_36 (by decide) ?_
        refine wq_cVv M_M_writes (R_M_writes Z 40 _) ob_26 rfl rfl (by decide) (by decide) (Nat.le_of_ble_eq_true rfl) ln_RX13_497 dX13_writesRow_38 (fun gr34 _ J35 => ?_)
        refine wq_aload_n dX13_writesRow_41 1 rfl rfl ?_
        refine wq_iload_n dX13_writesRow_42 0 rfl rfl ?_
        refine wq_bipush dX13_writesRow_43 (by decide) ?_
        refine wq_isub dX13_writesRow_45 ?_
        refine wq_cVv M_M_writesNumber (R_M_writesNumber Z (x33 - 26) _) ob_26 rfl rfl (by decide) (by decide) (Nat.le_of_ble_eq_true rfl) ln_RX13_500 dX13_writesRow_46 (fun gr37 _ J38 => ?_)
        refine wq_aload_n dX13_writesRow_49 1 rfl rfl ?_
        refine wq_bipush dX13_writesRow_50 (by decide) ?_
        refine wq_cVv M_M_writes (R_M_writes Z 41 _) ob_26 rfl rfl (by decide) (by decide) (Nat.le_of_ble_eq_true rfl) ln_RX13_497 dX13_writesRow_52 (fun gr40 _ J41 => ?_)
        refine wq_iinc (lv' := [(2, vi (s27 + 1)), (3, vi x33), (0, vr Z 26 0), (1, vi a1)]) dX13_writesRow_55 3 rfl (by decide) rfl ?_
        refine wq_goto 2 dX13_writesRow_58 (by decide) ?_
        exact WQ.loc [2, 3, 0] rfl (bk22 _ _ _)
    · exact WQ.loc [] rfl (ex23 _ _ _)
  · exact wq_vret rfl rfl dX13_writesRow_61

theorem M_M_writesRow : MwV yX13_writesRow cX13_writesRow 4 (none) 1 := ⟨li_9 213 (by decide +kernel) (by decide +kernel), li_9 212 (by decide +kernel) (by decide +kernel), lw_in 133 (by decide +kernel) (by decide +kernel), li_1 16 (by decide +kernel) (by decide +kernel), by decide +kernel⟩
theorem ln_RX13_503 : Cond.methodLink RX13 503 yX13_writesRow ∈ lw_good := li_9 210 (by decide +kernel) (by decide +kernel)
noncomputable def f_M_report_w17  (s : Int) (I : Mem) : Option (((Int) ⊕ (Unit)) × Mem) :=
if (w32 s) < 40 then
bnd (f_M_isHere s I) fun x8 J7 =>
if (w32 x8) = 0 then
some (.inl (s + 1), J7)
else
bnd (f_M_writes 32 J7) fun _ J10 =>
bnd (f_M_writesNumber s J10) fun _ J13 =>
bnd (f_M_writes 61 J13) fun _ J16 =>
bnd (f_M_writesRow (s + 1) J16) fun _ J19 =>
some (.inl (s + 1), J19)
else
some (.inr (), I)

noncomputable def f_M_report  (I : Mem) : Option ((Int) × Mem) :=
ltI (sI I 26 0 7 0) fun J1 =>
ltI (sI J1 26 0 43 0) fun J2 =>
bnd (f_M_writesRow 0 J2) fun _ J4 =>
bnd (whl (f_M_report_w17) 0 J4) fun r47 J48 =>
some ((J48 26 0 43), J48)
set_option maxRecDepth 20000 in
theorem R_M_report (Z : ZT)  (I : Mem) (r : Int) (J : Mem) (hf : f_M_report I = some (r, J)) : Runs Z yX13_report cX13_report 2 (some .int) 4 [vr Z 26 0] I (some (vi r), J) := by
  refine Runs.of (rv := fun x => some (vi x)) (by decide +kernel) (Nat.le_of_ble_eq_true rfl) hf (fun gr => ?_)
  unfold f_M_report
  refine WQ.loc [0] (lv' := [(0, vr Z 26 0)]) rfl ?_
  refine wq_aload_n dX13_report_0 0 rfl rfl ?_
  refine wq_iconst dX13_report_1 ?_
  refine p_26_7 ln_RX13_100 dX13_report_2 (fun J1 => ?_)
  refine wq_aload_n dX13_report_5 0 rfl rfl ?_
  refine wq_iconst dX13_report_6 ?_
  refine p_26_43 ln_RX13_494 dX13_report_7 (fun J2 => ?_)
  refine wq_aload_n dX13_report_10 0 rfl rfl ?_
  refine wq_iconst dX13_report_11 ?_
  refine wq_cVv M_M_writesRow (R_M_writesRow Z 0 _) ob_26 rfl rfl (by decide) (by decide) (Nat.le_of_ble_eq_true rfl) ln_RX13_503 dX13_report_12 (fun gr3 _ J4 => ?_)
  refine wq_iconst dX13_report_15 ?_
  refine wq_istore_n (lv' := [(1, vi 0), (0, vr Z 26 0)]) dX13_report_16 rfl (by decide) rfl ?_
  refine WQ.loc [1, 0] (lv' := [(0, vr Z 26 0), (1, vi 0)]) rfl ?_
  refine wq_loopS (fun s29 => [(0, vr Z 26 0), (1, vi s29)]) 64 (fun _ => [(0, vr Z 26 0)]) (fun κ23 bk24 ex25 gr28 s29 J27 => ?_) (fun gr49 r47 J48 => ?_) gr3 _ rfl
  · unfold f_M_report_w17
    refine wq_iload_n dX13_report_17 1 rfl rfl ?_
    refine wq_bipush dX13_report_18 (by decide) ?_
    refine wq_icmp_ge 64 dX13_report_20 (by decide) rfl rfl (fun c46 => ?_) (fun c46 => ?_)
    · refine wq_aload_n dX13_report_23 0 rfl rfl ?_
      refine wq_iload_n dX13_report_24 1 rfl rfl ?_
      refine wq_cVi M_M_isHere (R_M_isHere Z s29 _) ob_26 rfl rfl (by decide) (by decide) (Nat.le_of_ble_eq_true rfl) ln_RX13_111 dX13_report_25 (fun gr30 x32 J31 => ?_)
      refine wq_if_ne 34 dX13_report_28 (by decide) rfl (fun c45 => ?_) (fun c45 => ?_)
      · refine wq_goto 58 dX13_report_31 (by decide) ?_
        refine wq_iinc (lv' := [(1, vi (s29 + 1)), (0, vr Z 26 0)]) dX13_report_58 1 rfl (by decide) rfl ?_
        refine wq_goto 17 dX13_report_61 (by decide) ?_
        exact WQ.loc [1, 0] rfl (bk24 _ _ _)
      · refine wq_aload_n dX13_report_34 0 rfl rfl ?_
        refine wq_bipush dX13_report_35 (by decide) ?_
        refine wq_cVv M_M_writes (R_M_writes Z 32 _) ob_26 rfl rfl (by decide) (by decide) (Nat.le_of_ble_eq_true rfl) ln_RX13_497 dX13_report_37 (fun gr33 _ J34 => ?_)
        refine wq_aload_n dX13_report_40 0 rfl rfl ?_
        refine wq_iload_n dX13_report_41 1 rfl rfl ?_
        refine wq_cVv M_M_writesNumber (R_M_writesNumber Z s29 _) ob_26 rfl rfl (by decide) (by decide) (Nat.le_of_ble_eq_true rfl) ln_RX13_500 dX13_report_42 (fun gr36 _ J37 => ?_)
        refine wq_aload_n dX13_report_45 0 rfl rfl ?_
        refine wq_bipush dX13_report_46 (by decide) ?_
        refine wq_cVv M_M_writes (R_M_writes Z 61 _) ob_26 rfl rfl (by decide) (by decide) (Nat.le_of_ble_eq_true rfl) ln_RX13_497 dX13_report_48 (fun gr39 _ J40 => ?_)
        refine wq_aload_n dX13_report_51 0 rfl rfl ?_
        refine wq_iload_n dX13_report_52 1 rfl rfl ?_
        refine wq_iconst dX13_report_53 ?_
        refine wq_iadd dX13_report_54 ?_
        refine wq_cVv M_M_writesRow (R_M_writesRow Z (s29 + 1) _) ob_26 rfl rfl (by decide) (by decide) (Nat.le_of_ble_eq_true rfl) ln_RX13_503 dX13_report_55 (fun gr42 _ J43 => ?_)
        refine wq_iinc (lv' := [(1, vi (s29 + 1)), (0, vr Z 26 0)]) dX13_report_58 1 rfl (by decide) rfl ?_
        refine wq_goto 17 dX13_report_61 (by decide) ?_
        exact WQ.loc [1, 0] rfl (bk24 _ _ _)
    · exact WQ.loc [0] rfl (ex25 _ _ _)
  · refine wq_aload_n dX13_report_64 0 rfl rfl ?_
    refine g_26_43 ln_RX13_494 dX13_report_65 ?_
    exact wq_iret rfl rfl dX13_report_68

noncomputable def f_M_reportByte (a1 : Int) (I : Mem) : Option ((Int) × Mem) :=
ltI (sI I 26 0 7 0) fun J1 =>
bnd (f_M_in a1 0 ((J1 26 0 43) - 1) J1) fun x4 J3 =>
if (w32 x4) = 0 then
some ((-1), J3)
else
if 0 ≤ (w32 a1) ∧ (w32 a1) < 70000 then
some ((J3 27 22 (w32 a1).toNat), J3)
else none
set_option maxRecDepth 20000 in
theorem R_M_reportByte (Z : ZT) (a1 : Int) (I : Mem) (r : Int) (J : Mem) (hf : f_M_reportByte a1 I = some (r, J)) : Runs Z yX13_reportByte cX13_reportByte 2 (some .int) 2 [vr Z 26 0, vi a1] I (some (vi r), J) := by
  refine Runs.of (rv := fun x => some (vi x)) (by decide +kernel) (Nat.le_of_ble_eq_true rfl) hf (fun gr => ?_)
  unfold f_M_reportByte
  refine WQ.loc [0, 1] (lv' := [(0, vr Z 26 0), (1, vi a1)]) rfl ?_
  refine wq_aload_n dX13_reportByte_0 0 rfl rfl ?_
  refine wq_iconst dX13_reportByte_1 ?_
  refine p_26_7 ln_RX13_100 dX13_reportByte_2 (fun J1 => ?_)
  refine wq_iload_n dX13_reportByte_5 1 rfl rfl ?_
  refine wq_iconst dX13_reportByte_6 ?_
  refine wq_aload_n dX13_reportByte_7 0 rfl rfl ?_
  refine g_26_43 ln_RX13_494 dX13_reportByte_8 ?_
  refine wq_iconst dX13_reportByte_11 ?_
  refine wq_isub dX13_reportByte_12 ?_
  refine wq_cSi M_M_in (R_M_in Z a1 0 ((J1 26 0 43) - 1) _) rfl rfl rfl (by decide) (by decide) (Nat.le_of_ble_eq_true rfl) ln_RX13_224 dX13_reportByte_13 (fun gr2 x4 J3 => ?_)
  refine wq_if_eq 28 dX13_reportByte_16 (by decide) rfl (fun c6 => ?_) (fun c6 => ?_)
  · refine wq_iconst dX13_reportByte_28 ?_
    exact wq_iret rfl rfl dX13_reportByte_29
  · refine wq_aload_n dX13_reportByte_19 0 rfl rfl ?_
    refine g_26_42 ln_RX13_87 dX13_reportByte_20 ?_
    refine wq_iload_n dX13_reportByte_23 1 rfl rfl ?_
    refine wq_grd (fun g5 => ?_)
    refine wq_iald (k := 27) (i := 22) rfl (by decide) rfl rfl (m := 70000) g5 (Nat.le_of_ble_eq_true rfl) dX13_reportByte_24 ?_
    refine wq_goto 29 dX13_reportByte_25 (by decide) ?_
    exact wq_iret rfl rfl dX13_reportByte_29

noncomputable def f_M_undo  (I : Mem) : Option ((Int) × Mem) :=
ltI (sI I 26 0 7 0) fun J1 =>
bnd (f_M_fails (if (w32 (J1 26 0 6)) = 0 then 1 else 0) 1 J1) fun x4 J3 =>
if (w32 x4) = 0 then
ltI (sI J3 26 0 6 ((J3 26 0 6) - 1)) fun J5 =>
bnd (f_M_lays 3 (16860 * (J5 26 0 6)) 0 0 J5) fun _ J7 =>
some ((J7 26 0 6), J7)
else
some (0, J3)
set_option maxRecDepth 20000 in
theorem R_M_undo (Z : ZT)  (I : Mem) (r : Int) (J : Mem) (hf : f_M_undo I = some (r, J)) : Runs Z yX13_undo cX13_undo 1 (some .int) 2 [vr Z 26 0] I (some (vi r), J) := by
  refine Runs.of (rv := fun x => some (vi x)) (by decide +kernel) (Nat.le_of_ble_eq_true rfl) hf (fun gr => ?_)
  unfold f_M_undo
  refine WQ.loc [0] (lv' := [(0, vr Z 26 0)]) rfl ?_
  refine wq_aload_n dX13_undo_0 0 rfl rfl ?_
  refine wq_iconst dX13_undo_1 ?_
  refine p_26_7 ln_RX13_100 dX13_undo_2 (fun J1 => ?_)
  refine wq_aload_n dX13_undo_5 0 rfl rfl ?_
  refine wq_aload_n dX13_undo_6 0 rfl rfl ?_
  refine g_26_6 ln_RX13_342 dX13_undo_7 ?_
  refine WQ.via 18 [vi (if (w32 (J1 26 0 6)) = 0 then 1 else 0), vr Z 26 0] (by
      refine wq_iconst dX13_undo_18 ?_
      refine wq_cVi M_M_fails (R_M_fails Z (if (w32 (J1 26 0 6)) = 0 then 1 else 0) 1 _) ob_26 rfl rfl (by decide) (by decide) (Nat.le_of_ble_eq_true rfl) ln_RX13_428 dX13_undo_19 (fun gr2 x4 J3 => ?_)
      refine wq_if_eq 27 dX13_undo_22 (by decide) rfl (fun c9 => ?_) (fun c9 => ?_)
      · refine wq_aload_n dX13_undo_27 0 rfl rfl ?_
        refine wq_dup dX13_undo_28 rfl ?_
        refine g_26_6 ln_RX13_342 dX13_undo_29 ?_
        refine wq_iconst dX13_undo_32 ?_
        refine wq_isub dX13_undo_33 ?_
        refine p_26_6 ln_RX13_342 dX13_undo_34 (fun J5 => ?_)
        refine wq_aload_n dX13_undo_37 0 rfl rfl ?_
        refine g_26_3 ln_RX13_20 dX13_undo_38 ?_
        refine wq_sipush dX13_undo_41 (by decide) ?_
        refine wq_aload_n dX13_undo_44 0 rfl rfl ?_
        refine g_26_6 ln_RX13_342 dX13_undo_45 ?_
        refine wq_imul dX13_undo_48 ?_
        refine wq_aload_n dX13_undo_49 0 rfl rfl ?_
        refine g_26_0 ln_RX13_9 dX13_undo_50 ?_
        refine wq_iconst dX13_undo_53 ?_
        refine wq_cSv M_M_lays (R_M_lays Z 3 (16860 * (J5 26 0 6)) 0 0 _) rfl rfl rfl (by decide) (by decide) (Nat.le_of_ble_eq_true rfl) ln_RX13_208 dX13_undo_54 (fun gr6 _ J7 => ?_)
        refine wq_aload_n dX13_undo_57 0 rfl rfl ?_
        refine g_26_6 ln_RX13_342 dX13_undo_58 ?_
        exact wq_iret rfl rfl dX13_undo_61
      · refine wq_iconst dX13_undo_25 ?_
        exact wq_iret rfl rfl dX13_undo_26) (fun hj10 => ?_)
  refine WQ.both ((w32 (J1 26 0 6)) = 0) ?_
  refine wq_if_ne 17 dX13_undo_10 (by decide) rfl (fun c11 => ?_) (fun c11 => ?_)
  · refine wq_iconst dX13_undo_13 ?_
    refine wq_goto 18 dX13_undo_14 (by decide) ?_
    exact WQ.top (if_pos c11) hj10
  · refine wq_iconst dX13_undo_17 ?_
    exact WQ.top (if_neg c11) hj10

noncomputable def f_M_noSlot (a1 : Int) (I : Mem) : Option ((Int) × Mem) :=
bnd (f_M_in a1 0 1 I) fun x3 J2 =>
bnd (f_M_fails (if (w32 x3) = 0 then 1 else 0) 1 J2) fun x6 J5 =>
if x6 = 0 ∨ x6 = 1 then
some (x6, J5)
else none
set_option maxRecDepth 20000 in
theorem R_M_noSlot (Z : ZT) (a1 : Int) (I : Mem) (r : Int) (J : Mem) (hf : f_M_noSlot a1 I = some (r, J)) : Runs Z yX13_noSlot cX13_noSlot 2 (some .boolean) 2 [vr Z 26 0, vi a1] I (some (vi r), J) := by
  refine Runs.of (rv := fun x => some (vi x)) (by decide +kernel) (Nat.le_of_ble_eq_true rfl) hf (fun gr => ?_)
  unfold f_M_noSlot
  refine WQ.loc [0, 1] (lv' := [(0, vr Z 26 0), (1, vi a1)]) rfl ?_
  refine wq_aload_n dX13_noSlot_0 0 rfl rfl ?_
  refine wq_iload_n dX13_noSlot_1 1 rfl rfl ?_
  refine wq_iconst dX13_noSlot_2 ?_
  refine wq_iconst dX13_noSlot_3 ?_
  refine wq_cSi M_M_in (R_M_in Z a1 0 1 _) rfl rfl rfl (by decide) (by decide) (Nat.le_of_ble_eq_true rfl) ln_RX13_224 dX13_noSlot_4 (fun gr1 x3 J2 => ?_)
  refine WQ.via 15 [vi (if (w32 x3) = 0 then 1 else 0), vr Z 26 0] (by
      refine wq_iconst dX13_noSlot_15 ?_
      refine wq_cVi M_M_fails (R_M_fails Z (if (w32 x3) = 0 then 1 else 0) 1 _) ob_26 rfl rfl (by decide) (by decide) (Nat.le_of_ble_eq_true rfl) ln_RX13_428 dX13_noSlot_16 (fun gr4 x6 J5 => ?_)
      refine wq_grd (fun g7 => ?_)
      exact wq_zret rfl g7 rfl dX13_noSlot_19) (fun hj8 => ?_)
  refine WQ.both ((w32 x3) = 0) ?_
  refine wq_if_ne 14 dX13_noSlot_7 (by decide) rfl (fun c9 => ?_) (fun c9 => ?_)
  · refine wq_iconst dX13_noSlot_10 ?_
    refine wq_goto 15 dX13_noSlot_11 (by decide) ?_
    exact WQ.top (if_pos c9) hj8
  · refine wq_iconst dX13_noSlot_14 ?_
    exact WQ.top (if_neg c9) hj8

theorem M_M_noSlot : MwV yX13_noSlot cX13_noSlot 2 (some .boolean) 1 := ⟨li_9 237 (by decide +kernel) (by decide +kernel), li_9 236 (by decide +kernel) (by decide +kernel), lw_in 136 (by decide +kernel) (by decide +kernel), li_1 16 (by decide +kernel) (by decide +kernel), by decide +kernel⟩
theorem ln_RX13_24 : Cond.fieldLink RX13 24 RX13 "kept" "[I" ∈ lw_good := li_7 58 (by decide +kernel) (by decide +kernel)
theorem ln_RX13_506 : Cond.methodLink RX13 506 yX13_noSlot ∈ lw_good := li_9 234 (by decide +kernel) (by decide +kernel)
noncomputable def f_M_save (a1 : Int) (I : Mem) : Option ((Int) × Mem) :=
ltI (sI I 26 0 7 0) fun J1 =>
bnd (f_M_noSlot a1 J1) fun x4 J3 =>
if (w32 x4) = 0 then
bnd (f_M_lays 0 0 4 (16860 * a1) J3) fun _ J6 =>
if 0 ≤ (w32 a1) ∧ (w32 a1) < 2 then
ltI (sI J6 28 0 (w32 a1).toNat 1) fun J9 =>
bnd (f_M_sizeNow J9) fun x12 J11 =>
some (x12, J11)
else none
else
some (0, J3)
set_option maxRecDepth 20000 in
theorem R_M_save (Z : ZT) (a1 : Int) (I : Mem) (r : Int) (J : Mem) (hf : f_M_save a1 I = some (r, J)) : Runs Z yX13_save cX13_save 2 (some .int) 3 [vr Z 26 0, vi a1] I (some (vi r), J) := by
  refine Runs.of (rv := fun x => some (vi x)) (by decide +kernel) (Nat.le_of_ble_eq_true rfl) hf (fun gr => ?_)
  unfold f_M_save
  refine WQ.loc [0, 1] (lv' := [(0, vr Z 26 0), (1, vi a1)]) rfl ?_
  refine wq_aload_n dX13_save_0 0 rfl rfl ?_
  refine wq_iconst dX13_save_1 ?_
  refine p_26_7 ln_RX13_100 dX13_save_2 (fun J1 => ?_)
  refine wq_aload_n dX13_save_5 0 rfl rfl ?_
  refine wq_iload_n dX13_save_6 1 rfl rfl ?_
  refine wq_cVi M_M_noSlot (R_M_noSlot Z a1 _) ob_26 rfl rfl (by decide) (by decide) (Nat.le_of_ble_eq_true rfl) ln_RX13_506 dX13_save_7 (fun gr2 x4 J3 => ?_)
  refine wq_if_eq 15 dX13_save_10 (by decide) rfl (fun c13 => ?_) (fun c13 => ?_)
  · refine wq_aload_n dX13_save_15 0 rfl rfl ?_
    refine g_26_0 ln_RX13_9 dX13_save_16 ?_
    refine wq_iconst dX13_save_19 ?_
    refine wq_aload_n dX13_save_20 0 rfl rfl ?_
    refine g_26_4 ln_RX13_24 dX13_save_21 ?_
    refine wq_sipush dX13_save_24 (by decide) ?_
    refine wq_iload_n dX13_save_27 1 rfl rfl ?_
    refine wq_imul dX13_save_28 ?_
    refine wq_cSv M_M_lays (R_M_lays Z 0 0 4 (16860 * a1) _) rfl rfl rfl (by decide) (by decide) (Nat.le_of_ble_eq_true rfl) ln_RX13_208 dX13_save_29 (fun gr5 _ J6 => ?_)
    refine wq_aload_n dX13_save_32 0 rfl rfl ?_
    refine g_26_5 ln_RX13_27 dX13_save_33 ?_
    refine wq_iload_n dX13_save_36 1 rfl rfl ?_
    refine wq_iconst dX13_save_37 ?_
    refine wq_grd (fun g8 => ?_)
    refine wq_zast (k := 28) (i := 0) (fun _ => rfl) (by decide) rfl rfl (m := 2) g8 (Nat.le_refl _) rfl (by decide) (by decide) (by decide) dX13_save_38 (fun J9 => ?_)
    refine wq_aload_n dX13_save_39 0 rfl rfl ?_
    refine wq_cVi M_M_sizeNow (R_M_sizeNow Z _) ob_26 rfl rfl (by decide) (by decide) (Nat.le_of_ble_eq_true rfl) ln_RX13_431 dX13_save_40 (fun gr10 x12 J11 => ?_)
    exact wq_iret rfl rfl dX13_save_43
  · refine wq_iconst dX13_save_13 ?_
    exact wq_iret rfl rfl dX13_save_14

noncomputable def f_M_restore (a1 : Int) (I : Mem) : Option ((Int) × Mem) :=
ltI (sI I 26 0 7 0) fun J1 =>
bnd (f_M_noSlot a1 J1) fun x4 J3 =>
if (w32 x4) = 0 then
if 0 ≤ (w32 a1) ∧ (w32 a1) < 2 then
bnd (f_M_fails (if (w32 (J3 28 0 (w32 a1).toNat)) = 0 then 1 else 0) 2 J3) fun x8 J7 =>
if (w32 x8) = 0 then
bnd (f_M_lays 4 (16860 * a1) 0 0 J7) fun _ J10 =>
ltI (sI J10 26 0 6 0) fun J12 =>
bnd (f_M_sizeNow J12) fun x15 J14 =>
some (x15, J14)
else
some (0, J7)
else none
else
some (0, J3)
set_option maxRecDepth 20000 in
theorem R_M_restore (Z : ZT) (a1 : Int) (I : Mem) (r : Int) (J : Mem) (hf : f_M_restore a1 I = some (r, J)) : Runs Z yX13_restore cX13_restore 2 (some .int) 3 [vr Z 26 0, vi a1] I (some (vi r), J) := by
  refine Runs.of (rv := fun x => some (vi x)) (by decide +kernel) (Nat.le_of_ble_eq_true rfl) hf (fun gr => ?_)
  unfold f_M_restore
  refine WQ.loc [0, 1] (lv' := [(0, vr Z 26 0), (1, vi a1)]) rfl ?_
  refine wq_aload_n dX13_restore_0 0 rfl rfl ?_
  refine wq_iconst dX13_restore_1 ?_
  refine p_26_7 ln_RX13_100 dX13_restore_2 (fun J1 => ?_)
  refine wq_aload_n dX13_restore_5 0 rfl rfl ?_
  refine wq_iload_n dX13_restore_6 1 rfl rfl ?_
  refine wq_cVi M_M_noSlot (R_M_noSlot Z a1 _) ob_26 rfl rfl (by decide) (by decide) (Nat.le_of_ble_eq_true rfl) ln_RX13_506 dX13_restore_7 (fun gr2 x4 J3 => ?_)
  refine wq_if_ne 35 dX13_restore_10 (by decide) rfl (fun c19 => ?_) (fun c19 => ?_)
  · refine wq_aload_n dX13_restore_13 0 rfl rfl ?_
    refine wq_aload_n dX13_restore_14 0 rfl rfl ?_
    refine g_26_5 ln_RX13_27 dX13_restore_15 ?_
    refine wq_iload_n dX13_restore_18 1 rfl rfl ?_
    refine wq_grd (fun g5 => ?_)
    refine wq_zald (k := 28) (i := 0) rfl (by decide) rfl rfl (m := 2) g5 (Nat.le_refl _) dX13_restore_19 ?_
    refine WQ.via 28 [vi (if (w32 (J3 28 0 (w32 a1).toNat)) = 0 then 1 else 0), vr Z 26 0] (by
        refine wq_iconst dX13_restore_28 ?_
        refine wq_cVi M_M_fails (R_M_fails Z (if (w32 (J3 28 0 (w32 a1).toNat)) = 0 then 1 else 0) 2 _) ob_26 rfl rfl (by decide) (by decide) (Nat.le_of_ble_eq_true rfl) ln_RX13_428 dX13_restore_29 (fun gr6 x8 J7 => ?_)
        refine wq_if_eq 37 dX13_restore_32 (by decide) rfl (fun c16 => ?_) (fun c16 => ?_)
        · refine wq_aload_n dX13_restore_37 0 rfl rfl ?_
          refine g_26_4 ln_RX13_24 dX13_restore_38 ?_
          refine wq_sipush dX13_restore_41 (by decide) ?_
          refine wq_iload_n dX13_restore_44 1 rfl rfl ?_
          refine wq_imul dX13_restore_45 ?_
          refine wq_aload_n dX13_restore_46 0 rfl rfl ?_
          refine g_26_0 ln_RX13_9 dX13_restore_47 ?_
          refine wq_iconst dX13_restore_50 ?_
          refine wq_cSv M_M_lays (R_M_lays Z 4 (16860 * a1) 0 0 _) rfl rfl rfl (by decide) (by decide) (Nat.le_of_ble_eq_true rfl) ln_RX13_208 dX13_restore_51 (fun gr9 _ J10 => ?_)
          refine wq_aload_n dX13_restore_54 0 rfl rfl ?_
          refine wq_iconst dX13_restore_55 ?_
          refine p_26_6 ln_RX13_342 dX13_restore_56 (fun J12 => ?_)
          refine wq_aload_n dX13_restore_59 0 rfl rfl ?_
          refine wq_cVi M_M_sizeNow (R_M_sizeNow Z _) ob_26 rfl rfl (by decide) (by decide) (Nat.le_of_ble_eq_true rfl) ln_RX13_431 dX13_restore_60 (fun gr13 x15 J14 => ?_)
          exact wq_iret rfl rfl dX13_restore_63
        · refine wq_iconst dX13_restore_35 ?_
          exact wq_iret rfl rfl dX13_restore_36) (fun hj17 => ?_)
    refine WQ.both ((w32 (J3 28 0 (w32 a1).toNat)) = 0) ?_
    refine wq_if_ne 27 dX13_restore_20 (by decide) rfl (fun c18 => ?_) (fun c18 => ?_)
    · refine wq_iconst dX13_restore_23 ?_
      refine wq_goto 28 dX13_restore_24 (by decide) ?_
      exact WQ.top (if_pos c18) hj17
    · refine wq_iconst dX13_restore_27 ?_
      exact WQ.top (if_neg c18) hj17
  · refine wq_iconst dX13_restore_35 ?_
    exact wq_iret rfl rfl dX13_restore_36

noncomputable def f_M_appendsWord_w5 (v1 : Int) (v2 : Int) (s : Int × Int) (I : Mem) : Option (((Int × Int) ⊕ (Int)) × Mem) :=
if (w32 s.2) < (w32 v2) then
if (w32 s.1) < 0 then
some (.inr s.1, I)
else
if 0 ≤ (w32 (v1 + s.2)) ∧ (w32 (v1 + s.2)) < 600 then
bnd (f_M_appendNow ((I 27 14 (w32 (v1 + s.2)).toNat) - 97) I) fun x4 J3 =>
some (.inl (x4, (s.2 + 1)), J3)
else none
else
some (.inr s.1, I)

noncomputable def f_M_appendsWord (a1 : Int) (a2 : Int) (I : Mem) : Option ((Int) × Mem) :=
bnd (whl (f_M_appendsWord_w5 a1 a2) (0, 0) I) fun r20 J21 =>
some (r20, J21)
set_option maxRecDepth 20000 in
theorem R_M_appendsWord (Z : ZT) (a1 : Int) (a2 : Int) (I : Mem) (r : Int) (J : Mem) (hf : f_M_appendsWord a1 a2 I = some (r, J)) : Runs Z yX13_appendsWord cX13_appendsWord 5 (some .int) 4 [vr Z 26 0, vi a1, vi a2] I (some (vi r), J) := by
  refine Runs.of (rv := fun x => some (vi x)) (by decide +kernel) (Nat.le_of_ble_eq_true rfl) hf (fun gr => ?_)
  unfold f_M_appendsWord
  refine WQ.loc [0, 1, 2] (lv' := [(0, vr Z 26 0), (1, vi a1), (2, vi a2)]) rfl ?_
  refine wq_iconst dX13_appendsWord_0 ?_
  refine wq_istore_n (lv' := [(3, vi 0), (0, vr Z 26 0), (1, vi a1), (2, vi a2)]) dX13_appendsWord_1 rfl (by decide) rfl ?_
  refine wq_iconst dX13_appendsWord_2 ?_
  refine wq_istore (lv' := [(4, vi 0), (3, vi 0), (0, vr Z 26 0), (1, vi a1), (2, vi a2)]) dX13_appendsWord_3 (by decide) rfl ?_
  refine WQ.loc [2, 3, 4, 1, 0] (lv' := [(0, vr Z 26 0), (1, vi a1), (2, vi a2), (3, vi 0), (4, vi 0)]) rfl ?_
  refine wq_loopS (fun s13 => [(0, vr Z 26 0), (1, vi a1), (2, vi a2), (3, vi s13.1), (4, vi s13.2)]) 38 (fun r20 => [(3, vi r20)]) (fun κ7 bk8 ex9 gr12 s13 J11 => ?_) (fun gr22 r20 J21 => ?_) gr _ rfl
  · unfold f_M_appendsWord_w5
    refine wq_iload dX13_appendsWord_5 4 rfl ?_
    refine wq_iload_n dX13_appendsWord_7 2 rfl rfl ?_
    refine wq_icmp_ge 38 dX13_appendsWord_8 (by decide) rfl rfl (fun c19 => ?_) (fun c19 => ?_)
    · refine wq_iload_n dX13_appendsWord_11 3 rfl rfl ?_
      refine wq_if_lt 38 dX13_appendsWord_12 (by decide) rfl (fun c18 => ?_) (fun c18 => ?_)
      · exact WQ.loc [3] rfl (ex9 _ _ _)
      · refine wq_aload_n dX13_appendsWord_15 0 rfl rfl ?_
        refine wq_aload_n dX13_appendsWord_16 0 rfl rfl ?_
        refine g_26_19 ln_RX13_58 dX13_appendsWord_17 ?_
        refine wq_iload_n dX13_appendsWord_20 1 rfl rfl ?_
        refine wq_iload dX13_appendsWord_21 4 rfl ?_
        refine wq_iadd dX13_appendsWord_23 ?_
        refine wq_grd (fun g14 => ?_)
        refine wq_iald (k := 27) (i := 14) rfl (by decide) rfl rfl (m := 600) g14 (Nat.le_of_ble_eq_true rfl) dX13_appendsWord_24 ?_
        refine wq_bipush dX13_appendsWord_25 (by decide) ?_
        refine wq_isub dX13_appendsWord_27 ?_
        refine wq_cVi M_M_appendNow (R_M_appendNow Z ((J11 27 14 (w32 (a1 + s13.2)).toNat) - 97) _) ob_26 rfl rfl (by decide) (by decide) (Nat.le_of_ble_eq_true rfl) ln_RX13_388 dX13_appendsWord_28 (fun gr15 x17 J16 => ?_)
        refine wq_istore_n (lv' := [(3, vi x17), (0, vr Z 26 0), (1, vi a1), (2, vi a2), (4, vi s13.2)]) dX13_appendsWord_31 rfl (by decide) rfl ?_
        refine wq_iinc (lv' := [(4, vi (s13.2 + 1)), (3, vi x17), (0, vr Z 26 0), (1, vi a1), (2, vi a2)]) dX13_appendsWord_32 4 rfl (by decide) rfl ?_
        refine wq_goto 5 dX13_appendsWord_35 (by decide) ?_
        exact WQ.loc [2, 3, 4, 1, 0] rfl (bk8 _ _ _)
    · exact WQ.loc [3] rfl (ex9 _ _ _)
  · refine wq_iload_n dX13_appendsWord_38 0 rfl rfl ?_
    exact wq_iret rfl rfl dX13_appendsWord_39

theorem M_M_appendsWord : MwV yX13_appendsWord cX13_appendsWord 5 (some .int) 2 := ⟨li_8 223 (by decide +kernel) (by decide +kernel), li_8 222 (by decide +kernel) (by decide +kernel), lw_in 110 (by decide +kernel) (by decide +kernel), li_1 16 (by decide +kernel) (by decide +kernel), by decide +kernel⟩
theorem ln_RX13_400 : Cond.methodLink RX13 400 yX13_appendsWord ∈ lw_good := li_8 220 (by decide +kernel) (by decide +kernel)
noncomputable def f_M_does (a1 : Int) (I : Mem) : Option ((Int) × Mem) :=
if 0 ≤ (w32 a1) ∧ (w32 a1) < 64 then
if (w32 (I 27 15 (w32 a1).toNat)) = 10 then
bnd (f_M_stepsMany (I 27 16 (w32 a1).toNat) I) fun x4 J3 =>
some (x4, J3)
else if (w32 (I 27 15 (w32 a1).toNat)) = 11 then
bnd (f_M_inlines I) fun x8 J7 =>
some (x8, J7)
else if (w32 (I 27 15 (w32 a1).toNat)) = 12 then
if 0 ≤ (w32 (I 27 16 (w32 a1).toNat)) ∧ (w32 (I 27 16 (w32 a1).toNat)) < 600 then
if 0 ≤ (w32 ((I 27 16 (w32 a1).toNat) + 1)) ∧ (w32 ((I 27 16 (w32 a1).toNat) + 1)) < 600 then
bnd (f_M_makeNow ((I 27 14 (w32 (I 27 16 (w32 a1).toNat)).toNat) - 97) ((I 27 14 (w32 ((I 27 16 (w32 a1).toNat) + 1)).toNat) - 97) I) fun x14 J13 =>
some (x14, J13)
else none
else none
else if (w32 (I 27 15 (w32 a1).toNat)) = 13 then
bnd (f_M_expandNow (I 27 16 (w32 a1).toNat) I) fun x18 J17 =>
some (x18, J17)
else if (w32 (I 27 15 (w32 a1).toNat)) = 14 then
bnd (f_M_appendsWord (I 27 16 (w32 a1).toNat) (I 27 17 (w32 a1).toNat) I) fun x22 J21 =>
some (x22, J21)
else if (w32 (I 27 15 (w32 a1).toNat)) = 15 then
bnd (f_M_cutNow (I 27 16 (w32 a1).toNat) I) fun x26 J25 =>
some (x26, J25)
else bnd (f_M_setNow (I 27 15 (w32 a1).toNat) (I 27 16 (w32 a1).toNat) I) fun x30 J29 =>
some (x30, J29)
else none
set_option maxRecDepth 20000 in
theorem R_M_does (Z : ZT) (a1 : Int) (I : Mem) (r : Int) (J : Mem) (hf : f_M_does a1 I = some (r, J)) : Runs Z yX13_does cX13_does 3 (some .int) 8 [vr Z 26 0, vi a1] I (some (vi r), J) := by
  refine Runs.of (rv := fun x => some (vi x)) (by decide +kernel) (Nat.le_of_ble_eq_true rfl) hf (fun gr => ?_)
  unfold f_M_does
  refine WQ.loc [0, 1] (lv' := [(0, vr Z 26 0), (1, vi a1)]) rfl ?_
  refine wq_aload_n dX13_does_0 0 rfl rfl ?_
  refine g_26_33 ln_RX13_68 dX13_does_1 ?_
  refine wq_iload_n dX13_does_4 1 rfl rfl ?_
  refine wq_grd (fun g1 => ?_)
  refine wq_iald (k := 27) (i := 16) rfl (by decide) rfl rfl (m := 64) g1 (Nat.le_of_ble_eq_true rfl) dX13_does_5 ?_
  refine wq_istore_n (lv' := [(2, vi (I 27 16 (w32 a1).toNat)), (0, vr Z 26 0), (1, vi a1)]) dX13_does_6 rfl (by decide) rfl ?_
  refine wq_aload_n dX13_does_7 1 rfl rfl ?_
  refine g_26_32 ln_RX13_65 dX13_does_8 ?_
  refine wq_iload_n dX13_does_11 2 rfl rfl ?_
  refine wq_iald (k := 27) (i := 15) rfl (by decide) rfl rfl (m := 64) g1 (Nat.le_of_ble_eq_true rfl) dX13_does_12 ?_
  refine WQ.split (fun c5 => ?_) (fun c5 => ?_)
  · refine wq_tin (n := 10) 52 dX13_does_13 rfl c5 (by decide) (by decide) rfl (by decide) ?_
    refine wq_aload_n dX13_does_52 1 rfl rfl ?_
    refine wq_iload_n dX13_does_53 0 rfl rfl ?_
    refine wq_cVi M_M_stepsMany (R_M_stepsMany Z (I 27 16 (w32 a1).toNat) _) ob_26 rfl rfl (by decide) (by decide) (Nat.le_of_ble_eq_true rfl) ln_RX13_391 dX13_does_54 (fun gr2 x4 J3 => ?_)
    exact wq_iret rfl rfl dX13_does_57
  · skip
    refine WQ.split (fun c9 => ?_) (fun c9 => ?_)
    · refine wq_tin (n := 11) 58 dX13_does_13 rfl c9 (by decide) (by decide) rfl (by decide) ?_
      refine wq_aload_n dX13_does_58 1 rfl rfl ?_
      refine wq_cVi M_M_inlines (R_M_inlines Z _) ob_26 rfl rfl (by decide) (by decide) (Nat.le_of_ble_eq_true rfl) ln_RX13_201 dX13_does_59 (fun gr6 x8 J7 => ?_)
      exact wq_iret rfl rfl dX13_does_62
    · skip
      refine WQ.split (fun c15 => ?_) (fun c15 => ?_)
      · refine wq_tin (n := 12) 63 dX13_does_13 rfl c15 (by decide) (by decide) rfl (by decide) ?_
        refine wq_aload_n dX13_does_63 1 rfl rfl ?_
        refine wq_aload_n dX13_does_64 1 rfl rfl ?_
        refine g_26_19 ln_RX13_58 dX13_does_65 ?_
        refine wq_iload_n dX13_does_68 0 rfl rfl ?_
        refine wq_grd (fun g10 => ?_)
        refine wq_iald (k := 27) (i := 14) rfl (by decide) rfl rfl (m := 600) g10 (Nat.le_of_ble_eq_true rfl) dX13_does_69 ?_
        refine wq_bipush dX13_does_70 (by decide) ?_
        refine wq_isub dX13_does_72 ?_
        refine wq_aload_n dX13_does_73 1 rfl rfl ?_
        refine g_26_19 ln_RX13_58 dX13_does_74 ?_
        refine wq_iload_n dX13_does_77 0 rfl rfl ?_
        refine wq_iconst dX13_does_78 ?_
        refine wq_iadd dX13_does_79 ?_
        refine wq_grd (fun g11 => ?_)
        refine wq_iald (k := 27) (i := 14) rfl (by decide) rfl rfl (m := 600) g11 (Nat.le_of_ble_eq_true rfl) dX13_does_80 ?_
        refine wq_bipush dX13_does_81 (by decide) ?_
        refine wq_isub dX13_does_83 ?_
        refine wq_cVi M_M_makeNow (R_M_makeNow Z ((I 27 14 (w32 (I 27 16 (w32 a1).toNat)).toNat) - 97) ((I 27 14 (w32 ((I 27 16 (w32 a1).toNat) + 1)).toNat) - 97) _) ob_26 rfl rfl (by decide) (by decide) (Nat.le_of_ble_eq_true rfl) ln_RX13_394 dX13_does_84 (fun gr12 x14 J13 => ?_)
        exact wq_iret rfl rfl dX13_does_87
      · skip
        refine WQ.split (fun c19 => ?_) (fun c19 => ?_)
        · refine wq_tin (n := 13) 88 dX13_does_13 rfl c19 (by decide) (by decide) rfl (by decide) ?_
          refine wq_aload_n dX13_does_88 1 rfl rfl ?_
          refine wq_iload_n dX13_does_89 0 rfl rfl ?_
          refine wq_cVi M_M_expandNow (R_M_expandNow Z (I 27 16 (w32 a1).toNat) _) ob_26 rfl rfl (by decide) (by decide) (Nat.le_of_ble_eq_true rfl) ln_RX13_397 dX13_does_90 (fun gr16 x18 J17 => ?_)
          exact wq_iret rfl rfl dX13_does_93
        · skip
          refine WQ.split (fun c23 => ?_) (fun c23 => ?_)
          · refine wq_tin (n := 14) 94 dX13_does_13 rfl c23 (by decide) (by decide) rfl (by decide) ?_
            refine wq_aload_n dX13_does_94 1 rfl rfl ?_
            refine wq_iload_n dX13_does_95 0 rfl rfl ?_
            refine wq_aload_n dX13_does_96 1 rfl rfl ?_
            refine g_26_34 ln_RX13_71 dX13_does_97 ?_
            refine wq_iload_n dX13_does_100 2 rfl rfl ?_
            refine wq_iald (k := 27) (i := 17) rfl (by decide) rfl rfl (m := 64) g1 (Nat.le_of_ble_eq_true rfl) dX13_does_101 ?_
            refine wq_cVi M_M_appendsWord (R_M_appendsWord Z (I 27 16 (w32 a1).toNat) (I 27 17 (w32 a1).toNat) _) ob_26 rfl rfl (by decide) (by decide) (Nat.le_of_ble_eq_true rfl) ln_RX13_400 dX13_does_102 (fun gr20 x22 J21 => ?_)
            exact wq_iret rfl rfl dX13_does_105
          · skip
            refine WQ.split (fun c27 => ?_) (fun c27 => ?_)
            · refine wq_tin (n := 15) 106 dX13_does_13 rfl c27 (by decide) (by decide) rfl (by decide) ?_
              refine wq_aload_n dX13_does_106 1 rfl rfl ?_
              refine wq_iload_n dX13_does_107 0 rfl rfl ?_
              refine wq_cVi M_M_cutNow (R_M_cutNow Z (I 27 16 (w32 a1).toNat) _) ob_26 rfl rfl (by decide) (by decide) (Nat.le_of_ble_eq_true rfl) ln_RX13_403 dX13_does_108 (fun gr24 x26 J25 => ?_)
              exact wq_iret rfl rfl dX13_does_111
            · skip
              refine wq_tout 112 dX13_does_13 rfl (by omega) (by decide) ?_
              refine wq_aload_n dX13_does_112 1 rfl rfl ?_
              refine wq_aload_n dX13_does_113 1 rfl rfl ?_
              refine g_26_32 ln_RX13_65 dX13_does_114 ?_
              refine wq_iload_n dX13_does_117 2 rfl rfl ?_
              refine wq_iald (k := 27) (i := 15) rfl (by decide) rfl rfl (m := 64) g1 (Nat.le_of_ble_eq_true rfl) dX13_does_118 ?_
              refine wq_iload_n dX13_does_119 0 rfl rfl ?_
              refine wq_cVi M_M_setNow (R_M_setNow Z (I 27 15 (w32 a1).toNat) (I 27 16 (w32 a1).toNat) _) ob_26 rfl rfl (by decide) (by decide) (Nat.le_of_ble_eq_true rfl) ln_RX13_406 dX13_does_120 (fun gr28 x30 J29 => ?_)
              exact wq_iret rfl rfl dX13_does_123

theorem M_M_does : MwV yX13_does cX13_does 3 (some .int) 1 := ⟨li_8 128 (by decide +kernel) (by decide +kernel), li_8 127 (by decide +kernel) (by decide +kernel), lw_in 87 (by decide +kernel) (by decide +kernel), li_1 16 (by decide +kernel) (by decide +kernel), by decide +kernel⟩
theorem ln_RX13_409 : Cond.methodLink RX13 409 yX13_does ∈ lw_good := li_8 125 (by decide +kernel) (by decide +kernel)
theorem ln_RX13_80 : Cond.fieldLink RX13 80 RX13 "left" "[I" ∈ lw_good := li_7 91 (by decide +kernel) (by decide +kernel)
noncomputable def f_M_plays_j50 (v1 : Int) (v2 : Int) (v3 : Int)   (I : Mem) : Option (((Int × Int × Int) ⊕ (Int)) × Mem) :=
if 0 ≤ (w32 v3) ∧ (w32 v3) < 64 then
if (w32 (I 27 15 (w32 v3).toNat)) = 16 then
if 0 ≤ (w32 v2) ∧ (w32 v2) < 2 then
ltI (sI I 27 19 (w32 v2).toNat v3) fun J15 =>
ltI (sI J15 27 20 (w32 v2).toNat (J15 27 16 (w32 v3).toNat)) fun J16 =>
some (.inl (v1, (v2 + 1), (v3 + 1)), J16)
else none
else
if (w32 (I 27 15 (w32 v3).toNat)) = 17 then
if 0 ≤ (w32 (v2 - 1)) ∧ (w32 (v2 - 1)) < 2 then
ltI (sI I 27 20 (w32 (v2 - 1)).toNat ((I 27 20 (w32 (v2 - 1)).toNat) - 1)) fun J11 =>
if 0 < (w32 (J11 27 20 (w32 (v2 - 1)).toNat)) then
some (.inl (v1, v2, ((J11 27 19 (w32 (v2 - 1)).toNat) + 1)), J11)
else
some (.inl (v1, (v2 + (-1)), (v3 + 1)), J11)
else none
else
bnd (f_M_does v3 I) fun x8 J7 =>
if (w32 x8) < 0 then
some (.inr (v1), J7)
else
some (.inl ((v1 + 1), v2, (v3 + 1)), J7)
else none

noncomputable def f_M_plays_w6  (s : Int × Int × Int) (I : Mem) : Option (((Int × Int × Int) ⊕ (Int)) × Mem) :=
if (w32 s.2.2) < (w32 (I 26 0 38)) then
if (w32 s.1) < 40 then
if 0 ≤ (w32 s.2.2) ∧ (w32 s.2.2) < 64 then
if (w32 (I 27 15 (w32 s.2.2).toNat)) = 16 then
if (w32 (I 27 16 (w32 s.2.2).toNat)) = 0 then
some (.inl (s.1, s.2.1, ((I 27 18 (w32 s.2.2).toNat) + 1)), I)
else
f_M_plays_j50 s.1 s.2.1 s.2.2 I
else
f_M_plays_j50 s.1 s.2.1 s.2.2 I
else none
else
some (.inr (s.1), I)
else
some (.inr (s.1), I)

noncomputable def f_M_plays  (I : Mem) : Option ((Int) × Mem) :=
whl (f_M_plays_w6) (0, 0, 0) I
set_option maxRecDepth 20000 in
theorem R_M_plays (Z : ZT)  (I : Mem) (r : Int) (J : Mem) (hf : f_M_plays I = some (r, J)) : Runs Z yX13_plays cX13_plays 4 (some .int) 9 [vr Z 26 0] I (some (vi r), J) := by
  refine Runs.of (rv := fun x => some (vi x)) (by decide +kernel) (Nat.le_of_ble_eq_true rfl) hf (fun gr => ?_)
  unfold f_M_plays
  refine WQ.loc [0] (lv' := [(0, vr Z 26 0)]) rfl ?_
  refine wq_iconst dX13_plays_0 ?_
  refine wq_istore_n (lv' := [(1, vi 0), (0, vr Z 26 0)]) dX13_plays_1 rfl (by decide) rfl ?_
  refine wq_iconst dX13_plays_2 ?_
  refine wq_istore_n (lv' := [(2, vi 0), (1, vi 0), (0, vr Z 26 0)]) dX13_plays_3 rfl (by decide) rfl ?_
  refine wq_iconst dX13_plays_4 ?_
  refine wq_istore_n (lv' := [(3, vi 0), (2, vi 0), (1, vi 0), (0, vr Z 26 0)]) dX13_plays_5 rfl (by decide) rfl ?_
  refine WQ.loc [3, 2, 1, 0] (lv' := [(0, vr Z 26 0), (1, vi 0), (2, vi 0), (3, vi 0)]) rfl ?_
  refine wq_loop (fun s41 => [(0, vr Z 26 0), (1, vi s41.1), (2, vi s41.2.1), (3, vi s41.2.2)]) (fun κ35 bk36 hr38 gr40 s41 J39 => ?_) gr _ rfl
  unfold f_M_plays_w6
  refine wq_iload_n dX13_plays_6 3 rfl rfl ?_
  refine wq_aload_n dX13_plays_7 0 rfl rfl ?_
  refine g_26_38 ln_RX13_361 dX13_plays_8 ?_
  refine wq_icmp_ge 157 dX13_plays_11 (by decide) rfl rfl (fun c62 => ?_) (fun c62 => ?_)
  · refine wq_iload_n dX13_plays_14 1 rfl rfl ?_
    refine wq_bipush dX13_plays_15 (by decide) ?_
    refine wq_icmp_ge 157 dX13_plays_17 (by decide) rfl rfl (fun c61 => ?_) (fun c61 => ?_)
    · refine wq_aload_n dX13_plays_20 0 rfl rfl ?_
      refine g_26_32 ln_RX13_65 dX13_plays_21 ?_
      refine wq_iload_n dX13_plays_24 3 rfl rfl ?_
      refine wq_grd (fun g42 => ?_)
      refine wq_iald (k := 27) (i := 15) rfl (by decide) rfl rfl (m := 64) g42 (Nat.le_of_ble_eq_true rfl) dX13_plays_25 ?_
      refine wq_bipush dX13_plays_26 (by decide) ?_
      have hj43 : ∀ (gr47 : Nat → Nat)   (J46 : Mem), WQ Z (yX13_plays, cX13_plays, 4, some .int, 9) I gr47 50 [(0, vr Z 26 0), (1, vi s41.1), (2, vi s41.2.1), (3, vi s41.2.2)] [] J46 (f_M_plays_j50 s41.1 s41.2.1 s41.2.2 J46) κ35 := by
        intro gr47 J46
        unfold f_M_plays_j50
        refine wq_aload_n dX13_plays_50 0 rfl rfl ?_
        refine g_26_32 ln_RX13_65 dX13_plays_51 ?_
        refine wq_iload_n dX13_plays_54 3 rfl rfl ?_
        refine wq_grd (fun g48 => ?_)
        refine wq_iald (k := 27) (i := 15) rfl (by decide) rfl rfl (m := 64) g48 (Nat.le_of_ble_eq_true rfl) dX13_plays_55 ?_
        refine wq_bipush dX13_plays_56 (by decide) ?_
        refine wq_icmp_ne 86 dX13_plays_58 (by decide) rfl rfl (fun c60 => ?_) (fun c60 => ?_)
        · refine wq_aload_n dX13_plays_61 0 rfl rfl ?_
          refine g_26_36 ln_RX13_77 dX13_plays_62 ?_
          refine wq_iload_n dX13_plays_65 2 rfl rfl ?_
          refine wq_iload_n dX13_plays_66 3 rfl rfl ?_
          refine wq_grd (fun g57 => ?_)
          refine wq_iast (k := 27) (i := 19) (fun _ _ => rfl) (by decide) rfl rfl (m := 2) g57 (Nat.le_of_ble_eq_true rfl) (by decide) (by decide) (by decide) dX13_plays_67 (fun J58 => ?_)
          refine wq_aload_n dX13_plays_68 0 rfl rfl ?_
          refine g_26_37 ln_RX13_80 dX13_plays_69 ?_
          refine wq_iload_n dX13_plays_72 2 rfl rfl ?_
          refine wq_aload_n dX13_plays_73 0 rfl rfl ?_
          refine g_26_33 ln_RX13_68 dX13_plays_74 ?_
          refine wq_iload_n dX13_plays_77 3 rfl rfl ?_
          refine wq_iald (k := 27) (i := 16) rfl (by decide) rfl rfl (m := 64) g48 (Nat.le_of_ble_eq_true rfl) dX13_plays_78 ?_
          refine wq_iast (k := 27) (i := 20) (fun _ _ => rfl) (by decide) rfl rfl (m := 2) g57 (Nat.le_of_ble_eq_true rfl) (by decide) (by decide) (by decide) dX13_plays_79 (fun J59 => ?_)
          refine wq_iinc (lv' := [(2, vi (s41.2.1 + 1)), (0, vr Z 26 0), (1, vi s41.1), (3, vi s41.2.2)]) dX13_plays_80 2 rfl (by decide) rfl ?_
          refine wq_goto 151 dX13_plays_83 (by decide) ?_
          refine wq_iinc (lv' := [(3, vi (s41.2.2 + 1)), (2, vi (s41.2.1 + 1)), (0, vr Z 26 0), (1, vi s41.1)]) dX13_plays_151 3 rfl (by decide) rfl ?_
          refine wq_goto 6 dX13_plays_154 (by decide) ?_
          exact WQ.loc [2, 3, 1, 0] rfl (bk36 _ _ _)
        · refine wq_aload_n dX13_plays_86 0 rfl rfl ?_
          refine g_26_32 ln_RX13_65 dX13_plays_87 ?_
          refine wq_iload_n dX13_plays_90 3 rfl rfl ?_
          refine wq_iald (k := 27) (i := 15) rfl (by decide) rfl rfl (m := 64) g48 (Nat.le_of_ble_eq_true rfl) dX13_plays_91 ?_
          refine wq_bipush dX13_plays_92 (by decide) ?_
          refine wq_icmp_ne 138 dX13_plays_94 (by decide) rfl rfl (fun c56 => ?_) (fun c56 => ?_)
          · refine wq_aload_n dX13_plays_97 0 rfl rfl ?_
            refine g_26_37 ln_RX13_80 dX13_plays_98 ?_
            refine wq_iload_n dX13_plays_101 2 rfl rfl ?_
            refine wq_iconst dX13_plays_102 ?_
            refine wq_isub dX13_plays_103 ?_
            refine wq_dup2 dX13_plays_104 rfl rfl ?_
            refine wq_grd (fun g53 => ?_)
            refine wq_iald (k := 27) (i := 20) rfl (by decide) rfl rfl (m := 2) g53 (Nat.le_of_ble_eq_true rfl) dX13_plays_105 ?_
            refine wq_iconst dX13_plays_106 ?_
            refine wq_isub dX13_plays_107 ?_
            refine wq_iast (k := 27) (i := 20) (fun _ _ => rfl) (by decide) rfl rfl (m := 2) g53 (Nat.le_of_ble_eq_true rfl) (by decide) (by decide) (by decide) dX13_plays_108 (fun J54 => ?_)
            refine wq_aload_n dX13_plays_109 0 rfl rfl ?_
            refine g_26_37 ln_RX13_80 dX13_plays_110 ?_
            refine wq_iload_n dX13_plays_113 2 rfl rfl ?_
            refine wq_iconst dX13_plays_114 ?_
            refine wq_isub dX13_plays_115 ?_
            refine wq_iald (k := 27) (i := 20) rfl (by decide) rfl rfl (m := 2) g53 (Nat.le_of_ble_eq_true rfl) dX13_plays_116 ?_
            refine wq_if_le 132 dX13_plays_117 (by decide) rfl (fun c55 => ?_) (fun c55 => ?_)
            · refine wq_aload_n dX13_plays_120 0 rfl rfl ?_
              refine g_26_36 ln_RX13_77 dX13_plays_121 ?_
              refine wq_iload_n dX13_plays_124 2 rfl rfl ?_
              refine wq_iconst dX13_plays_125 ?_
              refine wq_isub dX13_plays_126 ?_
              refine wq_iald (k := 27) (i := 19) rfl (by decide) rfl rfl (m := 2) g53 (Nat.le_of_ble_eq_true rfl) dX13_plays_127 ?_
              refine wq_istore_n (lv' := [(3, vi (J54 27 19 (w32 (s41.2.1 - 1)).toNat)), (0, vr Z 26 0), (1, vi s41.1), (2, vi s41.2.1)]) dX13_plays_128 rfl (by decide) rfl ?_
              refine wq_goto 151 dX13_plays_129 (by decide) ?_
              refine wq_iinc (lv' := [(3, vi ((J54 27 19 (w32 (s41.2.1 - 1)).toNat) + 1)), (0, vr Z 26 0), (1, vi s41.1), (2, vi s41.2.1)]) dX13_plays_151 0 rfl (by decide) rfl ?_
              refine wq_goto 6 dX13_plays_154 (by decide) ?_
              exact WQ.loc [1, 2, 3, 0] rfl (bk36 _ _ _)
            · refine wq_iinc (lv' := [(2, vi (s41.2.1 + (-1))), (0, vr Z 26 0), (1, vi s41.1), (3, vi s41.2.2)]) dX13_plays_132 2 rfl (by decide) rfl ?_
              refine wq_goto 151 dX13_plays_135 (by decide) ?_
              refine wq_iinc (lv' := [(3, vi (s41.2.2 + 1)), (2, vi (s41.2.1 + (-1))), (0, vr Z 26 0), (1, vi s41.1)]) dX13_plays_151 3 rfl (by decide) rfl ?_
              refine wq_goto 6 dX13_plays_154 (by decide) ?_
              exact WQ.loc [2, 3, 1, 0] rfl (bk36 _ _ _)
          · refine wq_aload_n dX13_plays_138 0 rfl rfl ?_
            refine wq_iload_n dX13_plays_139 3 rfl rfl ?_
            refine wq_cVi M_M_does (R_M_does Z s41.2.2 _) ob_26 rfl rfl (by decide) (by decide) (Nat.le_of_ble_eq_true rfl) ln_RX13_409 dX13_plays_140 (fun gr49 x51 J50 => ?_)
            refine wq_if_ge 148 dX13_plays_143 (by decide) rfl (fun c52 => ?_) (fun c52 => ?_)
            · refine wq_iload_n dX13_plays_146 1 rfl rfl ?_
              exact wq_iret rfl ((hr38 _ _).trans rfl) dX13_plays_147
            · refine wq_iinc (lv' := [(1, vi (s41.1 + 1)), (0, vr Z 26 0), (2, vi s41.2.1), (3, vi s41.2.2)]) dX13_plays_148 1 rfl (by decide) rfl ?_
              refine wq_iinc (lv' := [(3, vi (s41.2.2 + 1)), (1, vi (s41.1 + 1)), (0, vr Z 26 0), (2, vi s41.2.1)]) dX13_plays_151 3 rfl (by decide) rfl ?_
              refine wq_goto 6 dX13_plays_154 (by decide) ?_
              exact WQ.loc [2, 1, 3, 0] rfl (bk36 _ _ _)
      refine wq_icmp_ne 50 dX13_plays_28 (by decide) rfl rfl (fun c45 => ?_) (fun c45 => ?_)
      · refine wq_aload_n dX13_plays_31 0 rfl rfl ?_
        refine g_26_33 ln_RX13_68 dX13_plays_32 ?_
        refine wq_iload_n dX13_plays_35 3 rfl rfl ?_
        refine wq_iald (k := 27) (i := 16) rfl (by decide) rfl rfl (m := 64) g42 (Nat.le_of_ble_eq_true rfl) dX13_plays_36 ?_
        refine wq_if_ne 50 dX13_plays_37 (by decide) rfl (fun c44 => ?_) (fun c44 => ?_)
        · refine wq_aload_n dX13_plays_40 0 rfl rfl ?_
          refine g_26_35 ln_RX13_74 dX13_plays_41 ?_
          refine wq_iload_n dX13_plays_44 3 rfl rfl ?_
          refine wq_iald (k := 27) (i := 18) rfl (by decide) rfl rfl (m := 64) g42 (Nat.le_of_ble_eq_true rfl) dX13_plays_45 ?_
          refine wq_istore_n (lv' := [(3, vi (J39 27 18 (w32 s41.2.2).toNat)), (0, vr Z 26 0), (1, vi s41.1), (2, vi s41.2.1)]) dX13_plays_46 rfl (by decide) rfl ?_
          refine wq_goto 151 dX13_plays_47 (by decide) ?_
          refine wq_iinc (lv' := [(3, vi ((J39 27 18 (w32 s41.2.2).toNat) + 1)), (0, vr Z 26 0), (1, vi s41.1), (2, vi s41.2.1)]) dX13_plays_151 0 rfl (by decide) rfl ?_
          refine wq_goto 6 dX13_plays_154 (by decide) ?_
          exact WQ.loc [1, 2, 3, 0] rfl (bk36 _ _ _)
        · exact WQ.loc [0, 1, 2, 3] rfl (hj43 _   _)
      · exact WQ.loc [0, 1, 2, 3] rfl (hj43 _   _)
    · refine wq_iload_n dX13_plays_157 1 rfl rfl ?_
      exact wq_iret rfl ((hr38 _ _).trans rfl) dX13_plays_158
  · refine wq_iload_n dX13_plays_157 1 rfl rfl ?_
    exact wq_iret rfl ((hr38 _ _).trans rfl) dX13_plays_158

theorem M_M_script : MwV yX13_script cX13_script 1 (none) 0 := ⟨li_8 86 (by decide +kernel) (by decide +kernel), li_8 85 (by decide +kernel) (by decide +kernel), lw_in 79 (by decide +kernel) (by decide +kernel), li_1 16 (by decide +kernel) (by decide +kernel), by decide +kernel⟩
theorem M_M_plays : MwV yX13_plays cX13_plays 4 (some .int) 0 := ⟨li_8 124 (by decide +kernel) (by decide +kernel), li_8 123 (by decide +kernel) (by decide +kernel), lw_in 86 (by decide +kernel) (by decide +kernel), li_1 16 (by decide +kernel) (by decide +kernel), by decide +kernel⟩
theorem ln_RX13_419 : Cond.methodLink RX13 419 yX13_plays ∈ lw_good := li_8 121 (by decide +kernel) (by decide +kernel)
theorem ln_RX13_412 : Cond.methodLink RX13 412 yX13_script ∈ lw_good := li_8 83 (by decide +kernel) (by decide +kernel)
noncomputable def f_M_play  (I : Mem) : Option ((Int) × Mem) :=
ltI (sI I 26 0 7 0) fun J1 =>
bnd (f_M_script J1) fun _ J3 =>
bnd (f_M_ended J3) fun x7 J6 =>
if (w32 x7) < 0 then
some (x7, J6)
else
bnd (f_M_remembers 0 J6) fun _ J9 =>
bnd (f_M_plays J9) fun x13 J12 =>
some (x13, J12)
set_option maxRecDepth 20000 in
theorem R_M_play (Z : ZT)  (I : Mem) (r : Int) (J : Mem) (hf : f_M_play I = some (r, J)) : Runs Z yX13_play cX13_play 2 (some .int) 10 [vr Z 26 0] I (some (vi r), J) := by
  refine Runs.of (rv := fun x => some (vi x)) (by decide +kernel) (Nat.le_of_ble_eq_true rfl) hf (fun gr => ?_)
  unfold f_M_play
  refine WQ.loc [0] (lv' := [(0, vr Z 26 0)]) rfl ?_
  refine wq_aload_n dX13_play_0 0 rfl rfl ?_
  refine wq_iconst dX13_play_1 ?_
  refine p_26_7 ln_RX13_100 dX13_play_2 (fun J1 => ?_)
  refine wq_aload_n dX13_play_5 0 rfl rfl ?_
  refine wq_cVv M_M_script (R_M_script Z _) ob_26 rfl rfl (by decide) (by decide) (Nat.le_of_ble_eq_true rfl) ln_RX13_412 dX13_play_6 (fun gr2 _ J3 => ?_)
  refine wq_aload_n dX13_play_9 0 rfl rfl ?_
  refine wq_cVi M_M_ended (R_M_ended Z _) ob_26 rfl rfl (by decide) (by decide) (Nat.le_of_ble_eq_true rfl) ln_RX13_336 dX13_play_10 (fun gr5 x7 J6 => ?_)
  refine wq_istore_n (lv' := [(1, vi x7), (0, vr Z 26 0)]) dX13_play_13 rfl (by decide) rfl ?_
  refine wq_iload_n dX13_play_14 0 rfl rfl ?_
  refine wq_if_ge 20 dX13_play_15 (by decide) rfl (fun c14 => ?_) (fun c14 => ?_)
  · refine wq_iload_n dX13_play_18 0 rfl rfl ?_
    exact wq_iret rfl rfl dX13_play_19
  · refine wq_aload_n dX13_play_20 1 rfl rfl ?_
    refine wq_aload_n dX13_play_21 1 rfl rfl ?_
    refine g_26_0 ln_RX13_9 dX13_play_22 ?_
    refine wq_cVv M_M_remembers (R_M_remembers Z 0 _) ob_26 rfl rfl (by decide) (by decide) (Nat.le_of_ble_eq_true rfl) ln_RX13_415 dX13_play_25 (fun gr8 _ J9 => ?_)
    refine wq_aload_n dX13_play_28 1 rfl rfl ?_
    refine wq_cVi M_M_plays (R_M_plays Z _) ob_26 rfl rfl (by decide) (by decide) (Nat.le_of_ble_eq_true rfl) ln_RX13_419 dX13_play_29 (fun gr11 x13 J12 => ?_)
    exact wq_iret rfl rfl dX13_play_32
end
