theorem ln_RX13_49 : Cond.fieldLink RX13 49 RX13 "found" "[I" ∈ lw_good := li_7 69 (by decide +kernel) (by decide +kernel)
theorem M_M_pair : MwS yX13_pair cX13_pair 2 (some .int) 2 := ⟨li_8 147 (by decide +kernel) (by decide +kernel), li_8 146 (by decide +kernel) (by decide +kernel), li_1 16 (by decide +kernel) (by decide +kernel), by decide +kernel⟩
theorem ln_RX13_52 : Cond.fieldLink RX13 52 RX13 "order" "[I" ∈ lw_good := li_7 70 (by decide +kernel) (by decide +kernel)
theorem ln_RX13_150 : Cond.fieldLink RX13 150 RX13 "orders0" "I" ∈ lw_good := li_7 72 (by decide +kernel) (by decide +kernel)
theorem ln_RX13_147 : Cond.methodLink RX13 147 yX13_pair ∈ lw_good := li_8 145 (by decide +kernel) (by decide +kernel)
noncomputable def f_M_countsIn_j101 (v1 : Int) (v2 : Int) (v3 : Int) (v4 : Int) (v5 : Int)   (I : Mem) : Option (((Int × Int) ⊕ (Unit)) × Mem) :=
ltI (sI I 26 0 18 ((I 26 0 18) + 1)) fun J29 =>
bnd (f_M_pair v4 v5 J29) fun x32 J31 =>
if 0 ≤ (w32 x32) ∧ (w32 x32) < 4356 then
ltI (sI J31 27 11 (w32 x32).toNat ((J31 27 11 (w32 x32).toNat) + 1)) fun J34 =>
some (.inl (v2, (v3 + 1)), J34)
else none

noncomputable def f_M_countsIn_j62 (v1 : Int) (v3 : Int) (v4 : Int) (v5 : Int)  (e0 : Int) (I : Mem) : Option (((Int × Int) ⊕ (Unit)) × Mem) :=
if (w32 e0) = 0 then
some (.inl (e0, (v3 + 1)), I)
else
bnd (f_M_pair v4 v5 I) fun x20 J19 =>
if 0 ≤ (w32 x20) ∧ (w32 x20) < 4356 then
if (w32 (J19 27 11 (w32 x20).toNat)) = 0 then
bnd (f_M_pair v4 v5 J19) fun x25 J24 =>
if 0 ≤ (w32 x25) ∧ (w32 x25) < 4356 then
ltI (sI J24 27 12 (w32 x25).toNat (J24 26 0 18)) fun J27 =>
f_M_countsIn_j101 v1 e0 v3 v4 v5 J27
else none
else
f_M_countsIn_j101 v1 e0 v3 v4 v5 J19
else none

noncomputable def f_M_countsIn_j57 (v1 : Int) (v3 : Int) (v4 : Int) (v5 : Int)   (I : Mem) : Option (((Int × Int) ⊕ (Unit)) × Mem) :=
f_M_countsIn_j62 v1 v3 v4 v5 1 I

noncomputable def f_M_countsIn_w4 (v1 : Int) (s : Int × Int) (I : Mem) : Option (((Int × Int) ⊕ (Unit)) × Mem) :=
bnd (f_M_many v1 I) fun x3 J2 =>
if (w32 (s.2 + 1)) < (w32 x3) then
bnd (f_M_at v1 s.2 J2) fun x6 J5 =>
bnd (f_M_at v1 (s.2 + 1) J5) fun x9 J8 =>
if (w32 x6) = (w32 x9) then
if (w32 s.1) = 0 then
f_M_countsIn_j57 v1 s.2 x6 x9 J8
else
bnd (f_M_at v1 (s.2 - 1) J8) fun x14 J13 =>
if (w32 x14) = (w32 x6) then
f_M_countsIn_j62 v1 s.2 x6 x9 0 J13
else
f_M_countsIn_j57 v1 s.2 x6 x9 J13
else
f_M_countsIn_j57 v1 s.2 x6 x9 J8
else
some (.inr (), J2)

noncomputable def f_M_countsIn (a1 : Int) (I : Mem) : Option ((Unit) × Mem) :=
bnd (whl (f_M_countsIn_w4 a1) (0, 0) I) fun r118 J119 =>
some ((), J119)
set_option maxRecDepth 20000 in
theorem R_M_countsIn (Z : ZT) (a1 : Int) (I : Mem) (r : Unit) (J : Mem) (hf : f_M_countsIn a1 I = some (r, J)) : Runs Z yX13_countsIn cX13_countsIn 6 (none) 2 [vr Z 26 0, vi a1] I (none, J) := by
  refine Runs.of (rv := fun _ => none) (by decide +kernel) (Nat.le_of_ble_eq_true rfl) hf (fun gr => ?_)
  unfold f_M_countsIn
  refine WQ.loc [0, 1] (lv' := [(0, vr Z 26 0), (1, vi a1)]) rfl ?_
  refine wq_iconst dX13_countsIn_0 ?_
  refine wq_istore_n (lv' := [(2, vi 0), (0, vr Z 26 0), (1, vi a1)]) dX13_countsIn_1 rfl (by decide) rfl ?_
  refine wq_iconst dX13_countsIn_2 ?_
  refine wq_istore_n (lv' := [(3, vi 0), (2, vi 0), (0, vr Z 26 0), (1, vi a1)]) dX13_countsIn_3 rfl (by decide) rfl ?_
  refine WQ.loc [2, 3, 1, 0] (lv' := [(0, vr Z 26 0), (1, vi a1), (2, vi 0), (3, vi 0)]) rfl ?_
  refine wq_loopS (fun s75 => [(0, vr Z 26 0), (1, vi a1), (2, vi s75.1), (3, vi s75.2)]) 133 (fun _ => []) (fun κ69 bk70 ex71 gr74 s75 J73 => ?_) (fun gr120 r118 J119 => ?_) gr _ rfl
  · unfold f_M_countsIn_w4
    refine wq_iload_n dX13_countsIn_4 3 rfl rfl ?_
    refine wq_iconst dX13_countsIn_5 ?_
    refine wq_iadd dX13_countsIn_6 ?_
    refine wq_aload_n dX13_countsIn_7 0 rfl rfl ?_
    refine wq_iload_n dX13_countsIn_8 1 rfl rfl ?_
    refine wq_cVi M_M_many (R_M_many Z a1 _) ob_26 rfl rfl (by decide) (by decide) (Nat.le_of_ble_eq_true rfl) ln_RX13_103 dX13_countsIn_9 (fun gr76 x78 J77 => ?_)
    refine wq_icmp_ge 133 dX13_countsIn_12 (by decide) rfl rfl (fun c117 => ?_) (fun c117 => ?_)
    · refine wq_aload_n dX13_countsIn_15 0 rfl rfl ?_
      refine wq_iload_n dX13_countsIn_16 1 rfl rfl ?_
      refine wq_iload_n dX13_countsIn_17 3 rfl rfl ?_
      refine wq_cVi M_M_at (R_M_at Z a1 s75.2 _) ob_26 rfl rfl (by decide) (by decide) (Nat.le_of_ble_eq_true rfl) ln_RX13_119 dX13_countsIn_18 (fun gr79 x81 J80 => ?_)
      refine wq_istore (lv' := [(4, vi x81), (0, vr Z 26 0), (1, vi a1), (2, vi s75.1), (3, vi s75.2)]) dX13_countsIn_21 (by decide) rfl ?_
      refine wq_aload_n dX13_countsIn_23 1 rfl rfl ?_
      refine wq_iload_n dX13_countsIn_24 2 rfl rfl ?_
      refine wq_iload_n dX13_countsIn_25 4 rfl rfl ?_
      refine wq_iconst dX13_countsIn_26 ?_
      refine wq_iadd dX13_countsIn_27 ?_
      refine wq_cVi M_M_at (R_M_at Z a1 (s75.2 + 1) _) ob_26 rfl rfl (by decide) (by decide) (Nat.le_of_ble_eq_true rfl) ln_RX13_119 dX13_countsIn_28 (fun gr82 x84 J83 => ?_)
      refine wq_istore (lv' := [(5, vi x84), (4, vi x81), (0, vr Z 26 0), (1, vi a1), (2, vi s75.1), (3, vi s75.2)]) dX13_countsIn_31 (by decide) rfl ?_
      refine wq_iload dX13_countsIn_33 1 rfl ?_
      refine wq_iload dX13_countsIn_35 0 rfl ?_
      have hj85 : ∀ (gr94 : Nat → Nat)  (hj85e0 : Int) (J93 : Mem), WQ Z (yX13_countsIn, cX13_countsIn, 6, none, 2) I gr94 62 [(0, vr Z 26 0), (1, vi a1), (3, vi s75.2), (4, vi x81), (5, vi x84)] [vi hj85e0] J93 (f_M_countsIn_j62 a1 s75.2 x81 x84 hj85e0 J93) κ69 := by
        intro gr94 hj85e0 J93
        unfold f_M_countsIn_j62
        refine wq_istore_n (lv' := [(2, vi hj85e0), (0, vr Z 26 0), (1, vi a1), (3, vi s75.2), (4, vi x81), (5, vi x84)]) dX13_countsIn_62 rfl (by decide) rfl ?_
        refine wq_iload_n dX13_countsIn_63 0 rfl rfl ?_
        refine wq_if_ne 70 dX13_countsIn_64 (by decide) rfl (fun c114 => ?_) (fun c114 => ?_)
        · refine wq_goto 127 dX13_countsIn_67 (by decide) ?_
          refine wq_iinc (lv' := [(3, vi (s75.2 + 1)), (2, vi hj85e0), (0, vr Z 26 0), (1, vi a1), (4, vi x81), (5, vi x84)]) dX13_countsIn_127 3 rfl (by decide) rfl ?_
          refine wq_goto 4 dX13_countsIn_130 (by decide) ?_
          exact WQ.loc [2, 3, 1, 0] rfl (bk70 _ _ _)
        · refine wq_aload_n dX13_countsIn_70 1 rfl rfl ?_
          refine g_26_15 ln_RX13_49 dX13_countsIn_71 ?_
          refine wq_iload dX13_countsIn_74 4 rfl ?_
          refine wq_iload dX13_countsIn_76 5 rfl ?_
          refine wq_cSi M_M_pair (R_M_pair Z x81 x84 _) rfl rfl rfl (by decide) (by decide) (Nat.le_of_ble_eq_true rfl) ln_RX13_147 dX13_countsIn_78 (fun gr95 x97 J96 => ?_)
          refine wq_grd (fun g98 => ?_)
          refine wq_iald (k := 27) (i := 11) rfl (by decide) rfl rfl (m := 4356) g98 (Nat.le_of_ble_eq_true rfl) dX13_countsIn_81 ?_
          have hj99 : ∀ (gr107 : Nat → Nat)   (J106 : Mem), WQ Z (yX13_countsIn, cX13_countsIn, 6, none, 2) I gr107 101 [(0, vr Z 26 0), (1, vi a1), (2, vi hj85e0), (3, vi s75.2), (4, vi x81), (5, vi x84)] [] J106 (f_M_countsIn_j101 a1 hj85e0 s75.2 x81 x84 J106) κ69 := by
            intro gr107 J106
            unfold f_M_countsIn_j101
            refine wq_aload_n dX13_countsIn_101 0 rfl rfl ?_
            refine wq_dup dX13_countsIn_102 rfl ?_
            refine g_26_18 ln_RX13_150 dX13_countsIn_103 ?_
            refine wq_iconst dX13_countsIn_106 ?_
            refine wq_iadd dX13_countsIn_107 ?_
            refine p_26_18 ln_RX13_150 dX13_countsIn_108 (fun J108 => ?_)
            refine wq_aload_n dX13_countsIn_111 0 rfl rfl ?_
            refine g_26_15 ln_RX13_49 dX13_countsIn_112 ?_
            refine wq_iload dX13_countsIn_115 4 rfl ?_
            refine wq_iload dX13_countsIn_117 5 rfl ?_
            refine wq_cSi M_M_pair (R_M_pair Z x81 x84 _) rfl rfl rfl (by decide) (by decide) (Nat.le_of_ble_eq_true rfl) ln_RX13_147 dX13_countsIn_119 (fun gr109 x111 J110 => ?_)
            refine wq_dup2 dX13_countsIn_122 rfl rfl ?_
            refine wq_grd (fun g112 => ?_)
            refine wq_iald (k := 27) (i := 11) rfl (by decide) rfl rfl (m := 4356) g112 (Nat.le_of_ble_eq_true rfl) dX13_countsIn_123 ?_
            refine wq_iconst dX13_countsIn_124 ?_
            refine wq_iadd dX13_countsIn_125 ?_
            refine wq_iast (k := 27) (i := 11) (fun _ _ => rfl) (by decide) rfl rfl (m := 4356) g112 (Nat.le_of_ble_eq_true rfl) (by decide) (by decide) (by decide) dX13_countsIn_126 (fun J113 => ?_)
            refine wq_iinc (lv' := [(3, vi (s75.2 + 1)), (0, vr Z 26 0), (1, vi a1), (2, vi hj85e0), (4, vi x81), (5, vi x84)]) dX13_countsIn_127 3 rfl (by decide) rfl ?_
            refine wq_goto 4 dX13_countsIn_130 (by decide) ?_
            exact WQ.loc [1, 2, 3, 0] rfl (bk70 _ _ _)
          refine wq_if_ne 101 dX13_countsIn_82 (by decide) rfl (fun c105 => ?_) (fun c105 => ?_)
          · refine wq_aload_n dX13_countsIn_85 1 rfl rfl ?_
            refine g_26_16 ln_RX13_52 dX13_countsIn_86 ?_
            refine wq_iload dX13_countsIn_89 4 rfl ?_
            refine wq_iload dX13_countsIn_91 5 rfl ?_
            refine wq_cSi M_M_pair (R_M_pair Z x81 x84 _) rfl rfl rfl (by decide) (by decide) (Nat.le_of_ble_eq_true rfl) ln_RX13_147 dX13_countsIn_93 (fun gr100 x102 J101 => ?_)
            refine wq_aload_n dX13_countsIn_96 1 rfl rfl ?_
            refine g_26_18 ln_RX13_150 dX13_countsIn_97 ?_
            refine wq_grd (fun g103 => ?_)
            refine wq_iast (k := 27) (i := 12) (fun _ _ => rfl) (by decide) rfl rfl (m := 4356) g103 (Nat.le_of_ble_eq_true rfl) (by decide) (by decide) (by decide) dX13_countsIn_100 (fun J104 => ?_)
            exact WQ.loc [1, 2, 0, 3, 4, 5] rfl (hj99 _   _)
          · exact WQ.loc [1, 2, 0, 3, 4, 5] rfl (hj99 _   _)
      have hj86 : ∀ (gr116 : Nat → Nat)   (J115 : Mem), WQ Z (yX13_countsIn, cX13_countsIn, 6, none, 2) I gr116 57 [(0, vr Z 26 0), (1, vi a1), (3, vi s75.2), (4, vi x81), (5, vi x84)] [] J115 (f_M_countsIn_j57 a1 s75.2 x81 x84 J115) κ69 := by
        intro gr116 J115
        unfold f_M_countsIn_j57
        refine wq_iconst dX13_countsIn_57 ?_
        refine wq_goto 62 dX13_countsIn_58 (by decide) ?_
        exact WQ.loc [0, 1, 2, 3, 4] rfl (hj85 _  _ _)
      refine wq_icmp_ne 57 dX13_countsIn_37 (by decide) rfl rfl (fun c92 => ?_) (fun c92 => ?_)
      · refine wq_iload_n dX13_countsIn_40 4 rfl rfl ?_
        refine wq_if_eq 57 dX13_countsIn_41 (by decide) rfl (fun c91 => ?_) (fun c91 => ?_)
        · exact WQ.loc [2, 3, 5, 1, 0] rfl (hj86 _   _)
        · refine wq_aload_n dX13_countsIn_44 2 rfl rfl ?_
          refine wq_iload_n dX13_countsIn_45 3 rfl rfl ?_
          refine wq_iload_n dX13_countsIn_46 5 rfl rfl ?_
          refine wq_iconst dX13_countsIn_47 ?_
          refine wq_isub dX13_countsIn_48 ?_
          refine wq_cVi M_M_at (R_M_at Z a1 (s75.2 - 1) _) ob_26 rfl rfl (by decide) (by decide) (Nat.le_of_ble_eq_true rfl) ln_RX13_119 dX13_countsIn_49 (fun gr87 x89 J88 => ?_)
          refine wq_iload dX13_countsIn_52 1 rfl ?_
          refine wq_icmp_eq 61 dX13_countsIn_54 (by decide) rfl rfl (fun c90 => ?_) (fun c90 => ?_)
          · refine wq_iconst dX13_countsIn_61 ?_
            exact WQ.loc [2, 3, 5, 1, 0] rfl (hj85 _  _ _)
          · exact WQ.loc [2, 3, 5, 1, 0] rfl (hj86 _   _)
      · exact WQ.loc [2, 3, 5, 1, 0] rfl (hj86 _   _)
    · exact WQ.loc [] rfl (ex71 _ _ _)
  · exact wq_vret rfl rfl dX13_countsIn_133

theorem ln_RX13_55 : Cond.fieldLink RX13 55 RX13 "keeper" "[I" ∈ lw_good := li_7 71 (by decide +kernel) (by decide +kernel)
theorem M_M_isAlone : MwV yX13_isAlone cX13_isAlone 2 (some .boolean) 1 := ⟨li_8 144 (by decide +kernel) (by decide +kernel), li_8 143 (by decide +kernel) (by decide +kernel), lw_in 92 (by decide +kernel) (by decide +kernel), li_1 16 (by decide +kernel) (by decide +kernel), by decide +kernel⟩
theorem M_M_countsIn : MwV yX13_countsIn cX13_countsIn 6 (none) 1 := ⟨li_8 151 (by decide +kernel) (by decide +kernel), li_8 150 (by decide +kernel) (by decide +kernel), lw_in 93 (by decide +kernel) (by decide +kernel), li_1 16 (by decide +kernel) (by decide +kernel), by decide +kernel⟩
theorem ln_RX13_156 : Cond.methodLink RX13 156 yX13_countsIn ∈ lw_good := li_8 148 (by decide +kernel) (by decide +kernel)
theorem ln_RX13_153 : Cond.methodLink RX13 153 yX13_isAlone ∈ lw_good := li_8 141 (by decide +kernel) (by decide +kernel)
noncomputable def f_M_laysPairs_w2  (s : Int) (I : Mem) : Option (((Int) ⊕ (Unit)) × Mem) :=
if (w32 s) < 4356 then
if 0 ≤ (w32 s) ∧ (w32 s) < 4356 then
ltI (sI I 27 11 (w32 s).toNat 0) fun J2 =>
ltI (sI J2 27 13 (w32 s).toNat (-1)) fun J3 =>
some (.inl (s + 1), J3)
else none
else
some (.inr (), I)

noncomputable def f_M_laysPairs_j69 (v1 : Int)  (e0 : Int) (I : Mem) : Option (((Int) ⊕ (Unit)) × Mem) :=
if (w32 e0) = (-1) then
bnd (f_M_countsIn v1 I) fun _ J38 =>
some (.inl (v1 + 1), J38)
else
if 0 ≤ (w32 e0) ∧ (w32 e0) < 4356 then
if (w32 (I 27 13 (w32 e0).toNat)) = (-1) then
ltI (sI I 27 13 (w32 e0).toNat (v1 - 1)) fun J35 =>
some (.inl (v1 + 1), J35)
else
some (.inl (v1 + 1), I)
else none

noncomputable def f_M_laysPairs_w36  (s : Int) (I : Mem) : Option (((Int) ⊕ (Unit)) × Mem) :=
if (w32 s) < 41 then
bnd (f_M_isAlone s I) fun x22 J21 =>
if (w32 x22) = 0 then
f_M_laysPairs_j69 s (-1) J21
else
bnd (f_M_at s 0 J21) fun x26 J25 =>
bnd (f_M_at s 1 J25) fun x29 J28 =>
bnd (f_M_pair x26 x29 J28) fun x32 J31 =>
f_M_laysPairs_j69 s x32 J31
else
some (.inr (), I)

noncomputable def f_M_laysPairs  (I : Mem) : Option ((Unit) × Mem) :=
bnd (whl (f_M_laysPairs_w2) 0 I) fun r16 J17 =>
ltI (sI J17 26 0 18 0) fun J19 =>
bnd (whl (f_M_laysPairs_w36) 0 J19) fun r82 J83 =>
some ((), J83)
set_option maxRecDepth 20000 in
theorem R_M_laysPairs (Z : ZT)  (I : Mem) (r : Unit) (J : Mem) (hf : f_M_laysPairs I = some (r, J)) : Runs Z yX13_laysPairs cX13_laysPairs 3 (none) 3 [vr Z 26 0] I (none, J) := by
  refine Runs.of (rv := fun _ => none) (by decide +kernel) (Nat.le_of_ble_eq_true rfl) hf (fun gr => ?_)
  unfold f_M_laysPairs
  refine WQ.loc [0] (lv' := [(0, vr Z 26 0)]) rfl ?_
  refine wq_iconst dX13_laysPairs_0 ?_
  refine wq_istore_n (lv' := [(1, vi 0), (0, vr Z 26 0)]) dX13_laysPairs_1 rfl (by decide) rfl ?_
  refine WQ.loc [1, 0] (lv' := [(0, vr Z 26 0), (1, vi 0)]) rfl ?_
  refine wq_loopS (fun s11 => [(0, vr Z 26 0), (1, vi s11)]) 29 (fun _ => [(0, vr Z 26 0)]) (fun κ5 bk6 ex7 gr10 s11 J9 => ?_) (fun gr18 r16 J17 => ?_) gr _ rfl
  · unfold f_M_laysPairs_w2
    refine wq_iload_n dX13_laysPairs_2 1 rfl rfl ?_
    refine wq_sipush dX13_laysPairs_3 (by decide) ?_
    refine wq_icmp_ge 29 dX13_laysPairs_6 (by decide) rfl rfl (fun c15 => ?_) (fun c15 => ?_)
    · refine wq_aload_n dX13_laysPairs_9 0 rfl rfl ?_
      refine g_26_15 ln_RX13_49 dX13_laysPairs_10 ?_
      refine wq_iload_n dX13_laysPairs_13 1 rfl rfl ?_
      refine wq_iconst dX13_laysPairs_14 ?_
      refine wq_grd (fun g12 => ?_)
      refine wq_iast (k := 27) (i := 11) (fun _ _ => rfl) (by decide) rfl rfl (m := 4356) g12 (Nat.le_of_ble_eq_true rfl) (by decide) (by decide) (by decide) dX13_laysPairs_15 (fun J13 => ?_)
      refine wq_aload_n dX13_laysPairs_16 0 rfl rfl ?_
      refine g_26_17 ln_RX13_55 dX13_laysPairs_17 ?_
      refine wq_iload_n dX13_laysPairs_20 1 rfl rfl ?_
      refine wq_iconst dX13_laysPairs_21 ?_
      refine wq_iast (k := 27) (i := 13) (fun _ _ => rfl) (by decide) rfl rfl (m := 4356) g12 (Nat.le_of_ble_eq_true rfl) (by decide) (by decide) (by decide) dX13_laysPairs_22 (fun J14 => ?_)
      refine wq_iinc (lv' := [(1, vi (s11 + 1)), (0, vr Z 26 0)]) dX13_laysPairs_23 1 rfl (by decide) rfl ?_
      refine wq_goto 2 dX13_laysPairs_26 (by decide) ?_
      exact WQ.loc [1, 0] rfl (bk6 _ _ _)
    · exact WQ.loc [0] rfl (ex7 _ _ _)
  · refine wq_aload_n dX13_laysPairs_29 0 rfl rfl ?_
    refine wq_iconst dX13_laysPairs_30 ?_
    refine p_26_18 ln_RX13_150 dX13_laysPairs_31 (fun J19 => ?_)
    refine wq_iconst dX13_laysPairs_34 ?_
    refine wq_istore_n (lv' := [(1, vi 0), (0, vr Z 26 0)]) dX13_laysPairs_35 rfl (by decide) rfl ?_
    refine WQ.loc [1, 0] (lv' := [(0, vr Z 26 0), (1, vi 0)]) rfl ?_
    refine wq_loopS (fun s57 => [(0, vr Z 26 0), (1, vi s57)]) 108 (fun _ => []) (fun κ51 bk52 ex53 gr56 s57 J55 => ?_) (fun gr84 r82 J83 => ?_) gr18 _ rfl
    · unfold f_M_laysPairs_w36
      refine wq_iload_n dX13_laysPairs_36 1 rfl rfl ?_
      refine wq_bipush dX13_laysPairs_37 (by decide) ?_
      refine wq_icmp_ge 108 dX13_laysPairs_39 (by decide) rfl rfl (fun c81 => ?_) (fun c81 => ?_)
      · refine wq_aload_n dX13_laysPairs_42 0 rfl rfl ?_
        refine wq_iload_n dX13_laysPairs_43 1 rfl rfl ?_
        refine wq_cVi M_M_isAlone (R_M_isAlone Z s57 _) ob_26 rfl rfl (by decide) (by decide) (Nat.le_of_ble_eq_true rfl) ln_RX13_153 dX13_laysPairs_44 (fun gr58 x60 J59 => ?_)
        have hj61 : ∀ (gr73 : Nat → Nat)  (hj61e0 : Int) (J72 : Mem), WQ Z (yX13_laysPairs, cX13_laysPairs, 3, none, 3) I gr73 69 [(0, vr Z 26 0), (1, vi s57)] [vi hj61e0] J72 (f_M_laysPairs_j69 s57 hj61e0 J72) κ51 := by
          intro gr73 hj61e0 J72
          unfold f_M_laysPairs_j69
          refine wq_istore_n (lv' := [(2, vi hj61e0), (0, vr Z 26 0), (1, vi s57)]) dX13_laysPairs_69 rfl (by decide) rfl ?_
          refine wq_iload_n dX13_laysPairs_70 0 rfl rfl ?_
          refine wq_iconst dX13_laysPairs_71 ?_
          refine wq_icmp_ne 83 dX13_laysPairs_72 (by decide) rfl rfl (fun c80 => ?_) (fun c80 => ?_)
          · refine wq_aload_n dX13_laysPairs_75 1 rfl rfl ?_
            refine wq_iload_n dX13_laysPairs_76 2 rfl rfl ?_
            refine wq_cVv M_M_countsIn (R_M_countsIn Z s57 _) ob_26 rfl rfl (by decide) (by decide) (Nat.le_of_ble_eq_true rfl) ln_RX13_156 dX13_laysPairs_77 (fun gr77 _ J78 => ?_)
            refine wq_goto 102 dX13_laysPairs_80 (by decide) ?_
            refine wq_iinc (lv' := [(1, vi (s57 + 1)), (2, vi hj61e0), (0, vr Z 26 0)]) dX13_laysPairs_102 2 rfl (by decide) rfl ?_
            refine wq_goto 36 dX13_laysPairs_105 (by decide) ?_
            exact WQ.loc [2, 0] rfl (bk52 _ _ _)
          · refine wq_aload_n dX13_laysPairs_83 1 rfl rfl ?_
            refine g_26_17 ln_RX13_55 dX13_laysPairs_84 ?_
            refine wq_iload_n dX13_laysPairs_87 0 rfl rfl ?_
            refine wq_grd (fun g74 => ?_)
            refine wq_iald (k := 27) (i := 13) rfl (by decide) rfl rfl (m := 4356) g74 (Nat.le_of_ble_eq_true rfl) dX13_laysPairs_88 ?_
            refine wq_iconst dX13_laysPairs_89 ?_
            refine wq_icmp_ne 102 dX13_laysPairs_90 (by decide) rfl rfl (fun c76 => ?_) (fun c76 => ?_)
            · refine wq_aload_n dX13_laysPairs_93 1 rfl rfl ?_
              refine g_26_17 ln_RX13_55 dX13_laysPairs_94 ?_
              refine wq_iload_n dX13_laysPairs_97 0 rfl rfl ?_
              refine wq_iload_n dX13_laysPairs_98 2 rfl rfl ?_
              refine wq_iconst dX13_laysPairs_99 ?_
              refine wq_isub dX13_laysPairs_100 ?_
              refine wq_iast (k := 27) (i := 13) (fun _ _ => rfl) (by decide) rfl rfl (m := 4356) g74 (Nat.le_of_ble_eq_true rfl) (by decide) (by decide) (by decide) dX13_laysPairs_101 (fun J75 => ?_)
              refine wq_iinc (lv' := [(1, vi (s57 + 1)), (2, vi hj61e0), (0, vr Z 26 0)]) dX13_laysPairs_102 2 rfl (by decide) rfl ?_
              refine wq_goto 36 dX13_laysPairs_105 (by decide) ?_
              exact WQ.loc [2, 0] rfl (bk52 _ _ _)
            · refine wq_iinc (lv' := [(1, vi (s57 + 1)), (2, vi hj61e0), (0, vr Z 26 0)]) dX13_laysPairs_102 2 rfl (by decide) rfl ?_
              refine wq_goto 36 dX13_laysPairs_105 (by decide) ?_
              exact WQ.loc [2, 0] rfl (bk52 _ _ _)
        refine wq_if_eq 68 dX13_laysPairs_47 (by decide) rfl (fun c71 => ?_) (fun c71 => ?_)
        · refine wq_iconst dX13_laysPairs_68 ?_
          exact WQ.loc [0, 1] rfl (hj61 _  _ _)
        · refine wq_aload_n dX13_laysPairs_50 0 rfl rfl ?_
          refine wq_iload_n dX13_laysPairs_51 1 rfl rfl ?_
          refine wq_iconst dX13_laysPairs_52 ?_
          refine wq_cVi M_M_at (R_M_at Z s57 0 _) ob_26 rfl rfl (by decide) (by decide) (Nat.le_of_ble_eq_true rfl) ln_RX13_119 dX13_laysPairs_53 (fun gr62 x64 J63 => ?_)
          refine wq_aload_n dX13_laysPairs_56 0 rfl rfl ?_
          refine wq_iload_n dX13_laysPairs_57 1 rfl rfl ?_
          refine wq_iconst dX13_laysPairs_58 ?_
          refine wq_cVi M_M_at (R_M_at Z s57 1 _) ob_26 rfl rfl (by decide) (by decide) (Nat.le_of_ble_eq_true rfl) ln_RX13_119 dX13_laysPairs_59 (fun gr65 x67 J66 => ?_)
          refine wq_cSi M_M_pair (R_M_pair Z x64 x67 _) rfl rfl rfl (by decide) (by decide) (Nat.le_of_ble_eq_true rfl) ln_RX13_147 dX13_laysPairs_62 (fun gr68 x70 J69 => ?_)
          refine wq_goto 69 dX13_laysPairs_65 (by decide) ?_
          exact WQ.loc [0, 1] rfl (hj61 _  _ _)
      · exact WQ.loc [] rfl (ex53 _ _ _)
    · exact wq_vret rfl rfl dX13_laysPairs_108

noncomputable def f_M_isWorth (a1 : Int) (a2 : Int) (I : Mem) : Option ((Int) × Mem) :=
if 0 ≤ (w32 a1) ∧ (w32 a1) < 4356 then
if (w32 (I 27 13 (w32 a1).toNat)) = (-1) then
if (w32 (I 27 11 (w32 a1).toNat)) < (w32 (I 27 0 0)) then
some (0, I)
else
if (w32 a2) = (-1) then
some (0, I)
else
some (1, I)
else
if 0 < (w32 (I 27 11 (w32 a1).toNat)) then
some (1, I)
else
some (0, I)
else none
set_option maxRecDepth 20000 in
theorem R_M_isWorth (Z : ZT) (a1 : Int) (a2 : Int) (I : Mem) (r : Int) (J : Mem) (hf : f_M_isWorth a1 a2 I = some (r, J)) : Runs Z yX13_isWorth cX13_isWorth 3 (some .boolean) 1 [vr Z 26 0, vi a1, vi a2] I (some (vi r), J) := by
  refine Runs.of (rv := fun x => some (vi x)) (by decide +kernel) (Nat.le_of_ble_eq_true rfl) hf (fun gr => ?_)
  unfold f_M_isWorth
  refine WQ.loc [0, 1, 2] (lv' := [(0, vr Z 26 0), (1, vi a1), (2, vi a2)]) rfl ?_
  refine wq_aload_n dX13_isWorth_0 0 rfl rfl ?_
  refine g_26_17 ln_RX13_55 dX13_isWorth_1 ?_
  refine wq_iload_n dX13_isWorth_4 1 rfl rfl ?_
  refine wq_grd (fun g1 => ?_)
  refine wq_iald (k := 27) (i := 13) rfl (by decide) rfl rfl (m := 4356) g1 (Nat.le_of_ble_eq_true rfl) dX13_isWorth_5 ?_
  refine wq_iconst dX13_isWorth_6 ?_
  refine wq_icmp_eq 27 dX13_isWorth_7 (by decide) rfl rfl (fun c6 => ?_) (fun c6 => ?_)
  · refine wq_aload_n dX13_isWorth_27 0 rfl rfl ?_
    refine g_26_15 ln_RX13_49 dX13_isWorth_28 ?_
    refine wq_iload_n dX13_isWorth_31 1 rfl rfl ?_
    refine wq_iald (k := 27) (i := 11) rfl (by decide) rfl rfl (m := 4356) g1 (Nat.le_of_ble_eq_true rfl) dX13_isWorth_32 ?_
    refine wq_aload_n dX13_isWorth_33 0 rfl rfl ?_
    refine g_26_0 ln_RX13_9 dX13_isWorth_34 ?_
    refine wq_iconst dX13_isWorth_37 ?_
    refine wq_iald (k := 27) (i := 0) rfl (by decide) rfl rfl (m := 16860) (by decide) (Nat.le_of_ble_eq_true rfl) dX13_isWorth_38 ?_
    refine wq_icmp_lt 51 dX13_isWorth_39 (by decide) rfl rfl (fun c4 => ?_) (fun c4 => ?_)
    · refine wq_iconst dX13_isWorth_51 ?_
      exact wq_zret rfl (by decide) rfl dX13_isWorth_52
    · refine wq_iload_n dX13_isWorth_42 2 rfl rfl ?_
      refine wq_iconst dX13_isWorth_43 ?_
      refine wq_icmp_eq 51 dX13_isWorth_44 (by decide) rfl rfl (fun c3 => ?_) (fun c3 => ?_)
      · refine wq_iconst dX13_isWorth_51 ?_
        exact wq_zret rfl (by decide) rfl dX13_isWorth_52
      · refine wq_iconst dX13_isWorth_47 ?_
        refine wq_goto 52 dX13_isWorth_48 (by decide) ?_
        exact wq_zret rfl (by decide) rfl dX13_isWorth_52
  · refine wq_aload_n dX13_isWorth_10 0 rfl rfl ?_
    refine g_26_15 ln_RX13_49 dX13_isWorth_11 ?_
    refine wq_iload_n dX13_isWorth_14 1 rfl rfl ?_
    refine wq_iald (k := 27) (i := 11) rfl (by decide) rfl rfl (m := 4356) g1 (Nat.le_of_ble_eq_true rfl) dX13_isWorth_15 ?_
    refine wq_if_le 23 dX13_isWorth_16 (by decide) rfl (fun c5 => ?_) (fun c5 => ?_)
    · refine wq_iconst dX13_isWorth_19 ?_
      refine wq_goto 52 dX13_isWorth_20 (by decide) ?_
      exact wq_zret rfl (by decide) rfl dX13_isWorth_52
    · refine wq_iconst dX13_isWorth_23 ?_
      refine wq_goto 52 dX13_isWorth_24 (by decide) ?_
      exact wq_zret rfl (by decide) rfl dX13_isWorth_52

noncomputable def f_M_isAhead_j120 (v1 : Int) (v2 : Int)  (e0 : Int) (I : Mem) : Option ((Int) × Mem) :=
if (w32 e0) = 0 then
if (w32 v1) < (w32 v2) then
some (1, I)
else
some (0, I)
else
if 0 < (w32 e0) then
some (1, I)
else
some (0, I)

noncomputable def f_M_isAhead (a1 : Int) (a2 : Int) (I : Mem) : Option ((Int) × Mem) :=
if 0 ≤ (w32 a1) ∧ (w32 a1) < 4356 then
if 0 ≤ (w32 a2) ∧ (w32 a2) < 4356 then
if (w32 (I 27 11 (w32 a1).toNat)) = (w32 (I 27 11 (w32 a2).toNat)) then
if (w32 (I 27 0 1)) = 1 then
if (w32 (I 27 12 (w32 a1).toNat)) < (w32 (I 27 12 (w32 a2).toNat)) then
some (1, I)
else
some (0, I)
else
if (w32 (I 27 0 1)) = 2 then
if 0 ≤ (w32 (idv a1 66)) ∧ (w32 (idv a1 66)) < 66 then
if 0 ≤ (w32 (irm a1 66)) ∧ (w32 (irm a1 66)) < 66 then
if 0 ≤ (w32 (idv a2 66)) ∧ (w32 (idv a2 66)) < 66 then
if 0 ≤ (w32 (irm a2 66)) ∧ (w32 (irm a2 66)) < 66 then
f_M_isAhead_j120 a1 a2 ((((I 27 5 (w32 (idv a1 66)).toNat) + (I 27 5 (w32 (irm a1 66)).toNat)) - (I 27 5 (w32 (idv a2 66)).toNat)) - (I 27 5 (w32 (irm a2 66)).toNat)) I
else none
else none
else none
else none
else
f_M_isAhead_j120 a1 a2 0 I
else
if (w32 (I 27 11 (w32 a2).toNat)) < (w32 (I 27 11 (w32 a1).toNat)) then
some (1, I)
else
some (0, I)
else none
else none
set_option maxRecDepth 20000 in
theorem R_M_isAhead (Z : ZT) (a1 : Int) (a2 : Int) (I : Mem) (r : Int) (J : Mem) (hf : f_M_isAhead a1 a2 I = some (r, J)) : Runs Z yX13_isAhead cX13_isAhead 4 (some .boolean) 1 [vr Z 26 0, vi a1, vi a2] I (some (vi r), J) := by
  refine Runs.of (rv := fun x => some (vi x)) (by decide +kernel) (Nat.le_of_ble_eq_true rfl) hf (fun gr => ?_)
  unfold f_M_isAhead
  refine WQ.loc [0, 1, 2] (lv' := [(0, vr Z 26 0), (1, vi a1), (2, vi a2)]) rfl ?_
  refine wq_aload_n dX13_isAhead_0 0 rfl rfl ?_
  refine g_26_15 ln_RX13_49 dX13_isAhead_1 ?_
  refine wq_iload_n dX13_isAhead_4 1 rfl rfl ?_
  refine wq_grd (fun g1 => ?_)
  refine wq_iald (k := 27) (i := 11) rfl (by decide) rfl rfl (m := 4356) g1 (Nat.le_of_ble_eq_true rfl) dX13_isAhead_5 ?_
  refine wq_aload_n dX13_isAhead_6 0 rfl rfl ?_
  refine g_26_15 ln_RX13_49 dX13_isAhead_7 ?_
  refine wq_iload_n dX13_isAhead_10 2 rfl rfl ?_
  refine wq_grd (fun g2 => ?_)
  refine wq_iald (k := 27) (i := 11) rfl (by decide) rfl rfl (m := 4356) g2 (Nat.le_of_ble_eq_true rfl) dX13_isAhead_11 ?_
  refine wq_icmp_eq 36 dX13_isAhead_12 (by decide) rfl rfl (fun c22 => ?_) (fun c22 => ?_)
  · refine wq_aload_n dX13_isAhead_36 0 rfl rfl ?_
    refine g_26_0 ln_RX13_9 dX13_isAhead_37 ?_
    refine wq_iconst dX13_isAhead_40 ?_
    refine wq_iald (k := 27) (i := 0) rfl (by decide) rfl rfl (m := 16860) (by decide) (Nat.le_of_ble_eq_true rfl) dX13_isAhead_41 ?_
    refine wq_iconst dX13_isAhead_42 ?_
    refine wq_icmp_ne 67 dX13_isAhead_43 (by decide) rfl rfl (fun c20 => ?_) (fun c20 => ?_)
    · refine wq_aload_n dX13_isAhead_46 0 rfl rfl ?_
      refine g_26_16 ln_RX13_52 dX13_isAhead_47 ?_
      refine wq_iload_n dX13_isAhead_50 1 rfl rfl ?_
      refine wq_iald (k := 27) (i := 12) rfl (by decide) rfl rfl (m := 4356) g1 (Nat.le_of_ble_eq_true rfl) dX13_isAhead_51 ?_
      refine wq_aload_n dX13_isAhead_52 0 rfl rfl ?_
      refine g_26_16 ln_RX13_52 dX13_isAhead_53 ?_
      refine wq_iload_n dX13_isAhead_56 2 rfl rfl ?_
      refine wq_iald (k := 27) (i := 12) rfl (by decide) rfl rfl (m := 4356) g2 (Nat.le_of_ble_eq_true rfl) dX13_isAhead_57 ?_
      refine wq_icmp_ge 65 dX13_isAhead_58 (by decide) rfl rfl (fun c19 => ?_) (fun c19 => ?_)
      · refine wq_iconst dX13_isAhead_61 ?_
        refine wq_goto 66 dX13_isAhead_62 (by decide) ?_
        exact wq_zret rfl (by decide) rfl dX13_isAhead_66
      · refine wq_iconst dX13_isAhead_65 ?_
        exact wq_zret rfl (by decide) rfl dX13_isAhead_66
    · refine wq_aload_n dX13_isAhead_67 0 rfl rfl ?_
      refine g_26_0 ln_RX13_9 dX13_isAhead_68 ?_
      refine wq_iconst dX13_isAhead_71 ?_
      refine wq_iald (k := 27) (i := 0) rfl (by decide) rfl rfl (m := 16860) (by decide) (Nat.le_of_ble_eq_true rfl) dX13_isAhead_72 ?_
      refine wq_iconst dX13_isAhead_73 ?_
      have hj5 : ∀ (gr15 : Nat → Nat)  (hj5e0 : Int) (J14 : Mem), WQ Z (yX13_isAhead, cX13_isAhead, 4, some .boolean, 1) I gr15 120 [(1, vi a1), (2, vi a2)] [vi hj5e0] J14 (f_M_isAhead_j120 a1 a2 hj5e0 J14) (fun b K => some (.inl ((fun x => some (vi x)) b), K)) := by
        intro gr15 hj5e0 J14
        unfold f_M_isAhead_j120
        refine wq_istore_n (lv' := [(3, vi hj5e0), (1, vi a1), (2, vi a2)]) dX13_isAhead_120 rfl (by decide) rfl ?_
        refine wq_iload_n dX13_isAhead_121 0 rfl rfl ?_
        refine wq_if_eq 137 dX13_isAhead_122 (by decide) rfl (fun c18 => ?_) (fun c18 => ?_)
        · refine wq_iload_n dX13_isAhead_137 1 rfl rfl ?_
          refine wq_iload_n dX13_isAhead_138 2 rfl rfl ?_
          refine wq_icmp_ge 146 dX13_isAhead_139 (by decide) rfl rfl (fun c16 => ?_) (fun c16 => ?_)
          · refine wq_iconst dX13_isAhead_142 ?_
            refine wq_goto 147 dX13_isAhead_143 (by decide) ?_
            exact wq_zret rfl (by decide) rfl dX13_isAhead_147
          · refine wq_iconst dX13_isAhead_146 ?_
            exact wq_zret rfl (by decide) rfl dX13_isAhead_147
        · refine wq_iload_n dX13_isAhead_125 0 rfl rfl ?_
          refine wq_if_le 133 dX13_isAhead_126 (by decide) rfl (fun c17 => ?_) (fun c17 => ?_)
          · refine wq_iconst dX13_isAhead_129 ?_
            refine wq_goto 147 dX13_isAhead_130 (by decide) ?_
            exact wq_zret rfl (by decide) rfl dX13_isAhead_147
          · refine wq_iconst dX13_isAhead_133 ?_
            refine wq_goto 147 dX13_isAhead_134 (by decide) ?_
            exact wq_zret rfl (by decide) rfl dX13_isAhead_147
      refine wq_icmp_ne 119 dX13_isAhead_74 (by decide) rfl rfl (fun c10 => ?_) (fun c10 => ?_)
      · refine wq_aload_n dX13_isAhead_77 0 rfl rfl ?_
        refine g_26_8 ln_RX13_31 dX13_isAhead_78 ?_
        refine wq_iload_n dX13_isAhead_81 1 rfl rfl ?_
        refine wq_bipush dX13_isAhead_82 (by decide) ?_
        refine wq_idiv dX13_isAhead_84 (by decide) ?_
        refine wq_grd (fun g6 => ?_)
        refine wq_iald (k := 27) (i := 5) rfl (by decide) rfl rfl (m := 66) g6 (Nat.le_of_ble_eq_true rfl) dX13_isAhead_85 ?_
        refine wq_aload_n dX13_isAhead_86 0 rfl rfl ?_
        refine g_26_8 ln_RX13_31 dX13_isAhead_87 ?_
        refine wq_iload_n dX13_isAhead_90 1 rfl rfl ?_
        refine wq_bipush dX13_isAhead_91 (by decide) ?_
        refine wq_irem dX13_isAhead_93 (by decide) ?_
        refine wq_grd (fun g7 => ?_)
        refine wq_iald (k := 27) (i := 5) rfl (by decide) rfl rfl (m := 66) g7 (Nat.le_of_ble_eq_true rfl) dX13_isAhead_94 ?_
        refine wq_iadd dX13_isAhead_95 ?_
        refine wq_aload_n dX13_isAhead_96 0 rfl rfl ?_
        refine g_26_8 ln_RX13_31 dX13_isAhead_97 ?_
        refine wq_iload_n dX13_isAhead_100 2 rfl rfl ?_
        refine wq_bipush dX13_isAhead_101 (by decide) ?_
        refine wq_idiv dX13_isAhead_103 (by decide) ?_
        refine wq_grd (fun g8 => ?_)
        refine wq_iald (k := 27) (i := 5) rfl (by decide) rfl rfl (m := 66) g8 (Nat.le_of_ble_eq_true rfl) dX13_isAhead_104 ?_
        refine wq_isub dX13_isAhead_105 ?_
        refine wq_aload_n dX13_isAhead_106 0 rfl rfl ?_
        refine g_26_8 ln_RX13_31 dX13_isAhead_107 ?_
        refine wq_iload_n dX13_isAhead_110 2 rfl rfl ?_
        refine wq_bipush dX13_isAhead_111 (by decide) ?_
        refine wq_irem dX13_isAhead_113 (by decide) ?_
        refine wq_grd (fun g9 => ?_)
        refine wq_iald (k := 27) (i := 5) rfl (by decide) rfl rfl (m := 66) g9 (Nat.le_of_ble_eq_true rfl) dX13_isAhead_114 ?_
        refine wq_isub dX13_isAhead_115 ?_
        refine wq_goto 120 dX13_isAhead_116 (by decide) ?_
        exact WQ.loc [1, 2] rfl (hj5 _  _ _)
      · refine wq_iconst dX13_isAhead_119 ?_
        exact WQ.loc [1, 2] rfl (hj5 _  _ _)
  · refine wq_aload_n dX13_isAhead_15 0 rfl rfl ?_
    refine g_26_15 ln_RX13_49 dX13_isAhead_16 ?_
    refine wq_iload_n dX13_isAhead_19 1 rfl rfl ?_
    refine wq_iald (k := 27) (i := 11) rfl (by decide) rfl rfl (m := 4356) g1 (Nat.le_of_ble_eq_true rfl) dX13_isAhead_20 ?_
    refine wq_aload_n dX13_isAhead_21 0 rfl rfl ?_
    refine g_26_15 ln_RX13_49 dX13_isAhead_22 ?_
    refine wq_iload_n dX13_isAhead_25 2 rfl rfl ?_
    refine wq_iald (k := 27) (i := 11) rfl (by decide) rfl rfl (m := 4356) g2 (Nat.le_of_ble_eq_true rfl) dX13_isAhead_26 ?_
    refine wq_icmp_le 34 dX13_isAhead_27 (by decide) rfl rfl (fun c21 => ?_) (fun c21 => ?_)
    · refine wq_iconst dX13_isAhead_30 ?_
      refine wq_goto 35 dX13_isAhead_31 (by decide) ?_
      exact wq_zret rfl (by decide) rfl dX13_isAhead_35
    · refine wq_iconst dX13_isAhead_34 ?_
      exact wq_zret rfl (by decide) rfl dX13_isAhead_35

theorem M_M_laysPairs : MwV yX13_laysPairs cX13_laysPairs 3 (none) 0 := ⟨li_8 140 (by decide +kernel) (by decide +kernel), li_8 139 (by decide +kernel) (by decide +kernel), lw_in 91 (by decide +kernel) (by decide +kernel), li_1 16 (by decide +kernel) (by decide +kernel), by decide +kernel⟩
theorem M_M_freeRule : MwV yX13_freeRule cX13_freeRule 2 (some .int) 0 := ⟨li_8 155 (by decide +kernel) (by decide +kernel), li_8 154 (by decide +kernel) (by decide +kernel), lw_in 94 (by decide +kernel) (by decide +kernel), li_1 16 (by decide +kernel) (by decide +kernel), by decide +kernel⟩
theorem M_M_isWorth : MwV yX13_isWorth cX13_isWorth 3 (some .boolean) 2 := ⟨li_8 159 (by decide +kernel) (by decide +kernel), li_8 158 (by decide +kernel) (by decide +kernel), lw_in 95 (by decide +kernel) (by decide +kernel), li_1 16 (by decide +kernel) (by decide +kernel), by decide +kernel⟩
theorem M_M_isAhead : MwV yX13_isAhead cX13_isAhead 4 (some .boolean) 2 := ⟨li_8 163 (by decide +kernel) (by decide +kernel), li_8 162 (by decide +kernel) (by decide +kernel), lw_in 96 (by decide +kernel) (by decide +kernel), li_1 16 (by decide +kernel) (by decide +kernel), by decide +kernel⟩
theorem ln_RX13_170 : Cond.methodLink RX13 170 yX13_isAhead ∈ lw_good := li_8 160 (by decide +kernel) (by decide +kernel)
theorem ln_RX13_166 : Cond.methodLink RX13 166 yX13_isWorth ∈ lw_good := li_8 156 (by decide +kernel) (by decide +kernel)
theorem ln_RX13_163 : Cond.methodLink RX13 163 yX13_freeRule ∈ lw_good := li_8 152 (by decide +kernel) (by decide +kernel)
theorem ln_RX13_160 : Cond.methodLink RX13 160 yX13_laysPairs ∈ lw_good := li_8 137 (by decide +kernel) (by decide +kernel)
noncomputable def f_M_bestPair_w17 (v1 : Int) (s : Int × Int) (I : Mem) : Option (((Int × Int) ⊕ (Int)) × Mem) :=
if (w32 s.2) < 4356 then
bnd (f_M_isWorth s.2 v1 I) fun x12 J11 =>
if (w32 x12) = 0 then
some (.inl (s.1, (s.2 + 1)), J11)
else
if (w32 s.1) = (-1) then
some (.inl (s.2, (s.2 + 1)), J11)
else
bnd (f_M_isAhead s.2 s.1 J11) fun x15 J14 =>
if (w32 x15) = 0 then
some (.inl (s.1, (s.2 + 1)), J14)
else
some (.inl (s.2, (s.2 + 1)), J14)
else
some (.inr s.1, I)

noncomputable def f_M_bestPair  (I : Mem) : Option ((Int) × Mem) :=
bnd (f_M_laysPairs I) fun _ J2 =>
bnd (f_M_laysLengths J2) fun _ J5 =>
bnd (f_M_freeRule J5) fun x9 J8 =>
bnd (whl (f_M_bestPair_w17 x9) ((-1), 0) J8) fun r37 J38 =>
some (r37, J38)
set_option maxRecDepth 20000 in
theorem R_M_bestPair (Z : ZT)  (I : Mem) (r : Int) (J : Mem) (hf : f_M_bestPair I = some (r, J)) : Runs Z yX13_bestPair cX13_bestPair 4 (some .int) 4 [vr Z 26 0] I (some (vi r), J) := by
  refine Runs.of (rv := fun x => some (vi x)) (by decide +kernel) (Nat.le_of_ble_eq_true rfl) hf (fun gr => ?_)
  unfold f_M_bestPair
  refine WQ.loc [0] (lv' := [(0, vr Z 26 0)]) rfl ?_
  refine wq_aload_n dX13_bestPair_0 0 rfl rfl ?_
  refine wq_cVv M_M_laysPairs (R_M_laysPairs Z _) ob_26 rfl rfl (by decide) (by decide) (Nat.le_of_ble_eq_true rfl) ln_RX13_160 dX13_bestPair_1 (fun gr1 _ J2 => ?_)
  refine wq_aload_n dX13_bestPair_4 0 rfl rfl ?_
  refine wq_cVv M_M_laysLengths (R_M_laysLengths Z _) ob_26 rfl rfl (by decide) (by decide) (Nat.le_of_ble_eq_true rfl) ln_RX13_137 dX13_bestPair_5 (fun gr4 _ J5 => ?_)
  refine wq_aload_n dX13_bestPair_8 0 rfl rfl ?_
  refine wq_cVi M_M_freeRule (R_M_freeRule Z _) ob_26 rfl rfl (by decide) (by decide) (Nat.le_of_ble_eq_true rfl) ln_RX13_163 dX13_bestPair_9 (fun gr7 x9 J8 => ?_)
  refine wq_istore_n (lv' := [(1, vi x9), (0, vr Z 26 0)]) dX13_bestPair_12 rfl (by decide) rfl ?_
  refine wq_iconst dX13_bestPair_13 ?_
  refine wq_istore_n (lv' := [(2, vi (-1)), (1, vi x9), (0, vr Z 26 0)]) dX13_bestPair_14 rfl (by decide) rfl ?_
  refine wq_iconst dX13_bestPair_15 ?_
  refine wq_istore_n (lv' := [(3, vi 0), (2, vi (-1)), (1, vi x9), (0, vr Z 26 0)]) dX13_bestPair_16 rfl (by decide) rfl ?_
  refine WQ.loc [3, 2, 1, 0] (lv' := [(0, vr Z 26 0), (1, vi x9), (2, vi (-1)), (3, vi 0)]) rfl ?_
  refine wq_loopS (fun s26 => [(0, vr Z 26 0), (1, vi x9), (2, vi s26.1), (3, vi s26.2)]) 55 (fun r37 => [(2, vi r37)]) (fun κ20 bk21 ex22 gr25 s26 J24 => ?_) (fun gr39 r37 J38 => ?_) gr7 _ rfl
  · unfold f_M_bestPair_w17
    refine wq_iload_n dX13_bestPair_17 3 rfl rfl ?_
    refine wq_sipush dX13_bestPair_18 (by decide) ?_
    refine wq_icmp_ge 55 dX13_bestPair_21 (by decide) rfl rfl (fun c36 => ?_) (fun c36 => ?_)
    · refine wq_aload_n dX13_bestPair_24 0 rfl rfl ?_
      refine wq_iload_n dX13_bestPair_25 3 rfl rfl ?_
      refine wq_iload_n dX13_bestPair_26 1 rfl rfl ?_
      refine wq_cVi M_M_isWorth (R_M_isWorth Z s26.2 x9 _) ob_26 rfl rfl (by decide) (by decide) (Nat.le_of_ble_eq_true rfl) ln_RX13_166 dX13_bestPair_27 (fun gr27 x29 J28 => ?_)
      refine wq_if_eq 49 dX13_bestPair_30 (by decide) rfl (fun c35 => ?_) (fun c35 => ?_)
      · refine wq_iinc (lv' := [(3, vi (s26.2 + 1)), (0, vr Z 26 0), (1, vi x9), (2, vi s26.1)]) dX13_bestPair_49 3 rfl (by decide) rfl ?_
        refine wq_goto 17 dX13_bestPair_52 (by decide) ?_
        exact WQ.loc [1, 2, 3, 0] rfl (bk21 _ _ _)
      · refine wq_iload_n dX13_bestPair_33 2 rfl rfl ?_
        refine wq_iconst dX13_bestPair_34 ?_
        refine wq_icmp_eq 47 dX13_bestPair_35 (by decide) rfl rfl (fun c34 => ?_) (fun c34 => ?_)
        · refine wq_iload_n dX13_bestPair_47 3 rfl rfl ?_
          refine wq_istore_n (lv' := [(2, vi s26.2), (0, vr Z 26 0), (1, vi x9), (3, vi s26.2)]) dX13_bestPair_48 rfl (by decide) rfl ?_
          refine wq_iinc (lv' := [(3, vi (s26.2 + 1)), (2, vi s26.2), (0, vr Z 26 0), (1, vi x9)]) dX13_bestPair_49 3 rfl (by decide) rfl ?_
          refine wq_goto 17 dX13_bestPair_52 (by decide) ?_
          exact WQ.loc [2, 3, 1, 0] rfl (bk21 _ _ _)
        · refine wq_aload_n dX13_bestPair_38 0 rfl rfl ?_
          refine wq_iload_n dX13_bestPair_39 3 rfl rfl ?_
          refine wq_iload_n dX13_bestPair_40 2 rfl rfl ?_
          refine wq_cVi M_M_isAhead (R_M_isAhead Z s26.2 s26.1 _) ob_26 rfl rfl (by decide) (by decide) (Nat.le_of_ble_eq_true rfl) ln_RX13_170 dX13_bestPair_41 (fun gr30 x32 J31 => ?_)
          refine wq_if_eq 49 dX13_bestPair_44 (by decide) rfl (fun c33 => ?_) (fun c33 => ?_)
          · refine wq_iinc (lv' := [(3, vi (s26.2 + 1)), (0, vr Z 26 0), (1, vi x9), (2, vi s26.1)]) dX13_bestPair_49 3 rfl (by decide) rfl ?_
            refine wq_goto 17 dX13_bestPair_52 (by decide) ?_
            exact WQ.loc [1, 2, 3, 0] rfl (bk21 _ _ _)
          · refine wq_iload_n dX13_bestPair_47 3 rfl rfl ?_
            refine wq_istore_n (lv' := [(2, vi s26.2), (0, vr Z 26 0), (1, vi x9), (3, vi s26.2)]) dX13_bestPair_48 rfl (by decide) rfl ?_
            refine wq_iinc (lv' := [(3, vi (s26.2 + 1)), (2, vi s26.2), (0, vr Z 26 0), (1, vi x9)]) dX13_bestPair_49 3 rfl (by decide) rfl ?_
            refine wq_goto 17 dX13_bestPair_52 (by decide) ?_
            exact WQ.loc [2, 3, 1, 0] rfl (bk21 _ _ _)
    · exact WQ.loc [2] rfl (ex22 _ _ _)
  · refine wq_iload_n dX13_bestPair_55 0 rfl rfl ?_
    exact wq_iret rfl rfl dX13_bestPair_56

noncomputable def f_M_worthy_j49 (v1 : Int) (v2 : Int) (v4 : Int) (b0 : Int) (e0 : Int) (I : Mem) : Option (((Int × Int) ⊕ (Int)) × Mem) :=
bnd (f_M_one e0 I) fun x15 J14 =>
some (.inl ((b0 + x15), (v4 + 1)), J14)

noncomputable def f_M_worthy_j48 (v1 : Int) (v2 : Int) (v4 : Int) (b0 : Int)  (I : Mem) : Option (((Int × Int) ⊕ (Int)) × Mem) :=
f_M_worthy_j49 v1 v2 v4 b0 0 I

noncomputable def f_M_worthy_w10 (v1 : Int) (v2 : Int) (s : Int × Int) (I : Mem) : Option (((Int × Int) ⊕ (Int)) × Mem) :=
if (w32 s.2) < 4356 then
bnd (f_M_isWorth s.2 v2 I) fun x6 J5 =>
if (w32 x6) = 0 then
f_M_worthy_j48 v1 v2 s.2 s.1 J5
else
if (w32 v1) = 0 then
f_M_worthy_j49 v1 v2 s.2 s.1 1 J5
else
if 0 ≤ (w32 s.2) ∧ (w32 s.2) < 4356 then
if (w32 (J5 27 11 (w32 s.2).toNat)) = (w32 v1) then
f_M_worthy_j49 v1 v2 s.2 s.1 1 J5
else
f_M_worthy_j48 v1 v2 s.2 s.1 J5
else none
else
some (.inr s.1, I)

noncomputable def f_M_worthy (a1 : Int) (I : Mem) : Option ((Int) × Mem) :=
bnd (f_M_freeRule I) fun x3 J2 =>
bnd (whl (f_M_worthy_w10 a1 x3) (0, 0) J2) fun r48 J49 =>
some (r48, J49)
set_option maxRecDepth 20000 in
theorem R_M_worthy (Z : ZT) (a1 : Int) (I : Mem) (r : Int) (J : Mem) (hf : f_M_worthy a1 I = some (r, J)) : Runs Z yX13_worthy cX13_worthy 5 (some .int) 4 [vr Z 26 0, vi a1] I (some (vi r), J) := by
  refine Runs.of (rv := fun x => some (vi x)) (by decide +kernel) (Nat.le_of_ble_eq_true rfl) hf (fun gr => ?_)
  unfold f_M_worthy
  refine WQ.loc [0, 1] (lv' := [(0, vr Z 26 0), (1, vi a1)]) rfl ?_
  refine wq_aload_n dX13_worthy_0 0 rfl rfl ?_
  refine wq_cVi M_M_freeRule (R_M_freeRule Z _) ob_26 rfl rfl (by decide) (by decide) (Nat.le_of_ble_eq_true rfl) ln_RX13_163 dX13_worthy_1 (fun gr1 x3 J2 => ?_)
  refine wq_istore_n (lv' := [(2, vi x3), (0, vr Z 26 0), (1, vi a1)]) dX13_worthy_4 rfl (by decide) rfl ?_
  refine wq_iconst dX13_worthy_5 ?_
  refine wq_istore_n (lv' := [(3, vi 0), (2, vi x3), (0, vr Z 26 0), (1, vi a1)]) dX13_worthy_6 rfl (by decide) rfl ?_
  refine wq_iconst dX13_worthy_7 ?_
  refine wq_istore (lv' := [(4, vi 0), (3, vi 0), (2, vi x3), (0, vr Z 26 0), (1, vi a1)]) dX13_worthy_8 (by decide) rfl ?_
  refine WQ.loc [3, 4, 2, 1, 0] (lv' := [(0, vr Z 26 0), (1, vi a1), (2, vi x3), (3, vi 0), (4, vi 0)]) rfl ?_
  refine wq_loopS (fun s30 => [(0, vr Z 26 0), (1, vi a1), (2, vi x3), (3, vi s30.1), (4, vi s30.2)]) 60 (fun r48 => [(3, vi r48)]) (fun κ24 bk25 ex26 gr29 s30 J28 => ?_) (fun gr50 r48 J49 => ?_) gr1 _ rfl
  · unfold f_M_worthy_w10
    refine wq_iload dX13_worthy_10 4 rfl ?_
    refine wq_sipush dX13_worthy_12 (by decide) ?_
    refine wq_icmp_ge 60 dX13_worthy_15 (by decide) rfl rfl (fun c47 => ?_) (fun c47 => ?_)
    · refine wq_iload_n dX13_worthy_18 3 rfl rfl ?_
      refine wq_aload_n dX13_worthy_19 0 rfl rfl ?_
      refine wq_iload dX13_worthy_20 4 rfl ?_
      refine wq_iload_n dX13_worthy_22 2 rfl rfl ?_
      refine wq_cVi M_M_isWorth (R_M_isWorth Z s30.2 x3 _) ob_26 rfl rfl (by decide) (by decide) (Nat.le_of_ble_eq_true rfl) ln_RX13_166 dX13_worthy_23 (fun gr31 x33 J32 => ?_)
      have hj34 : ∀ (gr41 : Nat → Nat)  (hj34e0 : Int) (J40 : Mem), WQ Z (yX13_worthy, cX13_worthy, 5, some .int, 4) I gr41 49 [(0, vr Z 26 0), (1, vi a1), (2, vi x3), (4, vi s30.2)] [vi hj34e0, vi s30.1] J40 (f_M_worthy_j49 a1 x3 s30.2 s30.1 hj34e0 J40) κ24 := by
        intro gr41 hj34e0 J40
        unfold f_M_worthy_j49
        refine wq_cSi M_M_one (R_M_one Z hj34e0 _) rfl rfl rfl (by decide) (by decide) (Nat.le_of_ble_eq_true rfl) ln_RX13_115 dX13_worthy_49 (fun gr42 x44 J43 => ?_)
        refine wq_iadd dX13_worthy_52 ?_
        refine wq_istore_n (lv' := [(3, vi (s30.1 + x44)), (0, vr Z 26 0), (1, vi a1), (2, vi x3), (4, vi s30.2)]) dX13_worthy_53 rfl (by decide) rfl ?_
        refine wq_iinc (lv' := [(4, vi (s30.2 + 1)), (3, vi (s30.1 + x44)), (0, vr Z 26 0), (1, vi a1), (2, vi x3)]) dX13_worthy_54 4 rfl (by decide) rfl ?_
        refine wq_goto 10 dX13_worthy_57 (by decide) ?_
        exact WQ.loc [2, 3, 4, 1, 0] rfl (bk25 _ _ _)
      have hj35 : ∀ (gr46 : Nat → Nat)   (J45 : Mem), WQ Z (yX13_worthy, cX13_worthy, 5, some .int, 4) I gr46 48 [(0, vr Z 26 0), (1, vi a1), (2, vi x3), (4, vi s30.2)] [vi s30.1] J45 (f_M_worthy_j48 a1 x3 s30.2 s30.1 J45) κ24 := by
        intro gr46 J45
        unfold f_M_worthy_j48
        refine wq_iconst dX13_worthy_48 ?_
        exact WQ.loc [0, 1, 2, 3] rfl (hj34 _  _ _)
      refine wq_if_eq 48 dX13_worthy_26 (by decide) rfl (fun c39 => ?_) (fun c39 => ?_)
      · exact WQ.loc [0, 1, 2, 4] rfl (hj35 _   _)
      · refine wq_iload_n dX13_worthy_29 1 rfl rfl ?_
        refine wq_if_eq 44 dX13_worthy_30 (by decide) rfl (fun c38 => ?_) (fun c38 => ?_)
        · refine wq_iconst dX13_worthy_44 ?_
          refine wq_goto 49 dX13_worthy_45 (by decide) ?_
          exact WQ.loc [0, 1, 2, 4] rfl (hj34 _  _ _)
        · refine wq_aload_n dX13_worthy_33 0 rfl rfl ?_
          refine g_26_15 ln_RX13_49 dX13_worthy_34 ?_
          refine wq_iload dX13_worthy_37 4 rfl ?_
          refine wq_grd (fun g36 => ?_)
          refine wq_iald (k := 27) (i := 11) rfl (by decide) rfl rfl (m := 4356) g36 (Nat.le_of_ble_eq_true rfl) dX13_worthy_39 ?_
          refine wq_iload_n dX13_worthy_40 1 rfl rfl ?_
          refine wq_icmp_ne 48 dX13_worthy_41 (by decide) rfl rfl (fun c37 => ?_) (fun c37 => ?_)
          · refine wq_iconst dX13_worthy_44 ?_
            refine wq_goto 49 dX13_worthy_45 (by decide) ?_
            exact WQ.loc [0, 1, 2, 4] rfl (hj34 _  _ _)
          · exact WQ.loc [0, 1, 2, 4] rfl (hj35 _   _)
    · exact WQ.loc [3] rfl (ex26 _ _ _)
  · refine wq_iload_n dX13_worthy_60 0 rfl rfl ?_
    exact wq_iret rfl rfl dX13_worthy_61

noncomputable def f_M_joins_j83 (v1 : Int) (v2 : Int) (v3 : Int) (v4 : Int) (v5 : Int) (v6 : Int) (v7 : Int) (v8 : Int) (b1 : Int) (b2 : Int) (e0 : Int) (I : Mem) : Option (((Int × Int × Int) ⊕ (Int × Int)) × Mem) :=
bnd (f_M_puts b1 b2 e0 I) fun _ J24 =>
bnd (f_M_one v8 J24) fun x28 J27 =>
some (.inl ((v5 + x28), (v6 + 1), (v7 + (if (w32 v8) = 0 then 1 else 2))), J27)

noncomputable def f_M_joins_j60 (v1 : Int) (v2 : Int) (v3 : Int) (v4 : Int) (v5 : Int) (v6 : Int) (v7 : Int)  (e0 : Int) (I : Mem) : Option (((Int × Int × Int) ⊕ (Int × Int)) × Mem) :=
if (w32 e0) = 0 then
bnd (f_M_at v1 v7 I) fun x21 J20 =>
f_M_joins_j83 v1 v2 v3 v4 v5 v6 v7 e0 v1 v6 x21 J20
else
f_M_joins_j83 v1 v2 v3 v4 v5 v6 v7 e0 v1 v6 v4 I

noncomputable def f_M_joins_j59 (v1 : Int) (v2 : Int) (v3 : Int) (v4 : Int) (v5 : Int) (v6 : Int) (v7 : Int)   (I : Mem) : Option (((Int × Int × Int) ⊕ (Int × Int)) × Mem) :=
f_M_joins_j60 v1 v2 v3 v4 v5 v6 v7 0 I

noncomputable def f_M_joins_w9 (v1 : Int) (v2 : Int) (v3 : Int) (v4 : Int) (s : Int × Int × Int) (I : Mem) : Option (((Int × Int × Int) ⊕ (Int × Int)) × Mem) :=
bnd (f_M_many v1 I) fun x3 J2 =>
if (w32 s.2.2) < (w32 x3) then
bnd (f_M_many v1 J2) fun x6 J5 =>
if (w32 (s.2.2 + 1)) < (w32 x6) then
bnd (f_M_at v1 s.2.2 J5) fun x11 J10 =>
if (w32 x11) = (w32 v2) then
bnd (f_M_at v1 (s.2.2 + 1) J10) fun x14 J13 =>
if (w32 x14) = (w32 v3) then
f_M_joins_j60 v1 v2 v3 v4 s.1 s.2.1 s.2.2 1 J13
else
f_M_joins_j59 v1 v2 v3 v4 s.1 s.2.1 s.2.2 J13
else
f_M_joins_j59 v1 v2 v3 v4 s.1 s.2.1 s.2.2 J10
else
f_M_joins_j59 v1 v2 v3 v4 s.1 s.2.1 s.2.2 J5
else
some (.inr (s.1, s.2.1), J2)

noncomputable def f_M_joins (a1 : Int) (a2 : Int) (a3 : Int) (a4 : Int) (I : Mem) : Option ((Int) × Mem) :=
bnd (whl (f_M_joins_w9 a1 a2 a3 a4) (0, 0, 0) I) fun r105 J106 =>
if 0 ≤ (w32 (16 + a1)) ∧ (w32 (16 + a1)) < 16860 then
ltI (sI J106 27 0 (w32 (16 + a1)).toNat r105.2) fun J109 =>
some (r105.1, J109)
else none
set_option maxRecDepth 20000 in
theorem R_M_joins (Z : ZT) (a1 : Int) (a2 : Int) (a3 : Int) (a4 : Int) (I : Mem) (r : Int) (J : Mem) (hf : f_M_joins a1 a2 a3 a4 I = some (r, J)) : Runs Z yX13_joins cX13_joins 9 (some .int) 2 [vr Z 26 0, vi a1, vi a2, vi a3, vi a4] I (some (vi r), J) := by
  refine Runs.of (rv := fun x => some (vi x)) (by decide +kernel) (Nat.le_of_ble_eq_true rfl) hf (fun gr => ?_)
  unfold f_M_joins
  refine WQ.loc [0, 1, 2, 3, 4] (lv' := [(0, vr Z 26 0), (1, vi a1), (2, vi a2), (3, vi a3), (4, vi a4)]) rfl ?_
  refine wq_iconst dX13_joins_0 ?_
  refine wq_istore (lv' := [(5, vi 0), (0, vr Z 26 0), (1, vi a1), (2, vi a2), (3, vi a3), (4, vi a4)]) dX13_joins_1 (by decide) rfl ?_
  refine wq_iconst dX13_joins_3 ?_
  refine wq_istore (lv' := [(6, vi 0), (5, vi 0), (0, vr Z 26 0), (1, vi a1), (2, vi a2), (3, vi a3), (4, vi a4)]) dX13_joins_4 (by decide) rfl ?_
  refine wq_iconst dX13_joins_6 ?_
  refine wq_istore (lv' := [(7, vi 0), (6, vi 0), (5, vi 0), (0, vr Z 26 0), (1, vi a1), (2, vi a2), (3, vi a3), (4, vi a4)]) dX13_joins_7 (by decide) rfl ?_
  refine WQ.loc [3, 4, 5, 6, 7, 2, 1, 0] (lv' := [(0, vr Z 26 0), (1, vi a1), (2, vi a2), (3, vi a3), (4, vi a4), (5, vi 0), (6, vi 0), (7, vi 0)]) rfl ?_
  refine wq_loopS (fun s67 => [(0, vr Z 26 0), (1, vi a1), (2, vi a2), (3, vi a3), (4, vi a4), (5, vi s67.1), (6, vi s67.2.1), (7, vi s67.2.2)]) 117 (fun r105 => [(0, vr Z 26 0), (1, vi a1), (5, vi r105.1), (6, vi r105.2)]) (fun κ61 bk62 ex63 gr66 s67 J65 => ?_) (fun gr107 r105 J106 => ?_) gr _ rfl
  · unfold f_M_joins_w9
    refine wq_iload dX13_joins_9 7 rfl ?_
    refine wq_aload_n dX13_joins_11 0 rfl rfl ?_
    refine wq_iload_n dX13_joins_12 1 rfl rfl ?_
    refine wq_cVi M_M_many (R_M_many Z a1 _) ob_26 rfl rfl (by decide) (by decide) (Nat.le_of_ble_eq_true rfl) ln_RX13_103 dX13_joins_13 (fun gr68 x70 J69 => ?_)
    refine wq_icmp_ge 117 dX13_joins_16 (by decide) rfl rfl (fun c104 => ?_) (fun c104 => ?_)
    · refine wq_iload dX13_joins_19 7 rfl ?_
      refine wq_iconst dX13_joins_21 ?_
      refine wq_iadd dX13_joins_22 ?_
      refine wq_aload_n dX13_joins_23 0 rfl rfl ?_
      refine wq_iload_n dX13_joins_24 1 rfl rfl ?_
      refine wq_cVi M_M_many (R_M_many Z a1 _) ob_26 rfl rfl (by decide) (by decide) (Nat.le_of_ble_eq_true rfl) ln_RX13_103 dX13_joins_25 (fun gr71 x73 J72 => ?_)
      have hj74 : ∀ (gr86 : Nat → Nat)  (hj74e0 : Int) (J85 : Mem), WQ Z (yX13_joins, cX13_joins, 9, some .int, 2) I gr86 60 [(0, vr Z 26 0), (1, vi a1), (2, vi a2), (3, vi a3), (4, vi a4), (5, vi s67.1), (6, vi s67.2.1), (7, vi s67.2.2)] [vi hj74e0] J85 (f_M_joins_j60 a1 a2 a3 a4 s67.1 s67.2.1 s67.2.2 hj74e0 J85) κ61 := by
        intro gr86 hj74e0 J85
        unfold f_M_joins_j60
        refine wq_istore (lv' := [(8, vi hj74e0), (0, vr Z 26 0), (1, vi a1), (2, vi a2), (3, vi a3), (4, vi a4), (5, vi s67.1), (6, vi s67.2.1), (7, vi s67.2.2)]) dX13_joins_60 (by decide) rfl ?_
        refine wq_aload_n dX13_joins_62 1 rfl rfl ?_
        refine wq_iload_n dX13_joins_63 2 rfl rfl ?_
        refine wq_iload dX13_joins_64 7 rfl ?_
        refine wq_iload dX13_joins_66 0 rfl ?_
        have hj87 : ∀ (gr93 : Nat → Nat)  (hj87e0 : Int) (J92 : Mem), WQ Z (yX13_joins, cX13_joins, 9, some .int, 2) I gr93 83 [(0, vr Z 26 0), (1, vi a1), (2, vi a2), (3, vi a3), (4, vi a4), (5, vi s67.1), (6, vi s67.2.1), (7, vi s67.2.2), (8, vi hj74e0)] [vi hj87e0, vi s67.2.1, vi a1, vr Z 26 0] J92 (f_M_joins_j83 a1 a2 a3 a4 s67.1 s67.2.1 s67.2.2 hj74e0 a1 s67.2.1 hj87e0 J92) κ61 := by
          intro gr93 hj87e0 J92
          unfold f_M_joins_j83
          refine wq_cVv M_M_puts (R_M_puts Z a1 s67.2.1 hj87e0 _) ob_26 rfl rfl (by decide) (by decide) (Nat.le_of_ble_eq_true rfl) ln_RX13_107 dX13_joins_83 (fun gr94 _ J95 => ?_)
          refine wq_iinc (lv' := [(6, vi (s67.2.1 + 1)), (0, vr Z 26 0), (1, vi a1), (2, vi a2), (3, vi a3), (4, vi a4), (5, vi s67.1), (7, vi s67.2.2), (8, vi hj74e0)]) dX13_joins_86 6 rfl (by decide) rfl ?_
          refine wq_iload dX13_joins_89 7 rfl ?_
          refine wq_iload dX13_joins_91 8 rfl ?_
          refine WQ.via 101 [vi (if (w32 hj74e0) = 0 then 1 else 2), vi s67.2.2] (by
              refine wq_iadd dX13_joins_101 ?_
              refine wq_istore (lv' := [(7, vi (s67.2.2 + (if (w32 hj74e0) = 0 then 1 else 2))), (6, vi (s67.2.1 + 1)), (0, vr Z 26 0), (1, vi a1), (2, vi a2), (3, vi a3), (4, vi a4), (5, vi s67.1), (8, vi hj74e0)]) dX13_joins_102 (by decide) rfl ?_
              refine wq_iload dX13_joins_104 7 rfl ?_
              refine wq_iload dX13_joins_106 8 rfl ?_
              refine wq_cSi M_M_one (R_M_one Z hj74e0 _) rfl rfl rfl (by decide) (by decide) (Nat.le_of_ble_eq_true rfl) ln_RX13_115 dX13_joins_108 (fun gr97 x99 J98 => ?_)
              refine wq_iadd dX13_joins_111 ?_
              refine wq_istore (lv' := [(5, vi (s67.1 + x99)), (7, vi (s67.2.2 + (if (w32 hj74e0) = 0 then 1 else 2))), (6, vi (s67.2.1 + 1)), (0, vr Z 26 0), (1, vi a1), (2, vi a2), (3, vi a3), (4, vi a4), (8, vi hj74e0)]) dX13_joins_112 (by decide) rfl ?_
              refine wq_goto 9 dX13_joins_114 (by decide) ?_
              exact WQ.loc [3, 4, 5, 6, 7, 0, 2, 1] rfl (bk62 _ _ _)) (fun hj100 => ?_)
          refine WQ.both ((w32 hj74e0) = 0) ?_
          refine wq_if_eq 100 dX13_joins_93 (by decide) rfl (fun c101 => ?_) (fun c101 => ?_)
          · refine wq_iconst dX13_joins_100 ?_
            exact WQ.top (if_pos c101) hj100
          · refine wq_iconst dX13_joins_96 ?_
            refine wq_goto 101 dX13_joins_97 (by decide) ?_
            exact WQ.top (if_neg c101) hj100
        refine wq_if_eq 76 dX13_joins_68 (by decide) rfl (fun c91 => ?_) (fun c91 => ?_)
        · refine wq_aload_n dX13_joins_76 1 rfl rfl ?_
          refine wq_iload_n dX13_joins_77 2 rfl rfl ?_
          refine wq_iload dX13_joins_78 8 rfl ?_
          refine wq_cVi M_M_at (R_M_at Z a1 s67.2.2 _) ob_26 rfl rfl (by decide) (by decide) (Nat.le_of_ble_eq_true rfl) ln_RX13_119 dX13_joins_80 (fun gr88 x90 J89 => ?_)
          exact WQ.loc [1, 2, 3, 4, 5, 6, 7, 8, 0] rfl (hj87 _  _ _)
        · refine wq_iload dX13_joins_71 5 rfl ?_
          refine wq_goto 83 dX13_joins_73 (by decide) ?_
          exact WQ.loc [1, 2, 3, 4, 5, 6, 7, 8, 0] rfl (hj87 _  _ _)
      have hj75 : ∀ (gr103 : Nat → Nat)   (J102 : Mem), WQ Z (yX13_joins, cX13_joins, 9, some .int, 2) I gr103 59 [(0, vr Z 26 0), (1, vi a1), (2, vi a2), (3, vi a3), (4, vi a4), (5, vi s67.1), (6, vi s67.2.1), (7, vi s67.2.2)] [] J102 (f_M_joins_j59 a1 a2 a3 a4 s67.1 s67.2.1 s67.2.2 J102) κ61 := by
        intro gr103 J102
        unfold f_M_joins_j59
        refine wq_iconst dX13_joins_59 ?_
        exact WQ.loc [0, 1, 2, 3, 4, 5, 6, 7] rfl (hj74 _  _ _)
      refine wq_icmp_ge 59 dX13_joins_28 (by decide) rfl rfl (fun c84 => ?_) (fun c84 => ?_)
      · refine wq_aload_n dX13_joins_31 0 rfl rfl ?_
        refine wq_iload_n dX13_joins_32 1 rfl rfl ?_
        refine wq_iload dX13_joins_33 7 rfl ?_
        refine wq_cVi M_M_at (R_M_at Z a1 s67.2.2 _) ob_26 rfl rfl (by decide) (by decide) (Nat.le_of_ble_eq_true rfl) ln_RX13_119 dX13_joins_35 (fun gr76 x78 J77 => ?_)
        refine wq_iload_n dX13_joins_38 2 rfl rfl ?_
        refine wq_icmp_ne 59 dX13_joins_39 (by decide) rfl rfl (fun c83 => ?_) (fun c83 => ?_)
        · refine wq_aload_n dX13_joins_42 0 rfl rfl ?_
          refine wq_iload_n dX13_joins_43 1 rfl rfl ?_
          refine wq_iload dX13_joins_44 7 rfl ?_
          refine wq_iconst dX13_joins_46 ?_
          refine wq_iadd dX13_joins_47 ?_
          refine wq_cVi M_M_at (R_M_at Z a1 (s67.2.2 + 1) _) ob_26 rfl rfl (by decide) (by decide) (Nat.le_of_ble_eq_true rfl) ln_RX13_119 dX13_joins_48 (fun gr79 x81 J80 => ?_)
          refine wq_iload_n dX13_joins_51 3 rfl rfl ?_
          refine wq_icmp_ne 59 dX13_joins_52 (by decide) rfl rfl (fun c82 => ?_) (fun c82 => ?_)
          · refine wq_iconst dX13_joins_55 ?_
            refine wq_goto 60 dX13_joins_56 (by decide) ?_
            exact WQ.loc [0, 1, 2, 3, 4, 5, 6, 7] rfl (hj74 _  _ _)
          · exact WQ.loc [0, 1, 2, 3, 4, 5, 6, 7] rfl (hj75 _   _)
        · exact WQ.loc [0, 1, 2, 3, 4, 5, 6, 7] rfl (hj75 _   _)
      · exact WQ.loc [0, 1, 2, 3, 4, 5, 6, 7] rfl (hj75 _   _)
    · exact WQ.loc [0, 1, 5, 6] rfl (ex63 _ _ _)
  · refine wq_aload_n dX13_joins_117 0 rfl rfl ?_
    refine g_26_0 ln_RX13_9 dX13_joins_118 ?_
    refine wq_bipush dX13_joins_121 (by decide) ?_
    refine wq_iload_n dX13_joins_123 1 rfl rfl ?_
    refine wq_iadd dX13_joins_124 ?_
    refine wq_iload dX13_joins_125 3 rfl ?_
    refine wq_grd (fun g108 => ?_)
    refine wq_iast (k := 27) (i := 0) (fun _ _ => rfl) (by decide) rfl rfl (m := 16860) g108 (Nat.le_of_ble_eq_true rfl) (by decide) (by decide) (by decide) dX13_joins_127 (fun J109 => ?_)
    refine wq_iload dX13_joins_128 2 rfl ?_
    exact wq_iret rfl rfl dX13_joins_130

theorem M_M_joins : MwV yX13_joins cX13_joins 9 (some .int) 4 := ⟨li_8 171 (by decide +kernel) (by decide +kernel), li_8 170 (by decide +kernel) (by decide +kernel), lw_in 98 (by decide +kernel) (by decide +kernel), li_1 16 (by decide +kernel) (by decide +kernel), by decide +kernel⟩
theorem M_M_counts : MwV yX13_counts cX13_counts 3 (none) 2 := ⟨li_8 175 (by decide +kernel) (by decide +kernel), li_8 174 (by decide +kernel) (by decide +kernel), lw_in 99 (by decide +kernel) (by decide +kernel), li_1 16 (by decide +kernel) (by decide +kernel), by decide +kernel⟩
theorem ln_RX13_177 : Cond.methodLink RX13 177 yX13_counts ∈ lw_good := li_8 172 (by decide +kernel) (by decide +kernel)
theorem ln_RX13_173 : Cond.methodLink RX13 173 yX13_joins ∈ lw_good := li_8 168 (by decide +kernel) (by decide +kernel)
theorem M_M_adds : MwV yX13_adds cX13_adds 3 (none) 2 := ⟨li_7 22 (by decide +kernel) (by decide +kernel), li_7 21 (by decide +kernel) (by decide +kernel), lw_in 48 (by decide +kernel) (by decide +kernel), li_1 16 (by decide +kernel) (by decide +kernel), by decide +kernel⟩
theorem ln_RX13_93 : Cond.methodLink RX13 93 yX13_adds ∈ lw_good := li_7 19 (by decide +kernel) (by decide +kernel)
noncomputable def f_M_makes_j79 (v1 : Int) (v2 : Int) (v3 : Int) (v4 : Int) (v5 : Int)   (I : Mem) : Option (((Int) ⊕ (Unit)) × Mem) :=
bnd (f_M_joins v5 v2 v3 (26 + v4) I) fun x22 J21 =>
bnd (f_M_counts 5 x22 J21) fun _ J24 =>
some (.inl (v5 + 1), J24)

noncomputable def f_M_makes_w38 (v1 : Int) (v2 : Int) (v3 : Int) (v4 : Int) (s : Int) (I : Mem) : Option (((Int) ⊕ (Unit)) × Mem) :=
if (w32 s) < 41 then
bnd (f_M_isAlone s I) fun x9 J8 =>
if (w32 x9) = 0 then
f_M_makes_j79 v1 v2 v3 v4 s J8
else
bnd (f_M_at s 0 J8) fun x13 J12 =>
if (w32 x13) = (w32 v2) then
bnd (f_M_at s 1 J12) fun x16 J15 =>
if (w32 x16) = (w32 v3) then
some (.inl (s + 1), J15)
else
f_M_makes_j79 v1 v2 v3 v4 s J15
else
f_M_makes_j79 v1 v2 v3 v4 s J12
else
some (.inr (), I)

noncomputable def f_M_makes_j33 (v1 : Int) (v2 : Int) (v3 : Int)  (e0 : Int) (I : Mem) : Option ((Int) × Mem) :=
bnd (whl (f_M_makes_w38 v1 v2 v3 e0) 0 I) fun r64 J65 =>
if 0 ≤ (w32 v1) ∧ (w32 v1) < 4356 then
if (w32 (J65 27 13 (w32 v1).toNat)) = (-1) then
bnd (f_M_adds (e0 + 1) v2 J65) fun _ J69 =>
bnd (f_M_adds (e0 + 1) v3 J69) fun _ J72 =>
bnd (f_M_counts 1 1 J72) fun _ J75 =>
some (e0, J75)
else
some (e0, J65)
else none

noncomputable def f_M_makes (a1 : Int) (I : Mem) : Option ((Int) × Mem) :=
if 0 ≤ (w32 a1) ∧ (w32 a1) < 4356 then
if (w32 (I 27 13 (w32 a1).toNat)) = (-1) then
bnd (f_M_freeRule I) fun x5 J4 =>
f_M_makes_j33 a1 (idv a1 66) (irm a1 66) x5 J4
else
f_M_makes_j33 a1 (idv a1 66) (irm a1 66) (I 27 13 (w32 a1).toNat) I
else none
set_option maxRecDepth 20000 in
theorem R_M_makes (Z : ZT) (a1 : Int) (I : Mem) (r : Int) (J : Mem) (hf : f_M_makes a1 I = some (r, J)) : Runs Z yX13_makes cX13_makes 6 (some .int) 4 [vr Z 26 0, vi a1] I (some (vi r), J) := by
  refine Runs.of (rv := fun x => some (vi x)) (by decide +kernel) (Nat.le_of_ble_eq_true rfl) hf (fun gr => ?_)
  unfold f_M_makes
  refine WQ.loc [0, 1] (lv' := [(0, vr Z 26 0), (1, vi a1)]) rfl ?_
  refine wq_iload_n dX13_makes_0 1 rfl rfl ?_
  refine wq_bipush dX13_makes_1 (by decide) ?_
  refine wq_idiv dX13_makes_3 (by decide) ?_
  refine wq_istore_n (lv' := [(2, vi (idv a1 66)), (0, vr Z 26 0), (1, vi a1)]) dX13_makes_4 rfl (by decide) rfl ?_
  refine wq_iload_n dX13_makes_5 2 rfl rfl ?_
  refine wq_bipush dX13_makes_6 (by decide) ?_
  refine wq_irem dX13_makes_8 (by decide) ?_
  refine wq_istore_n (lv' := [(3, vi (irm a1 66)), (2, vi (idv a1 66)), (0, vr Z 26 0), (1, vi a1)]) dX13_makes_9 rfl (by decide) rfl ?_
  refine wq_aload_n dX13_makes_10 2 rfl rfl ?_
  refine g_26_17 ln_RX13_55 dX13_makes_11 ?_
  refine wq_iload_n dX13_makes_14 3 rfl rfl ?_
  refine wq_grd (fun g1 => ?_)
  refine wq_iald (k := 27) (i := 13) rfl (by decide) rfl rfl (m := 4356) g1 (Nat.le_of_ble_eq_true rfl) dX13_makes_15 ?_
  refine wq_iconst dX13_makes_16 ?_
  have hj2 : ∀ (gr79 : Nat → Nat)  (hj2e0 : Int) (J78 : Mem), WQ Z (yX13_makes, cX13_makes, 6, some .int, 4) I gr79 33 [(0, vr Z 26 0), (1, vi a1), (2, vi (idv a1 66)), (3, vi (irm a1 66))] [vi hj2e0] J78 (f_M_makes_j33 a1 (idv a1 66) (irm a1 66) hj2e0 J78) (fun b K => some (.inl ((fun x => some (vi x)) b), K)) := by
    intro gr79 hj2e0 J78
    unfold f_M_makes_j33
    refine wq_istore (lv' := [(4, vi hj2e0), (0, vr Z 26 0), (1, vi a1), (2, vi (idv a1 66)), (3, vi (irm a1 66))]) dX13_makes_33 (by decide) rfl ?_
    refine wq_iconst dX13_makes_35 ?_
    refine wq_istore (lv' := [(5, vi 0), (4, vi hj2e0), (0, vr Z 26 0), (1, vi a1), (2, vi (idv a1 66)), (3, vi (irm a1 66))]) dX13_makes_36 (by decide) rfl ?_
    refine WQ.loc [2, 3, 4, 5, 1, 0] (lv' := [(0, vr Z 26 0), (1, vi a1), (2, vi (idv a1 66)), (3, vi (irm a1 66)), (4, vi hj2e0), (5, vi 0)]) rfl ?_
    refine wq_loopS (fun s86 => [(0, vr Z 26 0), (1, vi a1), (2, vi (idv a1 66)), (3, vi (irm a1 66)), (4, vi hj2e0), (5, vi s86)]) 103 (fun _ => [(0, vr Z 26 0), (1, vi a1), (2, vi (idv a1 66)), (3, vi (irm a1 66)), (4, vi hj2e0)]) (fun κ80 bk81 ex82 gr85 s86 J84 => ?_) (fun gr111 r109 J110 => ?_) gr79 _ rfl
    · unfold f_M_makes_w38
      refine wq_iload dX13_makes_38 5 rfl ?_
      refine wq_bipush dX13_makes_40 (by decide) ?_
      refine wq_icmp_ge 103 dX13_makes_42 (by decide) rfl rfl (fun c108 => ?_) (fun c108 => ?_)
      · refine wq_aload_n dX13_makes_45 0 rfl rfl ?_
        refine wq_iload dX13_makes_46 5 rfl ?_
        refine wq_cVi M_M_isAlone (R_M_isAlone Z s86 _) ob_26 rfl rfl (by decide) (by decide) (Nat.le_of_ble_eq_true rfl) ln_RX13_153 dX13_makes_48 (fun gr87 x89 J88 => ?_)
        have hj90 : ∀ (gr101 : Nat → Nat)   (J100 : Mem), WQ Z (yX13_makes, cX13_makes, 6, some .int, 4) I gr101 79 [(0, vr Z 26 0), (1, vi a1), (2, vi (idv a1 66)), (3, vi (irm a1 66)), (4, vi hj2e0), (5, vi s86)] [] J100 (f_M_makes_j79 a1 (idv a1 66) (irm a1 66) hj2e0 s86 J100) κ80 := by
          intro gr101 J100
          unfold f_M_makes_j79
          refine wq_aload_n dX13_makes_79 0 rfl rfl ?_
          refine wq_iconst dX13_makes_80 ?_
          refine wq_aload_n dX13_makes_81 0 rfl rfl ?_
          refine wq_iload dX13_makes_82 5 rfl ?_
          refine wq_iload_n dX13_makes_84 2 rfl rfl ?_
          refine wq_iload_n dX13_makes_85 3 rfl rfl ?_
          refine wq_bipush dX13_makes_86 (by decide) ?_
          refine wq_iload dX13_makes_88 4 rfl ?_
          refine wq_iadd dX13_makes_90 ?_
          refine wq_cVi M_M_joins (R_M_joins Z s86 (idv a1 66) (irm a1 66) (26 + hj2e0) _) ob_26 rfl rfl (by decide) (by decide) (Nat.le_of_ble_eq_true rfl) ln_RX13_173 dX13_makes_91 (fun gr102 x104 J103 => ?_)
          refine wq_cVv M_M_counts (R_M_counts Z 5 x104 _) ob_26 rfl rfl (by decide) (by decide) (Nat.le_of_ble_eq_true rfl) ln_RX13_177 dX13_makes_94 (fun gr105 _ J106 => ?_)
          refine wq_iinc (lv' := [(5, vi (s86 + 1)), (0, vr Z 26 0), (1, vi a1), (2, vi (idv a1 66)), (3, vi (irm a1 66)), (4, vi hj2e0)]) dX13_makes_97 5 rfl (by decide) rfl ?_
          refine wq_goto 38 dX13_makes_100 (by decide) ?_
          exact WQ.loc [1, 2, 3, 4, 5, 0] rfl (bk81 _ _ _)
        refine wq_if_eq 79 dX13_makes_51 (by decide) rfl (fun c99 => ?_) (fun c99 => ?_)
        · exact WQ.loc [0, 1, 2, 3, 4, 5] rfl (hj90 _   _)
        · refine wq_aload_n dX13_makes_54 0 rfl rfl ?_
          refine wq_iload dX13_makes_55 5 rfl ?_
          refine wq_iconst dX13_makes_57 ?_
          refine wq_cVi M_M_at (R_M_at Z s86 0 _) ob_26 rfl rfl (by decide) (by decide) (Nat.le_of_ble_eq_true rfl) ln_RX13_119 dX13_makes_58 (fun gr91 x93 J92 => ?_)
          refine wq_iload_n dX13_makes_61 2 rfl rfl ?_
          refine wq_icmp_ne 79 dX13_makes_62 (by decide) rfl rfl (fun c98 => ?_) (fun c98 => ?_)
          · refine wq_aload_n dX13_makes_65 0 rfl rfl ?_
            refine wq_iload dX13_makes_66 5 rfl ?_
            refine wq_iconst dX13_makes_68 ?_
            refine wq_cVi M_M_at (R_M_at Z s86 1 _) ob_26 rfl rfl (by decide) (by decide) (Nat.le_of_ble_eq_true rfl) ln_RX13_119 dX13_makes_69 (fun gr94 x96 J95 => ?_)
            refine wq_iload_n dX13_makes_72 3 rfl rfl ?_
            refine wq_icmp_ne 79 dX13_makes_73 (by decide) rfl rfl (fun c97 => ?_) (fun c97 => ?_)
            · refine wq_goto 97 dX13_makes_76 (by decide) ?_
              refine wq_iinc (lv' := [(5, vi (s86 + 1)), (0, vr Z 26 0), (1, vi a1), (2, vi (idv a1 66)), (3, vi (irm a1 66)), (4, vi hj2e0)]) dX13_makes_97 5 rfl (by decide) rfl ?_
              refine wq_goto 38 dX13_makes_100 (by decide) ?_
              exact WQ.loc [1, 2, 3, 4, 5, 0] rfl (bk81 _ _ _)
            · exact WQ.loc [0, 1, 2, 3, 4, 5] rfl (hj90 _   _)
          · exact WQ.loc [0, 1, 2, 3, 4, 5] rfl (hj90 _   _)
      · exact WQ.loc [0, 1, 2, 3, 4] rfl (ex82 _ _ _)
    · refine wq_aload_n dX13_makes_103 0 rfl rfl ?_
      refine g_26_17 ln_RX13_55 dX13_makes_104 ?_
      refine wq_iload_n dX13_makes_107 1 rfl rfl ?_
      refine wq_grd (fun g112 => ?_)
      refine wq_iald (k := 27) (i := 13) rfl (by decide) rfl rfl (m := 4356) g112 (Nat.le_of_ble_eq_true rfl) dX13_makes_108 ?_
      refine wq_iconst dX13_makes_109 ?_
      refine wq_icmp_eq 116 dX13_makes_110 (by decide) rfl rfl (fun c122 => ?_) (fun c122 => ?_)
      · refine wq_aload_n dX13_makes_116 0 rfl rfl ?_
        refine wq_iload dX13_makes_117 4 rfl ?_
        refine wq_iconst dX13_makes_119 ?_
        refine wq_iadd dX13_makes_120 ?_
        refine wq_iload_n dX13_makes_121 2 rfl rfl ?_
        refine wq_cVv M_M_adds (R_M_adds Z (hj2e0 + 1) (idv a1 66) _) ob_26 rfl rfl (by decide) (by decide) (Nat.le_of_ble_eq_true rfl) ln_RX13_93 dX13_makes_122 (fun gr113 _ J114 => ?_)
        refine wq_aload_n dX13_makes_125 0 rfl rfl ?_
        refine wq_iload dX13_makes_126 4 rfl ?_
        refine wq_iconst dX13_makes_128 ?_
        refine wq_iadd dX13_makes_129 ?_
        refine wq_iload_n dX13_makes_130 3 rfl rfl ?_
        refine wq_cVv M_M_adds (R_M_adds Z (hj2e0 + 1) (irm a1 66) _) ob_26 rfl rfl (by decide) (by decide) (Nat.le_of_ble_eq_true rfl) ln_RX13_93 dX13_makes_131 (fun gr116 _ J117 => ?_)
        refine wq_aload_n dX13_makes_134 0 rfl rfl ?_
        refine wq_iconst dX13_makes_135 ?_
        refine wq_iconst dX13_makes_136 ?_
        refine wq_cVv M_M_counts (R_M_counts Z 1 1 _) ob_26 rfl rfl (by decide) (by decide) (Nat.le_of_ble_eq_true rfl) ln_RX13_177 dX13_makes_137 (fun gr119 _ J120 => ?_)
        refine wq_iload dX13_makes_140 4 rfl ?_
        exact wq_iret rfl rfl dX13_makes_142
      · refine wq_iload dX13_makes_113 4 rfl ?_
        exact wq_iret rfl rfl dX13_makes_115
  refine wq_icmp_eq 29 dX13_makes_17 (by decide) rfl rfl (fun c6 => ?_) (fun c6 => ?_)
  · refine wq_aload_n dX13_makes_29 2 rfl rfl ?_
    refine wq_cVi M_M_freeRule (R_M_freeRule Z _) ob_26 rfl rfl (by decide) (by decide) (Nat.le_of_ble_eq_true rfl) ln_RX13_163 dX13_makes_30 (fun gr3 x5 J4 => ?_)
    exact WQ.loc [2, 3, 1, 0] rfl (hj2 _  _ _)
  · refine wq_aload_n dX13_makes_20 2 rfl rfl ?_
    refine g_26_17 ln_RX13_55 dX13_makes_21 ?_
    refine wq_iload_n dX13_makes_24 3 rfl rfl ?_
    refine wq_iald (k := 27) (i := 13) rfl (by decide) rfl rfl (m := 4356) g1 (Nat.le_of_ble_eq_true rfl) dX13_makes_25 ?_
    refine wq_goto 33 dX13_makes_26 (by decide) ?_
    exact WQ.loc [2, 3, 1, 0] rfl (hj2 _  _ _)

theorem M_M_usesOf : MwV yX13_usesOf cX13_usesOf 4 (some .int) 1 := ⟨li_8 187 (by decide +kernel) (by decide +kernel), li_8 186 (by decide +kernel) (by decide +kernel), lw_in 102 (by decide +kernel) (by decide +kernel), li_1 16 (by decide +kernel) (by decide +kernel), by decide +kernel⟩
theorem ln_RX13_180 : Cond.methodLink RX13 180 yX13_usesOf ∈ lw_good := li_8 184 (by decide +kernel) (by decide +kernel)
noncomputable def f_M_lonely_w2  (s : Int) (I : Mem) : Option (((Int) ⊕ (Int)) × Mem) :=
if (w32 s) < 40 then
bnd (f_M_isHere s I) fun x3 J2 =>
if (w32 x3) = 0 then
some (.inl (s + 1), J2)
else
bnd (f_M_usesOf s J2) fun x6 J5 =>
if (w32 x6) < 2 then
some (.inr (s), J5)
else
some (.inl (s + 1), J5)
else
some (.inr ((-1)), I)

noncomputable def f_M_lonely  (I : Mem) : Option ((Int) × Mem) :=
whl (f_M_lonely_w2) 0 I
set_option maxRecDepth 20000 in
theorem R_M_lonely (Z : ZT)  (I : Mem) (r : Int) (J : Mem) (hf : f_M_lonely I = some (r, J)) : Runs Z yX13_lonely cX13_lonely 2 (some .int) 4 [vr Z 26 0] I (some (vi r), J) := by
  refine Runs.of (rv := fun x => some (vi x)) (by decide +kernel) (Nat.le_of_ble_eq_true rfl) hf (fun gr => ?_)
  unfold f_M_lonely
  refine WQ.loc [0] (lv' := [(0, vr Z 26 0)]) rfl ?_
  refine wq_iconst dX13_lonely_0 ?_
  refine wq_istore_n (lv' := [(1, vi 0), (0, vr Z 26 0)]) dX13_lonely_1 rfl (by decide) rfl ?_
  refine WQ.loc [1, 0] (lv' := [(0, vr Z 26 0), (1, vi 0)]) rfl ?_
  refine wq_loop (fun s16 => [(0, vr Z 26 0), (1, vi s16)]) (fun κ10 bk11 hr13 gr15 s16 J14 => ?_) gr _ rfl
  unfold f_M_lonely_w2
  refine wq_iload_n dX13_lonely_2 1 rfl rfl ?_
  refine wq_bipush dX13_lonely_3 (by decide) ?_
  refine wq_icmp_ge 33 dX13_lonely_5 (by decide) rfl rfl (fun c25 => ?_) (fun c25 => ?_)
  · refine wq_aload_n dX13_lonely_8 0 rfl rfl ?_
    refine wq_iload_n dX13_lonely_9 1 rfl rfl ?_
    refine wq_cVi M_M_isHere (R_M_isHere Z s16 _) ob_26 rfl rfl (by decide) (by decide) (Nat.le_of_ble_eq_true rfl) ln_RX13_111 dX13_lonely_10 (fun gr17 x19 J18 => ?_)
    refine wq_if_eq 27 dX13_lonely_13 (by decide) rfl (fun c24 => ?_) (fun c24 => ?_)
    · refine wq_iinc (lv' := [(1, vi (s16 + 1)), (0, vr Z 26 0)]) dX13_lonely_27 1 rfl (by decide) rfl ?_
      refine wq_goto 2 dX13_lonely_30 (by decide) ?_
      exact WQ.loc [1, 0] rfl (bk11 _ _ _)
    · refine wq_aload_n dX13_lonely_16 0 rfl rfl ?_
      refine wq_iload_n dX13_lonely_17 1 rfl rfl ?_
      refine wq_cVi M_M_usesOf (R_M_usesOf Z s16 _) ob_26 rfl rfl (by decide) (by decide) (Nat.le_of_ble_eq_true rfl) ln_RX13_180 dX13_lonely_18 (fun gr20 x22 J21 => ?_)
      refine wq_iconst dX13_lonely_21 ?_
      refine wq_icmp_ge 27 dX13_lonely_22 (by decide) rfl rfl (fun c23 => ?_) (fun c23 => ?_)
      · refine wq_iload_n dX13_lonely_25 1 rfl rfl ?_
        exact wq_iret rfl ((hr13 _ _).trans rfl) dX13_lonely_26
      · refine wq_iinc (lv' := [(1, vi (s16 + 1)), (0, vr Z 26 0)]) dX13_lonely_27 1 rfl (by decide) rfl ?_
        refine wq_goto 2 dX13_lonely_30 (by decide) ?_
        exact WQ.loc [1, 0] rfl (bk11 _ _ _)
  · refine wq_iconst dX13_lonely_33 ?_
    exact wq_iret rfl ((hr13 _ _).trans rfl) dX13_lonely_34

theorem M_M_opens : MwV yX13_opens cX13_opens 6 (none) 3 := ⟨li_8 199 (by decide +kernel) (by decide +kernel), li_8 198 (by decide +kernel) (by decide +kernel), lw_in 105 (by decide +kernel) (by decide +kernel), li_1 16 (by decide +kernel) (by decide +kernel), by decide +kernel⟩
theorem ln_RX13_183 : Cond.methodLink RX13 183 yX13_opens ∈ lw_good := li_8 196 (by decide +kernel) (by decide +kernel)
theorem M_M_removes : MwV yX13_removes cX13_removes 2 (none) 1 := ⟨li_8 203 (by decide +kernel) (by decide +kernel), li_8 202 (by decide +kernel) (by decide +kernel), lw_in 106 (by decide +kernel) (by decide +kernel), li_1 16 (by decide +kernel) (by decide +kernel), by decide +kernel⟩
theorem ln_RX13_186 : Cond.methodLink RX13 186 yX13_removes ∈ lw_good := li_8 200 (by decide +kernel) (by decide +kernel)
noncomputable def f_M_unmakes_w19 (v1 : Int) (v3 : Int) (s : Int × Int) (I : Mem) : Option (((Int × Int) ⊕ (Int)) × Mem) :=
if (w32 s.2) < 0 then
some (.inr s.1, I)
else
bnd (f_M_at v3 s.2 I) fun x6 J5 =>
if (w32 x6) = (w32 (26 + v1)) then
bnd (f_M_opens v3 s.2 v1 J5) fun _ J8 =>
some (.inl ((s.1 + 1), (s.2 + (-1))), J8)
else
some (.inl (s.1, (s.2 + (-1))), J5)

noncomputable def f_M_unmakes_w4 (v1 : Int) (s : Int × Int) (I : Mem) : Option (((Int × Int) ⊕ (Int)) × Mem) :=
if (w32 s.2) < 41 then
bnd (f_M_many s.2 I) fun x3 J2 =>
bnd (whl (f_M_unmakes_w19 v1 s.2) (s.1, (x3 - 1)) J2) fun r27 J28 =>
some (.inl (r27, (s.2 + 1)), J28)
else
some (.inr s.1, I)

noncomputable def f_M_unmakes (a1 : Int) (I : Mem) : Option ((Int) × Mem) :=
bnd (whl (f_M_unmakes_w4 a1) (0, 0) I) fun r60 J61 =>
bnd (f_M_removes a1 J61) fun _ J64 =>
some (r60, J64)
set_option maxRecDepth 20000 in
theorem R_M_unmakes (Z : ZT) (a1 : Int) (I : Mem) (r : Int) (J : Mem) (hf : f_M_unmakes a1 I = some (r, J)) : Runs Z yX13_unmakes cX13_unmakes 5 (some .int) 3 [vr Z 26 0, vi a1] I (some (vi r), J) := by
  refine Runs.of (rv := fun x => some (vi x)) (by decide +kernel) (Nat.le_of_ble_eq_true rfl) hf (fun gr => ?_)
  unfold f_M_unmakes
  refine WQ.loc [0, 1] (lv' := [(0, vr Z 26 0), (1, vi a1)]) rfl ?_
  refine wq_iconst dX13_unmakes_0 ?_
  refine wq_istore_n (lv' := [(2, vi 0), (0, vr Z 26 0), (1, vi a1)]) dX13_unmakes_1 rfl (by decide) rfl ?_
  refine wq_iconst dX13_unmakes_2 ?_
  refine wq_istore_n (lv' := [(3, vi 0), (2, vi 0), (0, vr Z 26 0), (1, vi a1)]) dX13_unmakes_3 rfl (by decide) rfl ?_
  refine WQ.loc [2, 3, 1, 0] (lv' := [(0, vr Z 26 0), (1, vi a1), (2, vi 0), (3, vi 0)]) rfl ?_
  refine wq_loopS (fun s37 => [(0, vr Z 26 0), (1, vi a1), (2, vi s37.1), (3, vi s37.2)]) 64 (fun r60 => [(0, vr Z 26 0), (1, vi a1), (2, vi r60)]) (fun κ31 bk32 ex33 gr36 s37 J35 => ?_) (fun gr62 r60 J61 => ?_) gr _ rfl
  · unfold f_M_unmakes_w4
    refine wq_iload_n dX13_unmakes_4 3 rfl rfl ?_
    refine wq_bipush dX13_unmakes_5 (by decide) ?_
    refine wq_icmp_ge 64 dX13_unmakes_7 (by decide) rfl rfl (fun c59 => ?_) (fun c59 => ?_)
    · refine wq_aload_n dX13_unmakes_10 0 rfl rfl ?_
      refine wq_iload_n dX13_unmakes_11 3 rfl rfl ?_
      refine wq_cVi M_M_many (R_M_many Z s37.2 _) ob_26 rfl rfl (by decide) (by decide) (Nat.le_of_ble_eq_true rfl) ln_RX13_103 dX13_unmakes_12 (fun gr38 x40 J39 => ?_)
      refine wq_iconst dX13_unmakes_15 ?_
      refine wq_isub dX13_unmakes_16 ?_
      refine wq_istore (lv' := [(4, vi (x40 - 1)), (0, vr Z 26 0), (1, vi a1), (2, vi s37.1), (3, vi s37.2)]) dX13_unmakes_17 (by decide) rfl ?_
      refine WQ.loc [1, 2, 3, 4, 0] (lv' := [(0, vr Z 26 0), (1, vi a1), (2, vi s37.1), (3, vi s37.2), (4, vi (x40 - 1))]) rfl ?_
      refine wq_loopS (fun s47 => [(0, vr Z 26 0), (1, vi a1), (2, vi s47.1), (3, vi s37.2), (4, vi s47.2)]) 58 (fun r56 => [(0, vr Z 26 0), (1, vi a1), (2, vi r56), (3, vi s37.2)]) (fun κ41 bk42 ex43 gr46 s47 J45 => ?_) (fun gr58 r56 J57 => ?_) gr38 _ rfl
      · unfold f_M_unmakes_w19
        refine wq_iload dX13_unmakes_19 4 rfl ?_
        refine wq_if_lt 58 dX13_unmakes_21 (by decide) rfl (fun c55 => ?_) (fun c55 => ?_)
        · exact WQ.loc [0, 1, 2, 3] rfl (ex43 _ _ _)
        · refine wq_aload_n dX13_unmakes_24 0 rfl rfl ?_
          refine wq_iload_n dX13_unmakes_25 3 rfl rfl ?_
          refine wq_iload dX13_unmakes_26 4 rfl ?_
          refine wq_cVi M_M_at (R_M_at Z s37.2 s47.2 _) ob_26 rfl rfl (by decide) (by decide) (Nat.le_of_ble_eq_true rfl) ln_RX13_119 dX13_unmakes_28 (fun gr48 x50 J49 => ?_)
          refine wq_bipush dX13_unmakes_31 (by decide) ?_
          refine wq_iload_n dX13_unmakes_33 1 rfl rfl ?_
          refine wq_iadd dX13_unmakes_34 ?_
          refine wq_icmp_eq 41 dX13_unmakes_35 (by decide) rfl rfl (fun c54 => ?_) (fun c54 => ?_)
          · refine wq_aload_n dX13_unmakes_41 0 rfl rfl ?_
            refine wq_iload_n dX13_unmakes_42 3 rfl rfl ?_
            refine wq_iload dX13_unmakes_43 4 rfl ?_
            refine wq_iload_n dX13_unmakes_45 1 rfl rfl ?_
            refine wq_cVv M_M_opens (R_M_opens Z s37.2 s47.2 a1 _) ob_26 rfl rfl (by decide) (by decide) (Nat.le_of_ble_eq_true rfl) ln_RX13_183 dX13_unmakes_46 (fun gr51 _ J52 => ?_)
            refine wq_iinc (lv' := [(2, vi (s47.1 + 1)), (0, vr Z 26 0), (1, vi a1), (3, vi s37.2), (4, vi s47.2)]) dX13_unmakes_49 2 rfl (by decide) rfl ?_
            refine wq_iinc (lv' := [(4, vi (s47.2 + (-1))), (2, vi (s47.1 + 1)), (0, vr Z 26 0), (1, vi a1), (3, vi s37.2)]) dX13_unmakes_52 4 rfl (by decide) rfl ?_
            refine wq_goto 19 dX13_unmakes_55 (by decide) ?_
            exact WQ.loc [2, 3, 1, 4, 0] rfl (bk42 _ _ _)
          · refine wq_goto 52 dX13_unmakes_38 (by decide) ?_
            refine wq_iinc (lv' := [(4, vi (s47.2 + (-1))), (0, vr Z 26 0), (1, vi a1), (2, vi s47.1), (3, vi s37.2)]) dX13_unmakes_52 4 rfl (by decide) rfl ?_
            refine wq_goto 19 dX13_unmakes_55 (by decide) ?_
            exact WQ.loc [1, 2, 3, 4, 0] rfl (bk42 _ _ _)
      · refine wq_iinc (lv' := [(3, vi (s37.2 + 1)), (0, vr Z 26 0), (1, vi a1), (2, vi r56)]) dX13_unmakes_58 3 rfl (by decide) rfl ?_
        refine wq_goto 4 dX13_unmakes_61 (by decide) ?_
        exact WQ.loc [1, 2, 3, 0] rfl (bk32 _ _ _)
    · exact WQ.loc [0, 1, 2] rfl (ex33 _ _ _)
  · refine wq_aload_n dX13_unmakes_64 0 rfl rfl ?_
    refine wq_iload_n dX13_unmakes_65 1 rfl rfl ?_
    refine wq_cVv M_M_removes (R_M_removes Z a1 _) ob_26 rfl rfl (by decide) (by decide) (Nat.le_of_ble_eq_true rfl) ln_RX13_186 dX13_unmakes_66 (fun gr63 _ J64 => ?_)
    refine wq_iload_n dX13_unmakes_69 2 rfl rfl ?_
    exact wq_iret rfl rfl dX13_unmakes_70

theorem M_M_lonely : MwV yX13_lonely cX13_lonely 2 (some .int) 0 := ⟨li_8 183 (by decide +kernel) (by decide +kernel), li_8 182 (by decide +kernel) (by decide +kernel), lw_in 101 (by decide +kernel) (by decide +kernel), li_1 16 (by decide +kernel) (by decide +kernel), by decide +kernel⟩
theorem M_M_unmakes : MwV yX13_unmakes cX13_unmakes 5 (some .int) 1 := ⟨li_8 195 (by decide +kernel) (by decide +kernel), li_8 194 (by decide +kernel) (by decide +kernel), lw_in 104 (by decide +kernel) (by decide +kernel), li_1 16 (by decide +kernel) (by decide +kernel), by decide +kernel⟩
theorem ln_RX13_189 : Cond.methodLink RX13 189 yX13_lonely ∈ lw_good := li_8 180 (by decide +kernel) (by decide +kernel)
theorem ln_RX13_192 : Cond.methodLink RX13 192 yX13_unmakes ∈ lw_good := li_8 192 (by decide +kernel) (by decide +kernel)
noncomputable def f_M_inlines_w7  (s : Int × Int) (I : Mem) : Option (((Int × Int) ⊕ (Int)) × Mem) :=
if (w32 s.2) = (-1) then
some (.inr s.1, I)
else
bnd (f_M_unmakes s.2 I) fun x6 J5 =>
bnd (f_M_counts (if 0 < (w32 x6) then 2 else 3) 1 J5) fun _ J8 =>
bnd (f_M_lonely J8) fun x12 J11 =>
some (.inl ((s.1 + 1), x12), J11)

noncomputable def f_M_inlines  (I : Mem) : Option ((Int) × Mem) :=
bnd (f_M_lonely I) fun x3 J2 =>
bnd (whl (f_M_inlines_w7) (0, x3) J2) fun r35 J36 =>
some (r35, J36)
set_option maxRecDepth 20000 in
theorem R_M_inlines (Z : ZT)  (I : Mem) (r : Int) (J : Mem) (hf : f_M_inlines I = some (r, J)) : Runs Z yX13_inlines cX13_inlines 3 (some .int) 5 [vr Z 26 0] I (some (vi r), J) := by
  refine Runs.of (rv := fun x => some (vi x)) (by decide +kernel) (Nat.le_of_ble_eq_true rfl) hf (fun gr => ?_)
  unfold f_M_inlines
  refine WQ.loc [0] (lv' := [(0, vr Z 26 0)]) rfl ?_
  refine wq_iconst dX13_inlines_0 ?_
  refine wq_istore_n (lv' := [(1, vi 0), (0, vr Z 26 0)]) dX13_inlines_1 rfl (by decide) rfl ?_
  refine wq_aload_n dX13_inlines_2 1 rfl rfl ?_
  refine wq_cVi M_M_lonely (R_M_lonely Z _) ob_26 rfl rfl (by decide) (by decide) (Nat.le_of_ble_eq_true rfl) ln_RX13_189 dX13_inlines_3 (fun gr1 x3 J2 => ?_)
  refine wq_istore_n (lv' := [(2, vi x3), (1, vi 0), (0, vr Z 26 0)]) dX13_inlines_6 rfl (by decide) rfl ?_
  refine WQ.loc [2, 1, 0] (lv' := [(0, vr Z 26 0), (1, vi 0), (2, vi x3)]) rfl ?_
  refine wq_loopS (fun s22 => [(0, vr Z 26 0), (1, vi s22.1), (2, vi s22.2)]) 41 (fun r35 => [(1, vi r35)]) (fun κ16 bk17 ex18 gr21 s22 J20 => ?_) (fun gr37 r35 J36 => ?_) gr1 _ rfl
  · unfold f_M_inlines_w7
    refine wq_iload_n dX13_inlines_7 2 rfl rfl ?_
    refine wq_iconst dX13_inlines_8 ?_
    refine wq_icmp_eq 41 dX13_inlines_9 (by decide) rfl rfl (fun c34 => ?_) (fun c34 => ?_)
    · exact WQ.loc [1] rfl (ex18 _ _ _)
    · refine wq_aload_n dX13_inlines_12 0 rfl rfl ?_
      refine wq_aload_n dX13_inlines_13 0 rfl rfl ?_
      refine wq_iload_n dX13_inlines_14 2 rfl rfl ?_
      refine wq_cVi M_M_unmakes (R_M_unmakes Z s22.2 _) ob_26 rfl rfl (by decide) (by decide) (Nat.le_of_ble_eq_true rfl) ln_RX13_192 dX13_inlines_15 (fun gr23 x25 J24 => ?_)
      refine WQ.via 26 [vi (if 0 < (w32 x25) then 2 else 3), vr Z 26 0] (by
          refine wq_iconst dX13_inlines_26 ?_
          refine wq_cVv M_M_counts (R_M_counts Z (if 0 < (w32 x25) then 2 else 3) 1 _) ob_26 rfl rfl (by decide) (by decide) (Nat.le_of_ble_eq_true rfl) ln_RX13_177 dX13_inlines_27 (fun gr26 _ J27 => ?_)
          refine wq_iinc (lv' := [(1, vi (s22.1 + 1)), (0, vr Z 26 0), (2, vi s22.2)]) dX13_inlines_30 1 rfl (by decide) rfl ?_
          refine wq_aload_n dX13_inlines_33 1 rfl rfl ?_
          refine wq_cVi M_M_lonely (R_M_lonely Z _) ob_26 rfl rfl (by decide) (by decide) (Nat.le_of_ble_eq_true rfl) ln_RX13_189 dX13_inlines_34 (fun gr29 x31 J30 => ?_)
          refine wq_istore_n (lv' := [(2, vi x31), (1, vi (s22.1 + 1)), (0, vr Z 26 0)]) dX13_inlines_37 rfl (by decide) rfl ?_
          refine wq_goto 7 dX13_inlines_38 (by decide) ?_
          exact WQ.loc [2, 1, 0] rfl (bk17 _ _ _)) (fun hj32 => ?_)
      refine WQ.both (0 < (w32 x25)) ?_
      refine wq_if_le 25 dX13_inlines_18 (by decide) rfl (fun c33 => ?_) (fun c33 => ?_)
      · refine wq_iconst dX13_inlines_21 ?_
        refine wq_goto 26 dX13_inlines_22 (by decide) ?_
        exact WQ.top (if_pos c33) hj32
      · refine wq_iconst dX13_inlines_25 ?_
        exact WQ.top (if_neg c33) hj32
  · refine wq_iload_n dX13_inlines_41 0 rfl rfl ?_
    exact wq_iret rfl rfl dX13_inlines_42

theorem M_M_bestPair : MwV yX13_bestPair cX13_bestPair 4 (some .int) 0 := ⟨li_8 136 (by decide +kernel) (by decide +kernel), li_8 135 (by decide +kernel) (by decide +kernel), lw_in 90 (by decide +kernel) (by decide +kernel), li_1 16 (by decide +kernel) (by decide +kernel), by decide +kernel⟩
theorem M_M_makes : MwV yX13_makes cX13_makes 6 (some .int) 1 := ⟨li_8 167 (by decide +kernel) (by decide +kernel), li_8 166 (by decide +kernel) (by decide +kernel), lw_in 97 (by decide +kernel) (by decide +kernel), li_1 16 (by decide +kernel) (by decide +kernel), by decide +kernel⟩
theorem M_M_inlines : MwV yX13_inlines cX13_inlines 3 (some .int) 0 := ⟨li_8 179 (by decide +kernel) (by decide +kernel), li_8 178 (by decide +kernel) (by decide +kernel), lw_in 100 (by decide +kernel) (by decide +kernel), li_1 16 (by decide +kernel) (by decide +kernel), by decide +kernel⟩
theorem ln_RX13_201 : Cond.methodLink RX13 201 yX13_inlines ∈ lw_good := li_8 176 (by decide +kernel) (by decide +kernel)
theorem ln_RX13_198 : Cond.methodLink RX13 198 yX13_makes ∈ lw_good := li_8 164 (by decide +kernel) (by decide +kernel)
theorem ln_RX13_195 : Cond.methodLink RX13 195 yX13_bestPair ∈ lw_good := li_8 133 (by decide +kernel) (by decide +kernel)
noncomputable def f_M_steps_j42 (v2 : Int)  (e0 : Int) (I : Mem) : Option ((Int) × Mem) :=
if (w32 v2) < 0 then
some (0, I)
else
if (w32 e0) < 0 then
some (0, I)
else
some (1, I)

noncomputable def f_M_steps  (I : Mem) : Option ((Int) × Mem) :=
bnd (f_M_bestPair I) fun x3 J2 =>
if (w32 x3) = (-1) then
some (0, J2)
else
bnd (f_M_makes x3 J2) fun x6 J5 =>
bnd (f_M_counts 0 1 J5) fun _ J8 =>
if (w32 (J8 27 0 2)) = 1 then
bnd (f_M_inlines J8) fun x14 J13 =>
f_M_steps_j42 x6 x14 J13
else
f_M_steps_j42 x6 0 J8
set_option maxRecDepth 20000 in
theorem R_M_steps (Z : ZT)  (I : Mem) (r : Int) (J : Mem) (hf : f_M_steps I = some (r, J)) : Runs Z yX13_steps cX13_steps 4 (some .boolean) 6 [vr Z 26 0] I (some (vi r), J) := by
  refine Runs.of (rv := fun x => some (vi x)) (by decide +kernel) (Nat.le_of_ble_eq_true rfl) hf (fun gr => ?_)
  unfold f_M_steps
  refine WQ.loc [0] (lv' := [(0, vr Z 26 0)]) rfl ?_
  refine wq_aload_n dX13_steps_0 0 rfl rfl ?_
  refine wq_cVi M_M_bestPair (R_M_bestPair Z _) ob_26 rfl rfl (by decide) (by decide) (Nat.le_of_ble_eq_true rfl) ln_RX13_195 dX13_steps_1 (fun gr1 x3 J2 => ?_)
  refine wq_istore_n (lv' := [(1, vi x3), (0, vr Z 26 0)]) dX13_steps_4 rfl (by decide) rfl ?_
  refine wq_iload_n dX13_steps_5 0 rfl rfl ?_
  refine wq_iconst dX13_steps_6 ?_
  refine wq_icmp_ne 12 dX13_steps_7 (by decide) rfl rfl (fun c22 => ?_) (fun c22 => ?_)
  · refine wq_iconst dX13_steps_10 ?_
    exact wq_zret rfl (by decide) rfl dX13_steps_11
  · refine wq_aload_n dX13_steps_12 1 rfl rfl ?_
    refine wq_iload_n dX13_steps_13 0 rfl rfl ?_
    refine wq_cVi M_M_makes (R_M_makes Z x3 _) ob_26 rfl rfl (by decide) (by decide) (Nat.le_of_ble_eq_true rfl) ln_RX13_198 dX13_steps_14 (fun gr4 x6 J5 => ?_)
    refine wq_istore_n (lv' := [(2, vi x6), (1, vi x3), (0, vr Z 26 0)]) dX13_steps_17 rfl (by decide) rfl ?_
    refine wq_aload_n dX13_steps_18 2 rfl rfl ?_
    refine wq_iconst dX13_steps_19 ?_
    refine wq_iconst dX13_steps_20 ?_
    refine wq_cVv M_M_counts (R_M_counts Z 0 1 _) ob_26 rfl rfl (by decide) (by decide) (Nat.le_of_ble_eq_true rfl) ln_RX13_177 dX13_steps_21 (fun gr7 _ J8 => ?_)
    refine wq_aload_n dX13_steps_24 2 rfl rfl ?_
    refine g_26_0 ln_RX13_9 dX13_steps_25 ?_
    refine wq_iconst dX13_steps_28 ?_
    refine wq_iald (k := 27) (i := 0) rfl (by decide) rfl rfl (m := 16860) (by decide) (Nat.le_of_ble_eq_true rfl) dX13_steps_29 ?_
    refine wq_iconst dX13_steps_30 ?_
    have hj11 : ∀ (gr19 : Nat → Nat)  (hj11e0 : Int) (J18 : Mem), WQ Z (yX13_steps, cX13_steps, 4, some .boolean, 6) I gr19 42 [(2, vi x6)] [vi hj11e0] J18 (f_M_steps_j42 x6 hj11e0 J18) (fun b K => some (.inl ((fun x => some (vi x)) b), K)) := by
      intro gr19 hj11e0 J18
      unfold f_M_steps_j42
      refine wq_istore_n (lv' := [(3, vi hj11e0), (2, vi x6)]) dX13_steps_42 rfl (by decide) rfl ?_
      refine wq_iload_n dX13_steps_43 1 rfl rfl ?_
      refine wq_if_lt 55 dX13_steps_44 (by decide) rfl (fun c21 => ?_) (fun c21 => ?_)
      · refine wq_iconst dX13_steps_55 ?_
        exact wq_zret rfl (by decide) rfl dX13_steps_56
      · refine wq_iload_n dX13_steps_47 0 rfl rfl ?_
        refine wq_if_lt 55 dX13_steps_48 (by decide) rfl (fun c20 => ?_) (fun c20 => ?_)
        · refine wq_iconst dX13_steps_55 ?_
          exact wq_zret rfl (by decide) rfl dX13_steps_56
        · refine wq_iconst dX13_steps_51 ?_
          refine wq_goto 56 dX13_steps_52 (by decide) ?_
          exact wq_zret rfl (by decide) rfl dX13_steps_56
    refine wq_icmp_ne 41 dX13_steps_31 (by decide) rfl rfl (fun c15 => ?_) (fun c15 => ?_)
    · refine wq_aload_n dX13_steps_34 2 rfl rfl ?_
      refine wq_cVi M_M_inlines (R_M_inlines Z _) ob_26 rfl rfl (by decide) (by decide) (Nat.le_of_ble_eq_true rfl) ln_RX13_201 dX13_steps_35 (fun gr12 x14 J13 => ?_)
      refine wq_goto 42 dX13_steps_38 (by decide) ?_
      exact WQ.loc [0] rfl (hj11 _  _ _)
    · refine wq_iconst dX13_steps_41 ?_
      exact WQ.loc [0] rfl (hj11 _  _ _)

theorem M_M_steps : MwV yX13_steps cX13_steps 4 (some .boolean) 0 := ⟨li_8 132 (by decide +kernel) (by decide +kernel), li_8 131 (by decide +kernel) (by decide +kernel), lw_in 89 (by decide +kernel) (by decide +kernel), li_1 16 (by decide +kernel) (by decide +kernel), by decide +kernel⟩
theorem ln_RX13_204 : Cond.methodLink RX13 204 yX13_steps ∈ lw_good := li_8 129 (by decide +kernel) (by decide +kernel)
noncomputable def f_M_stepsMany_w2 (v1 : Int) (s : Int) (I : Mem) : Option (((Int) ⊕ (Int)) × Mem) :=
if (w32 s) < (w32 v1) then
bnd (f_M_steps I) fun x3 J2 =>
if (w32 x3) = 0 then
some (.inr s, J2)
else
some (.inl (s + 1), J2)
else
some (.inr s, I)

noncomputable def f_M_stepsMany (a1 : Int) (I : Mem) : Option ((Int) × Mem) :=
bnd (whl (f_M_stepsMany_w2 a1) 0 I) fun r18 J19 =>
some (r18, J19)
set_option maxRecDepth 20000 in
theorem R_M_stepsMany (Z : ZT) (a1 : Int) (I : Mem) (r : Int) (J : Mem) (hf : f_M_stepsMany a1 I = some (r, J)) : Runs Z yX13_stepsMany cX13_stepsMany 3 (some .int) 7 [vr Z 26 0, vi a1] I (some (vi r), J) := by
  refine Runs.of (rv := fun x => some (vi x)) (by decide +kernel) (Nat.le_of_ble_eq_true rfl) hf (fun gr => ?_)
  unfold f_M_stepsMany
  refine WQ.loc [0, 1] (lv' := [(0, vr Z 26 0), (1, vi a1)]) rfl ?_
  refine wq_iconst dX13_stepsMany_0 ?_
  refine wq_istore_n (lv' := [(2, vi 0), (0, vr Z 26 0), (1, vi a1)]) dX13_stepsMany_1 rfl (by decide) rfl ?_
  refine WQ.loc [1, 2, 0] (lv' := [(0, vr Z 26 0), (1, vi a1), (2, vi 0)]) rfl ?_
  refine wq_loopS (fun s12 => [(0, vr Z 26 0), (1, vi a1), (2, vi s12)]) 20 (fun r18 => [(2, vi r18)]) (fun κ6 bk7 ex8 gr11 s12 J10 => ?_) (fun gr20 r18 J19 => ?_) gr _ rfl
  · unfold f_M_stepsMany_w2
    refine wq_iload_n dX13_stepsMany_2 2 rfl rfl ?_
    refine wq_iload_n dX13_stepsMany_3 1 rfl rfl ?_
    refine wq_icmp_ge 20 dX13_stepsMany_4 (by decide) rfl rfl (fun c17 => ?_) (fun c17 => ?_)
    · refine wq_aload_n dX13_stepsMany_7 0 rfl rfl ?_
      refine wq_cVi M_M_steps (R_M_steps Z _) ob_26 rfl rfl (by decide) (by decide) (Nat.le_of_ble_eq_true rfl) ln_RX13_204 dX13_stepsMany_8 (fun gr13 x15 J14 => ?_)
      refine wq_if_eq 20 dX13_stepsMany_11 (by decide) rfl (fun c16 => ?_) (fun c16 => ?_)
      · exact WQ.loc [2] rfl (ex8 _ _ _)
      · refine wq_iinc (lv' := [(2, vi (s12 + 1)), (0, vr Z 26 0), (1, vi a1)]) dX13_stepsMany_14 2 rfl (by decide) rfl ?_
        refine wq_goto 2 dX13_stepsMany_17 (by decide) ?_
        exact WQ.loc [1, 2, 0] rfl (bk7 _ _ _)
    · exact WQ.loc [2] rfl (ex8 _ _ _)
  · refine wq_iload_n dX13_stepsMany_20 0 rfl rfl ?_
    exact wq_iret rfl rfl dX13_stepsMany_21

theorem ln_RX13_13 : Cond.fieldLink RX13 13 RX13 "other" "[I" ∈ lw_good := li_7 55 (by decide +kernel) (by decide +kernel)
theorem M_M_lays : MwS yX13_lays cX13_lays 5 (none) 4 := ⟨li_7 208 (by decide +kernel) (by decide +kernel), li_7 207 (by decide +kernel) (by decide +kernel), li_1 16 (by decide +kernel) (by decide +kernel), by decide +kernel⟩
theorem ln_RX13_208 : Cond.methodLink RX13 208 yX13_lays ∈ lw_good := li_7 206 (by decide +kernel) (by decide +kernel)
noncomputable def f_M_aside  (I : Mem) : Option ((Unit) × Mem) :=
bnd (f_M_lays 0 0 1 0 I) fun _ J2 =>
some ((), J2)
set_option maxRecDepth 20000 in
theorem R_M_aside (Z : ZT)  (I : Mem) (r : Unit) (J : Mem) (hf : f_M_aside I = some (r, J)) : Runs Z yX13_aside cX13_aside 1 (none) 2 [vr Z 26 0] I (none, J) := by
  refine Runs.of (rv := fun _ => none) (by decide +kernel) (Nat.le_of_ble_eq_true rfl) hf (fun gr => ?_)
  unfold f_M_aside
  refine WQ.loc [0] (lv' := [(0, vr Z 26 0)]) rfl ?_
  refine wq_aload_n dX13_aside_0 0 rfl rfl ?_
  refine g_26_0 ln_RX13_9 dX13_aside_1 ?_
  refine wq_iconst dX13_aside_4 ?_
  refine wq_aload_n dX13_aside_5 0 rfl rfl ?_
  refine g_26_1 ln_RX13_13 dX13_aside_6 ?_
  refine wq_iconst dX13_aside_9 ?_
  refine wq_cSv M_M_lays (R_M_lays Z 0 0 1 0 _) rfl rfl rfl (by decide) (by decide) (Nat.le_of_ble_eq_true rfl) ln_RX13_208 dX13_aside_10 (fun gr1 _ J2 => ?_)
  exact wq_vret rfl rfl dX13_aside_13

noncomputable def f_M_back (a1 : Int) (I : Mem) : Option ((Int) × Mem) :=
bnd (f_M_lays 1 0 0 0 I) fun _ J2 =>
some (a1, J2)
set_option maxRecDepth 20000 in
theorem R_M_back (Z : ZT) (a1 : Int) (I : Mem) (r : Int) (J : Mem) (hf : f_M_back a1 I = some (r, J)) : Runs Z yX13_back cX13_back 2 (some .int) 2 [vr Z 26 0, vi a1] I (some (vi r), J) := by
  refine Runs.of (rv := fun x => some (vi x)) (by decide +kernel) (Nat.le_of_ble_eq_true rfl) hf (fun gr => ?_)
  unfold f_M_back
  refine WQ.loc [0, 1] (lv' := [(0, vr Z 26 0), (1, vi a1)]) rfl ?_
  refine wq_aload_n dX13_back_0 0 rfl rfl ?_
  refine g_26_1 ln_RX13_13 dX13_back_1 ?_
  refine wq_iconst dX13_back_4 ?_
  refine wq_aload_n dX13_back_5 0 rfl rfl ?_
  refine g_26_0 ln_RX13_9 dX13_back_6 ?_
  refine wq_iconst dX13_back_9 ?_
  refine wq_cSv M_M_lays (R_M_lays Z 1 0 0 0 _) rfl rfl rfl (by decide) (by decide) (Nat.le_of_ble_eq_true rfl) ln_RX13_208 dX13_back_10 (fun gr1 _ J2 => ?_)
  refine wq_iload_n dX13_back_13 1 rfl rfl ?_
  exact wq_iret rfl rfl dX13_back_14

theorem ln_RX13_58 : Cond.fieldLink RX13 58 RX13 "buffer" "[I" ∈ lw_good := li_7 73 (by decide +kernel) (by decide +kernel)
theorem ln_RX13_212 : Cond.fieldLink RX13 212 RX13 "filled" "I" ∈ lw_good := li_7 74 (by decide +kernel) (by decide +kernel)
noncomputable def f_M_feeds_w3 (v1 : Int) (s : Int) (I : Mem) : Option (((Int) ⊕ (Unit)) × Mem) :=
if (w32 s) < 0 then
some (.inr (), I)
else
if (w32 (ian (isr v1 s) 255)) = 0 then
some (.inl (s + (-8)), I)
else
if 0 ≤ (w32 (I 26 0 20)) ∧ (w32 (I 26 0 20)) < 600 then
ltI (sI I 27 14 (w32 (I 26 0 20)).toNat (ian (isr v1 s) 255)) fun J2 =>
ltI (sI J2 26 0 20 ((J2 26 0 20) + 1)) fun J3 =>
some (.inl (s + (-8)), J3)
else none

noncomputable def f_M_feeds (a1 : Int) (I : Mem) : Option ((Unit) × Mem) :=
bnd (whl (f_M_feeds_w3 a1) 24 I) fun r18 J19 =>
some ((), J19)
set_option maxRecDepth 20000 in
theorem R_M_feeds (Z : ZT) (a1 : Int) (I : Mem) (r : Unit) (J : Mem) (hf : f_M_feeds a1 I = some (r, J)) : Runs Z yX13_feeds cX13_feeds 4 (none) 1 [vr Z 26 0, vi a1] I (none, J) := by
  refine Runs.of (rv := fun _ => none) (by decide +kernel) (Nat.le_of_ble_eq_true rfl) hf (fun gr => ?_)
  unfold f_M_feeds
  refine WQ.loc [0, 1] (lv' := [(0, vr Z 26 0), (1, vi a1)]) rfl ?_
  refine wq_bipush dX13_feeds_0 (by decide) ?_
  refine wq_istore_n (lv' := [(2, vi 24), (0, vr Z 26 0), (1, vi a1)]) dX13_feeds_2 rfl (by decide) rfl ?_
  refine WQ.loc [1, 2, 0] (lv' := [(0, vr Z 26 0), (1, vi a1), (2, vi 24)]) rfl ?_
  refine wq_loopS (fun s12 => [(0, vr Z 26 0), (1, vi a1), (2, vi s12)]) 48 (fun _ => []) (fun κ6 bk7 ex8 gr11 s12 J10 => ?_) (fun gr20 r18 J19 => ?_) gr _ rfl
  · unfold f_M_feeds_w3
    refine wq_iload_n dX13_feeds_3 2 rfl rfl ?_
    refine wq_if_lt 48 dX13_feeds_4 (by decide) rfl (fun c17 => ?_) (fun c17 => ?_)
    · exact WQ.loc [] rfl (ex8 _ _ _)
    · refine wq_iload_n dX13_feeds_7 1 rfl rfl ?_
      refine wq_iload_n dX13_feeds_8 2 rfl rfl ?_
      refine wq_ishr dX13_feeds_9 ?_
      refine wq_sipush dX13_feeds_10 (by decide) ?_
      refine wq_iand dX13_feeds_13 ?_
      refine wq_istore_n (lv' := [(3, vi (ian (isr a1 s12) 255)), (0, vr Z 26 0), (1, vi a1), (2, vi s12)]) dX13_feeds_14 rfl (by decide) rfl ?_
      refine wq_iload_n dX13_feeds_15 0 rfl rfl ?_
      refine wq_if_ne 22 dX13_feeds_16 (by decide) rfl (fun c16 => ?_) (fun c16 => ?_)
      · refine wq_goto 42 dX13_feeds_19 (by decide) ?_
        refine wq_iinc (lv' := [(2, vi (s12 + (-8))), (3, vi (ian (isr a1 s12) 255)), (0, vr Z 26 0), (1, vi a1)]) dX13_feeds_42 3 rfl (by decide) rfl ?_
        refine wq_goto 3 dX13_feeds_45 (by decide) ?_
        exact WQ.loc [2, 3, 0] rfl (bk7 _ _ _)
      · refine wq_aload_n dX13_feeds_22 1 rfl rfl ?_
        refine g_26_19 ln_RX13_58 dX13_feeds_23 ?_
        refine wq_aload_n dX13_feeds_26 1 rfl rfl ?_
        refine g_26_20 ln_RX13_212 dX13_feeds_27 ?_
        refine wq_iload_n dX13_feeds_30 0 rfl rfl ?_
        refine wq_grd (fun g13 => ?_)
        refine wq_iast (k := 27) (i := 14) (fun _ _ => rfl) (by decide) rfl rfl (m := 600) g13 (Nat.le_of_ble_eq_true rfl) (by decide) (by decide) (by decide) dX13_feeds_31 (fun J14 => ?_)
        refine wq_aload_n dX13_feeds_32 1 rfl rfl ?_
        refine wq_dup dX13_feeds_33 rfl ?_
        refine g_26_20 ln_RX13_212 dX13_feeds_34 ?_
        refine wq_iconst dX13_feeds_37 ?_
        refine wq_iadd dX13_feeds_38 ?_
        refine p_26_20 ln_RX13_212 dX13_feeds_39 (fun J15 => ?_)
        refine wq_iinc (lv' := [(2, vi (s12 + (-8))), (3, vi (ian (isr a1 s12) 255)), (0, vr Z 26 0), (1, vi a1)]) dX13_feeds_42 3 rfl (by decide) rfl ?_
        refine wq_goto 3 dX13_feeds_45 (by decide) ?_
        exact WQ.loc [2, 3, 0] rfl (bk7 _ _ _)
  · exact wq_vret rfl rfl dX13_feeds_48
