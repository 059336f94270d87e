noncomputable def f_M_in (a0 : Int) (a1 : Int) (a2 : Int) (I : Mem) : Option (Int × Mem) :=
if (w32 a0) < (w32 a1) then
some (0, I)
else
if (w32 a2) < (w32 a0) then
some (0, I)
else
some (1, I)
set_option maxRecDepth 20000 in
theorem R_M_in (Z : ZT) (a0 : Int) (a1 : Int) (a2 : Int) (I : Mem) (r : Int) (J : Mem) (hf : f_M_in a0 a1 a2 I = some (r, J)) : Runs Z yX13_in cX13_in 3 (some .boolean) 1 [vi a0, vi a1, vi a2] I (some (vi r), J) := by
  refine Runs.of (rv := fun x => some (vi x)) (by decide +kernel) (Nat.le_of_ble_eq_true rfl) hf (fun gr => ?_)
  unfold f_M_in
  refine WQ.loc [0, 1, 2] (lv' := [(0, vi a0), (1, vi a1), (2, vi a2)]) rfl ?_
  refine wq_iload_n dX13_in_0 0 rfl rfl ?_
  refine wq_iload_n dX13_in_1 1 rfl rfl ?_
  refine wq_icmp_lt 14 dX13_in_2 (by decide) rfl rfl (fun c2 => ?_) (fun c2 => ?_)
  · refine wq_iconst dX13_in_14 ?_
    exact wq_zret rfl (by decide) rfl dX13_in_15
  · refine wq_iload_n dX13_in_5 0 rfl rfl ?_
    refine wq_iload_n dX13_in_6 2 rfl rfl ?_
    refine wq_icmp_gt 14 dX13_in_7 (by decide) rfl rfl (fun c1 => ?_) (fun c1 => ?_)
    · refine wq_iconst dX13_in_14 ?_
      exact wq_zret rfl (by decide) rfl dX13_in_15
    · refine wq_iconst dX13_in_10 ?_
      refine wq_goto 15 dX13_in_11 (by decide) ?_
      exact wq_zret rfl (by decide) rfl dX13_in_15

noncomputable def f_M_one (a0 : Int) (I : Mem) : Option (Int × Mem) :=
if (w32 a0) = 0 then
some (0, I)
else
some (1, I)
set_option maxRecDepth 20000 in
theorem R_M_one (Z : ZT) (a0 : Int) (I : Mem) (r : Int) (J : Mem) (hf : f_M_one a0 I = some (r, J)) : Runs Z yX13_one cX13_one 1 (some .int) 1 [vi a0] I (some (vi r), J) := by
  refine Runs.of (rv := fun x => some (vi x)) (by decide +kernel) (Nat.le_of_ble_eq_true rfl) hf (fun gr => ?_)
  unfold f_M_one
  refine WQ.loc [0] (lv' := [(0, vi a0)]) rfl ?_
  refine wq_iload_n dX13_one_0 0 rfl rfl ?_
  refine wq_if_eq 8 dX13_one_1 (by decide) rfl (fun c1 => ?_) (fun c1 => ?_)
  · refine wq_iconst dX13_one_8 ?_
    exact wq_iret rfl rfl dX13_one_9
  · refine wq_iconst dX13_one_4 ?_
    refine wq_goto 9 dX13_one_5 (by decide) ?_
    exact wq_iret rfl rfl dX13_one_9

theorem ln_RX13_100 : Cond.fieldLink RX13 100 RX13 "thrown" "I" ∈ lw_good := lw_in 1638 (by decide +kernel) (by decide +kernel)
noncomputable def f_M_fails_j16   (I : Mem) : Option ((Int) × Mem) :=
if (w32 (I 26 0 7)) = 0 then
some (0, I)
else
some (1, I)

noncomputable def f_M_fails (a1 : Int) (a2 : Int) (I : Mem) : Option (Int × Mem) :=
if (w32 (I 26 0 7)) = 0 then
if (w32 a1) = 0 then
f_M_fails_j16 I
else
ltI (sI I 26 0 7 a2) fun J2 =>
f_M_fails_j16 J2
else
f_M_fails_j16 I
set_option maxRecDepth 20000 in
theorem R_M_fails (Z : ZT) (a1 : Int) (a2 : Int) (I : Mem) (r : Int) (J : Mem) (hf : f_M_fails a1 a2 I = some (r, J)) : Runs Z yX13_fails cX13_fails 3 (some .boolean) 1 [vr Z 26 0, vi a1, vi a2] I (some (vi r), J) := by
  refine Runs.of (rv := fun x => some (vi x)) (by decide +kernel) (Nat.le_of_ble_eq_true rfl) hf (fun gr => ?_)
  unfold f_M_fails
  refine WQ.loc [0, 1, 2] (lv' := [(0, vr Z 26 0), (1, vi a1), (2, vi a2)]) rfl ?_
  refine wq_aload_n dX13_fails_0 0 rfl rfl ?_
  refine g_26_7 ln_RX13_100 dX13_fails_1 ?_
  have hj1 : ∀ (gr7 : Nat → Nat)   (J6 : Mem), WQ Z (yX13_fails, cX13_fails, 3, some .boolean, 1) I gr7 16 [(0, vr Z 26 0)] [] J6 (f_M_fails_j16 J6) (fun b K => some ((fun x => some (vi x)) b, K)) := by
    intro gr7 J6
    unfold f_M_fails_j16
    refine wq_aload_n dX13_fails_16 0 rfl rfl ?_
    refine g_26_7 ln_RX13_100 dX13_fails_17 ?_
    refine wq_if_eq 27 dX13_fails_20 (by decide) rfl (fun c8 => ?_) (fun c8 => ?_)
    · refine wq_iconst dX13_fails_27 ?_
      exact wq_zret rfl (by decide) rfl dX13_fails_28
    · refine wq_iconst dX13_fails_23 ?_
      refine wq_goto 28 dX13_fails_24 (by decide) ?_
      exact wq_zret rfl (by decide) rfl dX13_fails_28
  refine wq_if_ne 16 dX13_fails_4 (by decide) rfl (fun c4 => ?_) (fun c4 => ?_)
  · refine wq_iload_n dX13_fails_7 1 rfl rfl ?_
    refine wq_if_eq 16 dX13_fails_8 (by decide) rfl (fun c3 => ?_) (fun c3 => ?_)
    · exact WQ.loc [0] rfl (hj1 _   _)
    · refine wq_aload_n dX13_fails_11 0 rfl rfl ?_
      refine wq_iload_n dX13_fails_12 2 rfl rfl ?_
      refine p_26_7 ln_RX13_100 dX13_fails_13 (fun J2 => ?_)
      exact WQ.loc [0] rfl (hj1 _   _)
  · exact WQ.loc [0] rfl (hj1 _   _)

noncomputable def f_M_lays_w3 (v0 : Nat) (v1 : Int) (v2 : Nat) (v3 : Int) (s : Int) (I : Mem) : Option (((Int) ⊕ (Unit)) × Mem) :=
if (w32 s) < 16860 then
if 0 ≤ (w32 (v1 + s)) ∧ (w32 (v1 + s)) < ((mLen v0 : Nat) : Int) then
if 0 ≤ (w32 (v3 + s)) ∧ (w32 (v3 + s)) < ((mLen v2 : Nat) : Int) then
ltI (sI I 27 v2 (w32 (v3 + s)).toNat (I 27 v0 (w32 (v1 + s)).toNat)) fun J3 =>
some (.inl (s + 1), J3)
else none
else none
else
some (.inr (), I)

noncomputable def f_M_lays (a0 : Nat) (a1 : Int) (a2 : Nat) (a3 : Int) (I : Mem) : Option (Unit × Mem) :=
if a0 < 23 then
if a2 < 23 then
bnd (whl (f_M_lays_w3 a0 a1 a2 a3) 0 I) fun r16 J17 =>
some ((), J17)
else none
else none
set_option maxRecDepth 20000 in
theorem R_M_lays (Z : ZT) (a0 : Nat) (a1 : Int) (a2 : Nat) (a3 : Int) (I : Mem) (r : Unit) (J : Mem) (hf : f_M_lays a0 a1 a2 a3 I = some (r, J)) : Runs Z yX13_lays cX13_lays 5 (none) 1 [vr Z 27 a0, vi a1, vr Z 27 a2, vi a3] I (none, J) := by
  refine Runs.of (rv := fun _ => none) (by decide +kernel) (Nat.le_of_ble_eq_true rfl) hf (fun gr => ?_)
  unfold f_M_lays
  refine WQ.loc [0, 1, 2, 3] (lv' := [(0, vr Z 27 a0), (1, vi a1), (2, vr Z 27 a2), (3, vi a3)]) rfl ?_
  refine wq_grd (fun h0 => ?_)
  refine wq_grd (fun h2 => ?_)
  refine wq_iconst dX13_lays_0 ?_
  refine wq_istore (lv' := [(4, vi 0), (0, vr Z 27 a0), (1, vi a1), (2, vr Z 27 a2), (3, vi a3)]) dX13_lays_1 (by decide) rfl ?_
  refine WQ.loc [1, 2, 3, 4, 0] (lv' := [(0, vr Z 27 a0), (1, vi a1), (2, vr Z 27 a2), (3, vi a3), (4, vi 0)]) rfl ?_
  refine wq_loopS (fun s11 => [(0, vr Z 27 a0), (1, vi a1), (2, vr Z 27 a2), (3, vi a3), (4, vi s11)]) 29 (fun _ => []) (fun κ5 bk6 ex7 gr10 s11 J9 => ?_) (fun gr18 r16 J17 => ?_) gr _ rfl
  · unfold f_M_lays_w3
    refine wq_iload dX13_lays_3 4 rfl ?_
    refine wq_sipush dX13_lays_5 (by decide) ?_
    refine wq_icmp_ge 29 dX13_lays_8 (by decide) rfl rfl (fun c15 => ?_) (fun c15 => ?_)
    · refine wq_aload_n dX13_lays_11 2 rfl rfl ?_
      refine wq_iload_n dX13_lays_12 3 rfl rfl ?_
      refine wq_iload dX13_lays_13 4 rfl ?_
      refine wq_iadd dX13_lays_15 ?_
      refine wq_aload_n dX13_lays_16 0 rfl rfl ?_
      refine wq_iload_n dX13_lays_17 1 rfl rfl ?_
      refine wq_iload dX13_lays_18 4 rfl ?_
      refine wq_iadd dX13_lays_20 ?_
      refine wq_grd (fun g12 => ?_)
      refine wq_iald (k := 27) (i := a0) rfl h0 rfl rfl (m := ((mLen a0 : Nat) : Int)) g12 (Nat.le_of_eq (Int.toNat_natCast _)) dX13_lays_21 ?_
      refine wq_grd (fun g13 => ?_)
      refine wq_iast (k := 27) (i := a2) (fun _ _ => rfl) h2 rfl rfl (m := ((mLen a2 : Nat) : Int)) g13 (Nat.le_of_eq (Int.toNat_natCast _)) (by decide) (by decide) (by decide) dX13_lays_22 (fun J14 => ?_)
      refine wq_iinc (lv' := [(4, vi (s11 + 1)), (0, vr Z 27 a0), (1, vi a1), (2, vr Z 27 a2), (3, vi a3)]) dX13_lays_23 4 rfl (by decide) rfl ?_
      refine wq_goto 3 dX13_lays_26 (by decide) ?_
      exact WQ.loc [1, 2, 3, 4, 0] rfl (bk6 _ _ _)
    · exact WQ.loc [] rfl (ex7 _ _ _)
  · exact wq_vret rfl rfl dX13_lays_29

theorem ln_RX13_9 : Cond.fieldLink RX13 9 RX13 "w" "[I" ∈ lw_good := lw_in 1631 (by decide +kernel) (by decide +kernel)
noncomputable def f_M_begins_w2  (s : Int) (I : Mem) : Option (((Int) ⊕ (Unit)) × Mem) :=
if (w32 s) < 16860 then
if 0 ≤ (w32 s) ∧ (w32 s) < 16860 then
ltI (sI I 27 0 (w32 s).toNat 0) fun J2 =>
some (.inl (s + 1), J2)
else none
else
some (.inr (), I)

noncomputable def f_M_begins  (I : Mem) : Option (Unit × Mem) :=
bnd (whl (f_M_begins_w2) 0 I) fun r14 J15 =>
ltI (sI J15 27 0 0 2) fun J18 =>
ltI (sI J18 27 0 2 1) fun J20 =>
some ((), J20)
set_option maxRecDepth 20000 in
theorem R_M_begins (Z : ZT)  (I : Mem) (r : Unit) (J : Mem) (hf : f_M_begins I = some (r, J)) : Runs Z yX13_begins cX13_begins 2 (none) 1 [vr Z 26 0] I (none, J) := by
  refine Runs.of (rv := fun _ => none) (by decide +kernel) (Nat.le_of_ble_eq_true rfl) hf (fun gr => ?_)
  unfold f_M_begins
  refine WQ.loc [0] (lv' := [(0, vr Z 26 0)]) rfl ?_
  refine wq_iconst dX13_begins_0 ?_
  refine wq_istore_n (lv' := [(1, vi 0), (0, vr Z 26 0)]) dX13_begins_1 rfl (by decide) rfl ?_
  refine WQ.loc [1, 0] (lv' := [(0, vr Z 26 0), (1, vi 0)]) rfl ?_
  refine wq_loopS (fun s10 => [(0, vr Z 26 0), (1, vi s10)]) 22 (fun _ => [(0, vr Z 26 0)]) (fun κ4 bk5 ex6 gr9 s10 J8 => ?_) (fun gr16 r14 J15 => ?_) gr _ rfl
  · unfold f_M_begins_w2
    refine wq_iload_n dX13_begins_2 1 rfl rfl ?_
    refine wq_sipush dX13_begins_3 (by decide) ?_
    refine wq_icmp_ge 22 dX13_begins_6 (by decide) rfl rfl (fun c13 => ?_) (fun c13 => ?_)
    · refine wq_aload_n dX13_begins_9 0 rfl rfl ?_
      refine g_26_0 ln_RX13_9 dX13_begins_10 ?_
      refine wq_iload_n dX13_begins_13 1 rfl rfl ?_
      refine wq_iconst dX13_begins_14 ?_
      refine wq_grd (fun g11 => ?_)
      refine wq_iast (k := 27) (i := 0) (fun _ _ => rfl) (by decide) rfl rfl (m := 16860) g11 (Nat.le_of_ble_eq_true rfl) (by decide) (by decide) (by decide) dX13_begins_15 (fun J12 => ?_)
      refine wq_iinc (lv' := [(1, vi (s10 + 1)), (0, vr Z 26 0)]) dX13_begins_16 1 rfl (by decide) rfl ?_
      refine wq_goto 2 dX13_begins_19 (by decide) ?_
      exact WQ.loc [1, 0] rfl (bk5 _ _ _)
    · exact WQ.loc [0] rfl (ex6 _ _ _)
  · refine wq_aload_n dX13_begins_22 0 rfl rfl ?_
    refine g_26_0 ln_RX13_9 dX13_begins_23 ?_
    refine wq_iconst dX13_begins_26 ?_
    refine wq_iconst dX13_begins_27 ?_
    refine wq_iast (k := 27) (i := 0) (fun _ _ => rfl) (by decide) rfl rfl (m := 16860) (by decide) (Nat.le_of_ble_eq_true rfl) (by decide) (by decide) (by decide) dX13_begins_28 (fun J18 => ?_)
    refine wq_aload_n dX13_begins_29 0 rfl rfl ?_
    refine g_26_0 ln_RX13_9 dX13_begins_30 ?_
    refine wq_iconst dX13_begins_33 ?_
    refine wq_iconst dX13_begins_34 ?_
    refine wq_iast (k := 27) (i := 0) (fun _ _ => rfl) (by decide) rfl rfl (m := 16860) (by decide) (Nat.le_of_ble_eq_true rfl) (by decide) (by decide) (by decide) dX13_begins_35 (fun J20 => ?_)
    exact wq_vret rfl rfl dX13_begins_36

noncomputable def f_M_counts (a1 : Int) (a2 : Int) (I : Mem) : Option (Unit × Mem) :=
if 0 ≤ (w32 (6 + a1)) ∧ (w32 (6 + a1)) < 16860 then
ltI (sI I 27 0 (w32 (6 + a1)).toNat ((I 27 0 (w32 (6 + a1)).toNat) + a2)) fun J2 =>
some ((), J2)
else none
set_option maxRecDepth 20000 in
theorem R_M_counts (Z : ZT) (a1 : Int) (a2 : Int) (I : Mem) (r : Unit) (J : Mem) (hf : f_M_counts a1 a2 I = some (r, J)) : Runs Z yX13_counts cX13_counts 3 (none) 1 [vr Z 26 0, vi a1, vi a2] I (none, J) := by
  refine Runs.of (rv := fun _ => none) (by decide +kernel) (Nat.le_of_ble_eq_true rfl) hf (fun gr => ?_)
  unfold f_M_counts
  refine WQ.loc [0, 1, 2] (lv' := [(0, vr Z 26 0), (1, vi a1), (2, vi a2)]) rfl ?_
  refine wq_aload_n dX13_counts_0 0 rfl rfl ?_
  refine g_26_0 ln_RX13_9 dX13_counts_1 ?_
  refine wq_bipush dX13_counts_4 (by decide) ?_
  refine wq_iload_n dX13_counts_6 1 rfl rfl ?_
  refine wq_iadd dX13_counts_7 ?_
  refine wq_dup2 dX13_counts_8 rfl rfl ?_
  refine wq_grd (fun g1 => ?_)
  refine wq_iald (k := 27) (i := 0) rfl (by decide) rfl rfl (m := 16860) g1 (Nat.le_of_ble_eq_true rfl) dX13_counts_9 ?_
  refine wq_iload_n dX13_counts_10 2 rfl rfl ?_
  refine wq_iadd dX13_counts_11 ?_
  refine wq_iast (k := 27) (i := 0) (fun _ _ => rfl) (by decide) rfl rfl (m := 16860) g1 (Nat.le_of_ble_eq_true rfl) (by decide) (by decide) (by decide) dX13_counts_12 (fun J2 => ?_)
  exact wq_vret rfl rfl dX13_counts_13

noncomputable def f_M_many (a1 : Int) (I : Mem) : Option (Int × Mem) :=
if 0 ≤ (w32 (16 + a1)) ∧ (w32 (16 + a1)) < 16860 then
some ((I 27 0 (w32 (16 + a1)).toNat), I)
else none
set_option maxRecDepth 20000 in
theorem R_M_many (Z : ZT) (a1 : Int) (I : Mem) (r : Int) (J : Mem) (hf : f_M_many a1 I = some (r, J)) : Runs Z yX13_many cX13_many 2 (some .int) 1 [vr Z 26 0, vi a1] I (some (vi r), J) := by
  refine Runs.of (rv := fun x => some (vi x)) (by decide +kernel) (Nat.le_of_ble_eq_true rfl) hf (fun gr => ?_)
  unfold f_M_many
  refine WQ.loc [0, 1] (lv' := [(0, vr Z 26 0), (1, vi a1)]) rfl ?_
  refine wq_aload_n dX13_many_0 0 rfl rfl ?_
  refine g_26_0 ln_RX13_9 dX13_many_1 ?_
  refine wq_bipush dX13_many_4 (by decide) ?_
  refine wq_iload_n dX13_many_6 1 rfl rfl ?_
  refine wq_iadd dX13_many_7 ?_
  refine wq_grd (fun g1 => ?_)
  refine wq_iald (k := 27) (i := 0) rfl (by decide) rfl rfl (m := 16860) g1 (Nat.le_of_ble_eq_true rfl) dX13_many_8 ?_
  exact wq_iret rfl rfl dX13_many_9

noncomputable def f_M_at (a1 : Int) (a2 : Int) (I : Mem) : Option (Int × Mem) :=
if 0 ≤ (w32 ((60 + (400 * a1)) + a2)) ∧ (w32 ((60 + (400 * a1)) + a2)) < 16860 then
some ((I 27 0 (w32 ((60 + (400 * a1)) + a2)).toNat), I)
else none
set_option maxRecDepth 20000 in
theorem R_M_at (Z : ZT) (a1 : Int) (a2 : Int) (I : Mem) (r : Int) (J : Mem) (hf : f_M_at a1 a2 I = some (r, J)) : Runs Z yX13_at cX13_at 3 (some .int) 1 [vr Z 26 0, vi a1, vi a2] I (some (vi r), J) := by
  refine Runs.of (rv := fun x => some (vi x)) (by decide +kernel) (Nat.le_of_ble_eq_true rfl) hf (fun gr => ?_)
  unfold f_M_at
  refine WQ.loc [0, 1, 2] (lv' := [(0, vr Z 26 0), (1, vi a1), (2, vi a2)]) rfl ?_
  refine wq_aload_n dX13_at_0 0 rfl rfl ?_
  refine g_26_0 ln_RX13_9 dX13_at_1 ?_
  refine wq_bipush dX13_at_4 (by decide) ?_
  refine wq_sipush dX13_at_6 (by decide) ?_
  refine wq_iload_n dX13_at_9 1 rfl rfl ?_
  refine wq_imul dX13_at_10 ?_
  refine wq_iadd dX13_at_11 ?_
  refine wq_iload_n dX13_at_12 2 rfl rfl ?_
  refine wq_iadd dX13_at_13 ?_
  refine wq_grd (fun g1 => ?_)
  refine wq_iald (k := 27) (i := 0) rfl (by decide) rfl rfl (m := 16860) g1 (Nat.le_of_ble_eq_true rfl) dX13_at_14 ?_
  exact wq_iret rfl rfl dX13_at_15

noncomputable def f_M_puts (a1 : Int) (a2 : Int) (a3 : Int) (I : Mem) : Option (Unit × Mem) :=
if 0 ≤ (w32 ((60 + (400 * a1)) + a2)) ∧ (w32 ((60 + (400 * a1)) + a2)) < 16860 then
ltI (sI I 27 0 (w32 ((60 + (400 * a1)) + a2)).toNat a3) fun J2 =>
some ((), J2)
else none
set_option maxRecDepth 20000 in
theorem R_M_puts (Z : ZT) (a1 : Int) (a2 : Int) (a3 : Int) (I : Mem) (r : Unit) (J : Mem) (hf : f_M_puts a1 a2 a3 I = some (r, J)) : Runs Z yX13_puts cX13_puts 4 (none) 1 [vr Z 26 0, vi a1, vi a2, vi a3] I (none, J) := by
  refine Runs.of (rv := fun _ => none) (by decide +kernel) (Nat.le_of_ble_eq_true rfl) hf (fun gr => ?_)
  unfold f_M_puts
  refine WQ.loc [0, 1, 2, 3] (lv' := [(0, vr Z 26 0), (1, vi a1), (2, vi a2), (3, vi a3)]) rfl ?_
  refine wq_aload_n dX13_puts_0 0 rfl rfl ?_
  refine g_26_0 ln_RX13_9 dX13_puts_1 ?_
  refine wq_bipush dX13_puts_4 (by decide) ?_
  refine wq_sipush dX13_puts_6 (by decide) ?_
  refine wq_iload_n dX13_puts_9 1 rfl rfl ?_
  refine wq_imul dX13_puts_10 ?_
  refine wq_iadd dX13_puts_11 ?_
  refine wq_iload_n dX13_puts_12 2 rfl rfl ?_
  refine wq_iadd dX13_puts_13 ?_
  refine wq_iload_n dX13_puts_14 3 rfl rfl ?_
  refine wq_grd (fun g1 => ?_)
  refine wq_iast (k := 27) (i := 0) (fun _ _ => rfl) (by decide) rfl rfl (m := 16860) g1 (Nat.le_of_ble_eq_true rfl) (by decide) (by decide) (by decide) dX13_puts_15 (fun J2 => ?_)
  exact wq_vret rfl rfl dX13_puts_16

theorem M_M_many : MwV yX13_many cX13_many 2 (some .int) 1 := ⟨lw_in 1603 (by decide +kernel) (by decide +kernel), lw_in 1602 (by decide +kernel) (by decide +kernel), lw_in 49 (by decide +kernel) (by decide +kernel), lw_in 153 (by decide +kernel) (by decide +kernel), by decide +kernel⟩
theorem M_M_puts : MwV yX13_puts cX13_puts 4 (none) 3 := ⟨lw_in 1607 (by decide +kernel) (by decide +kernel), lw_in 1606 (by decide +kernel) (by decide +kernel), lw_in 50 (by decide +kernel) (by decide +kernel), lw_in 153 (by decide +kernel) (by decide +kernel), by decide +kernel⟩
theorem ln_RX13_107 : Cond.methodLink RX13 107 yX13_puts ∈ lw_good := lw_in 1604 (by decide +kernel) (by decide +kernel)
theorem ln_RX13_103 : Cond.methodLink RX13 103 yX13_many ∈ lw_good := lw_in 1600 (by decide +kernel) (by decide +kernel)
noncomputable def f_M_adds (a1 : Int) (a2 : Int) (I : Mem) : Option (Unit × Mem) :=
bnd (f_M_many a1 I) fun x3 J2 =>
bnd (f_M_puts a1 x3 a2 J2) fun _ J5 =>
if 0 ≤ (w32 (16 + a1)) ∧ (w32 (16 + a1)) < 16860 then
ltI (sI J5 27 0 (w32 (16 + a1)).toNat ((J5 27 0 (w32 (16 + a1)).toNat) + 1)) fun J8 =>
some ((), J8)
else none
set_option maxRecDepth 20000 in
theorem R_M_adds (Z : ZT) (a1 : Int) (a2 : Int) (I : Mem) (r : Unit) (J : Mem) (hf : f_M_adds a1 a2 I = some (r, J)) : Runs Z yX13_adds cX13_adds 3 (none) 2 [vr Z 26 0, vi a1, vi a2] I (none, J) := by
  refine Runs.of (rv := fun _ => none) (by decide +kernel) (Nat.le_of_ble_eq_true rfl) hf (fun gr => ?_)
  unfold f_M_adds
  refine WQ.loc [0, 1, 2] (lv' := [(0, vr Z 26 0), (1, vi a1), (2, vi a2)]) rfl ?_
  refine wq_aload_n dX13_adds_0 0 rfl rfl ?_
  refine wq_iload_n dX13_adds_1 1 rfl rfl ?_
  refine wq_aload_n dX13_adds_2 0 rfl rfl ?_
  refine wq_iload_n dX13_adds_3 1 rfl rfl ?_
  refine wq_cVi M_M_many (R_M_many Z a1 _) ob_26 rfl rfl (by decide) (by decide) (Nat.le_of_ble_eq_true rfl) ln_RX13_103 dX13_adds_4 (fun gr1 x3 J2 => ?_)
  refine wq_iload_n dX13_adds_7 2 rfl rfl ?_
  refine wq_cVv M_M_puts (R_M_puts Z a1 x3 a2 _) ob_26 rfl rfl (by decide) (by decide) (Nat.le_of_ble_eq_true rfl) ln_RX13_107 dX13_adds_8 (fun gr4 _ J5 => ?_)
  refine wq_aload_n dX13_adds_11 0 rfl rfl ?_
  refine g_26_0 ln_RX13_9 dX13_adds_12 ?_
  refine wq_bipush dX13_adds_15 (by decide) ?_
  refine wq_iload_n dX13_adds_17 1 rfl rfl ?_
  refine wq_iadd dX13_adds_18 ?_
  refine wq_dup2 dX13_adds_19 rfl rfl ?_
  refine wq_grd (fun g7 => ?_)
  refine wq_iald (k := 27) (i := 0) rfl (by decide) rfl rfl (m := 16860) g7 (Nat.le_of_ble_eq_true rfl) dX13_adds_20 ?_
  refine wq_iconst dX13_adds_21 ?_
  refine wq_iadd dX13_adds_22 ?_
  refine wq_iast (k := 27) (i := 0) (fun _ _ => rfl) (by decide) rfl rfl (m := 16860) g7 (Nat.le_of_ble_eq_true rfl) (by decide) (by decide) (by decide) dX13_adds_23 (fun J8 => ?_)
  exact wq_vret rfl rfl dX13_adds_24

noncomputable def f_M_isHere (a1 : Int) (I : Mem) : Option (Int × Mem) :=
bnd (f_M_many (a1 + 1) I) fun x3 J2 =>
if 0 < (w32 x3) then
some (1, J2)
else
some (0, J2)
set_option maxRecDepth 20000 in
theorem R_M_isHere (Z : ZT) (a1 : Int) (I : Mem) (r : Int) (J : Mem) (hf : f_M_isHere a1 I = some (r, J)) : Runs Z yX13_isHere cX13_isHere 2 (some .boolean) 2 [vr Z 26 0, vi a1] I (some (vi r), J) := by
  refine Runs.of (rv := fun x => some (vi x)) (by decide +kernel) (Nat.le_of_ble_eq_true rfl) hf (fun gr => ?_)
  unfold f_M_isHere
  refine WQ.loc [0, 1] (lv' := [(0, vr Z 26 0), (1, vi a1)]) rfl ?_
  refine wq_aload_n dX13_isHere_0 0 rfl rfl ?_
  refine wq_iload_n dX13_isHere_1 1 rfl rfl ?_
  refine wq_iconst dX13_isHere_2 ?_
  refine wq_iadd dX13_isHere_3 ?_
  refine wq_cVi M_M_many (R_M_many Z (a1 + 1) _) ob_26 rfl rfl (by decide) (by decide) (Nat.le_of_ble_eq_true rfl) ln_RX13_103 dX13_isHere_4 (fun gr1 x3 J2 => ?_)
  refine wq_if_le 14 dX13_isHere_7 (by decide) rfl (fun c4 => ?_) (fun c4 => ?_)
  · refine wq_iconst dX13_isHere_10 ?_
    refine wq_goto 15 dX13_isHere_11 (by decide) ?_
    exact wq_zret rfl (by decide) rfl dX13_isHere_15
  · refine wq_iconst dX13_isHere_14 ?_
    exact wq_zret rfl (by decide) rfl dX13_isHere_15

theorem M_M_isHere : MwV yX13_isHere cX13_isHere 2 (some .boolean) 1 := ⟨lw_in 1627 (by decide +kernel) (by decide +kernel), lw_in 1626 (by decide +kernel) (by decide +kernel), lw_in 55 (by decide +kernel) (by decide +kernel), lw_in 153 (by decide +kernel) (by decide +kernel), by decide +kernel⟩
theorem M_M_one : MwS yX13_one cX13_one 1 (some .int) 1 := ⟨lw_in 1630 (by decide +kernel) (by decide +kernel), lw_in 1629 (by decide +kernel) (by decide +kernel), lw_in 153 (by decide +kernel) (by decide +kernel), by decide +kernel⟩
theorem ln_RX13_115 : Cond.methodLink RX13 115 yX13_one ∈ lw_good := lw_in 1628 (by decide +kernel) (by decide +kernel)
theorem ln_RX13_111 : Cond.methodLink RX13 111 yX13_isHere ∈ lw_good := lw_in 1624 (by decide +kernel) (by decide +kernel)
noncomputable def f_M_rules_w4  (s : Int × Int) (I : Mem) : Option (((Int × Int) ⊕ (Int)) × Mem) :=
if (w32 s.2) < 40 then
bnd (f_M_isHere s.2 I) fun x3 J2 =>
bnd (f_M_one x3 J2) fun x6 J5 =>
some (.inl ((s.1 + x6), (s.2 + 1)), J5)
else
some (.inr s.1, I)

noncomputable def f_M_rules  (I : Mem) : Option (Int × Mem) :=
bnd (whl (f_M_rules_w4) (0, 0) I) fun r22 J23 =>
some (r22, J23)
set_option maxRecDepth 20000 in
theorem R_M_rules (Z : ZT)  (I : Mem) (r : Int) (J : Mem) (hf : f_M_rules I = some (r, J)) : Runs Z yX13_rules cX13_rules 3 (some .int) 3 [vr Z 26 0] I (some (vi r), J) := by
  refine Runs.of (rv := fun x => some (vi x)) (by decide +kernel) (Nat.le_of_ble_eq_true rfl) hf (fun gr => ?_)
  unfold f_M_rules
  refine WQ.loc [0] (lv' := [(0, vr Z 26 0)]) rfl ?_
  refine wq_iconst dX13_rules_0 ?_
  refine wq_istore_n (lv' := [(1, vi 0), (0, vr Z 26 0)]) dX13_rules_1 rfl (by decide) rfl ?_
  refine wq_iconst dX13_rules_2 ?_
  refine wq_istore_n (lv' := [(2, vi 0), (1, vi 0), (0, vr Z 26 0)]) dX13_rules_3 rfl (by decide) rfl ?_
  refine WQ.loc [2, 1, 0] (lv' := [(0, vr Z 26 0), (1, vi 0), (2, vi 0)]) rfl ?_
  refine wq_loopS (fun s14 => [(0, vr Z 26 0), (1, vi s14.1), (2, vi s14.2)]) 27 (fun r22 => [(1, vi r22)]) (fun κ8 bk9 ex10 gr13 s14 J12 => ?_) (fun gr24 r22 J23 => ?_) gr _ rfl
  · unfold f_M_rules_w4
    refine wq_iload_n dX13_rules_4 2 rfl rfl ?_
    refine wq_bipush dX13_rules_5 (by decide) ?_
    refine wq_icmp_ge 27 dX13_rules_7 (by decide) rfl rfl (fun c21 => ?_) (fun c21 => ?_)
    · refine wq_iload_n dX13_rules_10 1 rfl rfl ?_
      refine wq_aload_n dX13_rules_11 0 rfl rfl ?_
      refine wq_iload_n dX13_rules_12 2 rfl rfl ?_
      refine wq_cVi M_M_isHere (R_M_isHere Z s14.2 _) ob_26 rfl rfl (by decide) (by decide) (Nat.le_of_ble_eq_true rfl) ln_RX13_111 dX13_rules_13 (fun gr15 x17 J16 => ?_)
      refine wq_cSi M_M_one (R_M_one Z x17 _) rfl rfl rfl (by decide) (by decide) (Nat.le_of_ble_eq_true rfl) ln_RX13_115 dX13_rules_16 (fun gr18 x20 J19 => ?_)
      refine wq_iadd dX13_rules_19 ?_
      refine wq_istore_n (lv' := [(1, vi (s14.1 + x20)), (0, vr Z 26 0), (2, vi s14.2)]) dX13_rules_20 rfl (by decide) rfl ?_
      refine wq_iinc (lv' := [(2, vi (s14.2 + 1)), (1, vi (s14.1 + x20)), (0, vr Z 26 0)]) dX13_rules_21 2 rfl (by decide) rfl ?_
      refine wq_goto 4 dX13_rules_24 (by decide) ?_
      exact WQ.loc [2, 1, 0] rfl (bk9 _ _ _)
    · exact WQ.loc [1] rfl (ex10 _ _ _)
  · refine wq_iload_n dX13_rules_27 0 rfl rfl ?_
    exact wq_iret rfl rfl dX13_rules_28

theorem ln_RX5_15 : Cond.fieldLink RX5 15 RX5 "many" "I" ∈ lw_good := lw_in 188 (by decide +kernel) (by decide +kernel)
noncomputable def f_Row_many (t : Nat) (I : Mem) : Option (Int × Mem) :=
if t < 516 then
some ((I 2 t 1), I)
else none
set_option maxRecDepth 20000 in
theorem R_Row_many (Z : ZT) (t : Nat) (I : Mem) (r : Int) (J : Mem) (hf : f_Row_many t I = some (r, J)) : Runs Z yX5_many cX5_many 1 (some .int) 1 [vr Z 2 t] I (some (vi r), J) := by
  refine Runs.of (rv := fun x => some (vi x)) (by decide +kernel) (Nat.le_of_ble_eq_true rfl) hf (fun gr => ?_)
  unfold f_Row_many
  refine WQ.loc [0] (lv' := [(0, vr Z 2 t)]) rfl ?_
  refine wq_grd (fun ht => ?_)
  refine wq_aload_n dX5_many_0 0 rfl rfl ?_
  refine g_2_1 ht ln_RX5_15 dX5_many_1 ?_
  exact wq_iret rfl rfl dX5_many_4

theorem ln_RX5_9 : Cond.fieldLink RX5 9 RX5 "cells" "[I" ∈ lw_good := lw_in 187 (by decide +kernel) (by decide +kernel)
noncomputable def f_Row_at (t : Nat) (a1 : Int) (I : Mem) : Option (Int × Mem) :=
if t < 516 then
if (w32 a1) < 0 then
some ((-1), I)
else
if (w32 a1) < (w32 (I 2 t 1)) then
if 0 ≤ (w32 a1) ∧ (w32 a1) < (I 2 t 2) then
some ((I 12 t (w32 a1).toNat), I)
else none
else
some ((-1), I)
else none
set_option maxRecDepth 20000 in
theorem R_Row_at (Z : ZT) (t : Nat) (a1 : Int) (I : Mem) (r : Int) (J : Mem) (hf : f_Row_at t a1 I = some (r, J)) : Runs Z yX5_at cX5_at 2 (some .int) 1 [vr Z 2 t, vi a1] I (some (vi r), J) := by
  refine Runs.of (rv := fun x => some (vi x)) (by decide +kernel) (Nat.le_of_ble_eq_true rfl) hf (fun gr => ?_)
  unfold f_Row_at
  refine WQ.loc [0, 1] (lv' := [(0, vr Z 2 t), (1, vi a1)]) rfl ?_
  refine wq_grd (fun ht => ?_)
  refine wq_iload_n dX5_at_0 1 rfl rfl ?_
  refine wq_if_lt 21 dX5_at_1 (by decide) rfl (fun c3 => ?_) (fun c3 => ?_)
  · refine wq_iconst dX5_at_21 ?_
    exact wq_iret rfl rfl dX5_at_22
  · refine wq_iload_n dX5_at_4 1 rfl rfl ?_
    refine wq_aload_n dX5_at_5 0 rfl rfl ?_
    refine g_2_1 ht ln_RX5_15 dX5_at_6 ?_
    refine wq_icmp_ge 21 dX5_at_9 (by decide) rfl rfl (fun c2 => ?_) (fun c2 => ?_)
    · refine wq_aload_n dX5_at_12 0 rfl rfl ?_
      refine g_2_0 ht ln_RX5_9 dX5_at_13 ?_
      refine wq_iload_n dX5_at_16 1 rfl rfl ?_
      refine wq_grd (fun g1 => ?_)
      refine wq_iald (k := 12) (i := t) rfl ht rfl rfl (m := (I 2 t 2)) g1 (Nat.le_refl _) dX5_at_17 ?_
      refine wq_goto 22 dX5_at_18 (by decide) ?_
      exact wq_iret rfl rfl dX5_at_22
    · refine wq_iconst dX5_at_21 ?_
      exact wq_iret rfl rfl dX5_at_22

noncomputable def f_Row_clear (t : Nat) (I : Mem) : Option (Unit × Mem) :=
if t < 516 then
ltI (sI I 2 t 1 0) fun J1 =>
some ((), J1)
else none
set_option maxRecDepth 20000 in
theorem R_Row_clear (Z : ZT) (t : Nat) (I : Mem) (r : Unit) (J : Mem) (hf : f_Row_clear t I = some (r, J)) : Runs Z yX5_clear cX5_clear 1 (none) 1 [vr Z 2 t] I (none, J) := by
  refine Runs.of (rv := fun _ => none) (by decide +kernel) (Nat.le_of_ble_eq_true rfl) hf (fun gr => ?_)
  unfold f_Row_clear
  refine WQ.loc [0] (lv' := [(0, vr Z 2 t)]) rfl ?_
  refine wq_grd (fun ht => ?_)
  refine wq_aload_n dX5_clear_0 0 rfl rfl ?_
  refine wq_iconst dX5_clear_1 ?_
  refine p_2_1 ht ln_RX5_15 dX5_clear_2 (fun J1 => ?_)
  exact wq_vret rfl rfl dX5_clear_5

noncomputable def f_Row_drop (t : Nat) (a1 : Int) (I : Mem) : Option (Unit × Mem) :=
if t < 516 then
if (w32 a1) < (w32 (I 2 t 1)) then
ltI (sI I 2 t 1 ((I 2 t 1) - a1)) fun J2 =>
some ((), J2)
else
ltI (sI I 2 t 1 0) fun J1 =>
some ((), J1)
else none
set_option maxRecDepth 20000 in
theorem R_Row_drop (Z : ZT) (t : Nat) (a1 : Int) (I : Mem) (r : Unit) (J : Mem) (hf : f_Row_drop t a1 I = some (r, J)) : Runs Z yX5_drop cX5_drop 2 (none) 1 [vr Z 2 t, vi a1] I (none, J) := by
  refine Runs.of (rv := fun _ => none) (by decide +kernel) (Nat.le_of_ble_eq_true rfl) hf (fun gr => ?_)
  unfold f_Row_drop
  refine WQ.loc [0, 1] (lv' := [(0, vr Z 2 t), (1, vi a1)]) rfl ?_
  refine wq_grd (fun ht => ?_)
  refine wq_aload_n dX5_drop_0 0 rfl rfl ?_
  refine wq_iload_n dX5_drop_1 1 rfl rfl ?_
  refine wq_aload_n dX5_drop_2 0 rfl rfl ?_
  refine g_2_1 ht ln_RX5_15 dX5_drop_3 ?_
  refine wq_icmp_ge 18 dX5_drop_6 (by decide) rfl rfl (fun c3 => ?_) (fun c3 => ?_)
  · refine wq_aload_n dX5_drop_9 0 rfl rfl ?_
    refine g_2_1 ht ln_RX5_15 dX5_drop_10 ?_
    refine wq_iload_n dX5_drop_13 1 rfl rfl ?_
    refine wq_isub dX5_drop_14 ?_
    refine wq_goto 19 dX5_drop_15 (by decide) ?_
    refine p_2_1 ht ln_RX5_15 dX5_drop_19 (fun J2 => ?_)
    exact wq_vret rfl rfl dX5_drop_22
  · refine wq_iconst dX5_drop_18 ?_
    refine p_2_1 ht ln_RX5_15 dX5_drop_19 (fun J1 => ?_)
    exact wq_vret rfl rfl dX5_drop_22

noncomputable def f_Row_isPair (t : Nat) (a1 : Int) (a2 : Int) (I : Mem) : Option (Int × Mem) :=
if t < 516 then
if (w32 (I 2 t 1)) = 2 then
if 0 ≤ 0 ∧ 0 < (I 2 t 2) then
if (w32 (I 12 t 0)) = (w32 a1) then
if 0 ≤ 1 ∧ 1 < (I 2 t 2) then
if (w32 (I 12 t 1)) = (w32 a2) then
some (1, I)
else
some (0, I)
else none
else
some (0, I)
else none
else
some (0, I)
else none
set_option maxRecDepth 20000 in
theorem R_Row_isPair (Z : ZT) (t : Nat) (a1 : Int) (a2 : Int) (I : Mem) (r : Int) (J : Mem) (hf : f_Row_isPair t a1 a2 I = some (r, J)) : Runs Z yX5_isPair cX5_isPair 3 (some .boolean) 1 [vr Z 2 t, vi a1, vi a2] I (some (vi r), J) := by
  refine Runs.of (rv := fun x => some (vi x)) (by decide +kernel) (Nat.le_of_ble_eq_true rfl) hf (fun gr => ?_)
  unfold f_Row_isPair
  refine WQ.loc [0, 1, 2] (lv' := [(0, vr Z 2 t), (1, vi a1), (2, vi a2)]) rfl ?_
  refine wq_grd (fun ht => ?_)
  refine wq_aload_n dX5_isPair_0 0 rfl rfl ?_
  refine g_2_1 ht ln_RX5_15 dX5_isPair_1 ?_
  refine wq_iconst dX5_isPair_4 ?_
  refine wq_icmp_ne 32 dX5_isPair_5 (by decide) rfl rfl (fun c5 => ?_) (fun c5 => ?_)
  · refine wq_aload_n dX5_isPair_8 0 rfl rfl ?_
    refine g_2_0 ht ln_RX5_9 dX5_isPair_9 ?_
    refine wq_iconst dX5_isPair_12 ?_
    refine wq_grd (fun g1 => ?_)
    refine wq_iald (k := 12) (i := t) rfl ht rfl rfl (m := (I 2 t 2)) g1 (Nat.le_refl _) dX5_isPair_13 ?_
    refine wq_iload_n dX5_isPair_14 1 rfl rfl ?_
    refine wq_icmp_ne 32 dX5_isPair_15 (by decide) rfl rfl (fun c4 => ?_) (fun c4 => ?_)
    · refine wq_aload_n dX5_isPair_18 0 rfl rfl ?_
      refine g_2_0 ht ln_RX5_9 dX5_isPair_19 ?_
      refine wq_iconst dX5_isPair_22 ?_
      refine wq_grd (fun g2 => ?_)
      refine wq_iald (k := 12) (i := t) rfl ht rfl rfl (m := (I 2 t 2)) g2 (Nat.le_refl _) dX5_isPair_23 ?_
      refine wq_iload_n dX5_isPair_24 2 rfl rfl ?_
      refine wq_icmp_ne 32 dX5_isPair_25 (by decide) rfl rfl (fun c3 => ?_) (fun c3 => ?_)
      · refine wq_iconst dX5_isPair_28 ?_
        refine wq_goto 33 dX5_isPair_29 (by decide) ?_
        exact wq_zret rfl (by decide) rfl dX5_isPair_33
      · refine wq_iconst dX5_isPair_32 ?_
        exact wq_zret rfl (by decide) rfl dX5_isPair_33
    · refine wq_iconst dX5_isPair_32 ?_
      exact wq_zret rfl (by decide) rfl dX5_isPair_33
  · refine wq_iconst dX5_isPair_32 ?_
    exact wq_zret rfl (by decide) rfl dX5_isPair_33

noncomputable def f_Row_timesOf_w4 (v0 : Nat) (v1 : Int) (s : Int × Int) (I : Mem) : Option (((Int × Int) ⊕ (Int)) × Mem) :=
if (w32 s.2) < (w32 (I 2 v0 1)) then
if 0 ≤ (w32 s.2) ∧ (w32 s.2) < (I 2 v0 2) then
if (w32 (I 12 v0 (w32 s.2).toNat)) = (w32 v1) then
some (.inl ((s.1 + 1), (s.2 + 1)), I)
else
some (.inl (s.1, (s.2 + 1)), I)
else none
else
some (.inr s.1, I)

noncomputable def f_Row_timesOf (t : Nat) (a1 : Int) (I : Mem) : Option (Int × Mem) :=
if t < 516 then
bnd (whl (f_Row_timesOf_w4 t a1) (0, 0) I) fun r14 J15 =>
some (r14, J15)
else none
set_option maxRecDepth 20000 in
theorem R_Row_timesOf (Z : ZT) (t : Nat) (a1 : Int) (I : Mem) (r : Int) (J : Mem) (hf : f_Row_timesOf t a1 I = some (r, J)) : Runs Z yX5_timesOf cX5_timesOf 4 (some .int) 1 [vr Z 2 t, vi a1] I (some (vi r), J) := by
  refine Runs.of (rv := fun x => some (vi x)) (by decide +kernel) (Nat.le_of_ble_eq_true rfl) hf (fun gr => ?_)
  unfold f_Row_timesOf
  refine WQ.loc [0, 1] (lv' := [(0, vr Z 2 t), (1, vi a1)]) rfl ?_
  refine wq_grd (fun ht => ?_)
  refine wq_iconst dX5_timesOf_0 ?_
  refine wq_istore_n (lv' := [(2, vi 0), (0, vr Z 2 t), (1, vi a1)]) dX5_timesOf_1 rfl (by decide) rfl ?_
  refine wq_iconst dX5_timesOf_2 ?_
  refine wq_istore_n (lv' := [(3, vi 0), (2, vi 0), (0, vr Z 2 t), (1, vi a1)]) dX5_timesOf_3 rfl (by decide) rfl ?_
  refine WQ.loc [2, 3, 1, 0] (lv' := [(0, vr Z 2 t), (1, vi a1), (2, vi 0), (3, vi 0)]) rfl ?_
  refine wq_loopS (fun s10 => [(0, vr Z 2 t), (1, vi a1), (2, vi s10.1), (3, vi s10.2)]) 31 (fun r14 => [(2, vi r14)]) (fun κ4 bk5 ex6 gr9 s10 J8 => ?_) (fun gr16 r14 J15 => ?_) gr _ rfl
  · unfold f_Row_timesOf_w4
    refine wq_iload_n dX5_timesOf_4 3 rfl rfl ?_
    refine wq_aload_n dX5_timesOf_5 0 rfl rfl ?_
    refine g_2_1 ht ln_RX5_15 dX5_timesOf_6 ?_
    refine wq_icmp_ge 31 dX5_timesOf_9 (by decide) rfl rfl (fun c13 => ?_) (fun c13 => ?_)
    · refine wq_aload_n dX5_timesOf_12 0 rfl rfl ?_
      refine g_2_0 ht ln_RX5_9 dX5_timesOf_13 ?_
      refine wq_iload_n dX5_timesOf_16 3 rfl rfl ?_
      refine wq_grd (fun g11 => ?_)
      refine wq_iald (k := 12) (i := t) rfl ht rfl rfl (m := (J8 2 t 2)) g11 (Nat.le_refl _) dX5_timesOf_17 ?_
      refine wq_iload_n dX5_timesOf_18 1 rfl rfl ?_
      refine wq_icmp_ne 25 dX5_timesOf_19 (by decide) rfl rfl (fun c12 => ?_) (fun c12 => ?_)
      · refine wq_iinc (lv' := [(2, vi (s10.1 + 1)), (0, vr Z 2 t), (1, vi a1), (3, vi s10.2)]) dX5_timesOf_22 2 rfl (by decide) rfl ?_
        refine wq_iinc (lv' := [(3, vi (s10.2 + 1)), (2, vi (s10.1 + 1)), (0, vr Z 2 t), (1, vi a1)]) dX5_timesOf_25 3 rfl (by decide) rfl ?_
        refine wq_goto 4 dX5_timesOf_28 (by decide) ?_
        exact WQ.loc [2, 3, 1, 0] rfl (bk5 _ _ _)
      · refine wq_iinc (lv' := [(3, vi (s10.2 + 1)), (0, vr Z 2 t), (1, vi a1), (2, vi s10.1)]) dX5_timesOf_25 3 rfl (by decide) rfl ?_
        refine wq_goto 4 dX5_timesOf_28 (by decide) ?_
        exact WQ.loc [1, 2, 3, 0] rfl (bk5 _ _ _)
    · exact WQ.loc [2] rfl (ex6 _ _ _)
  · refine wq_iload_n dX5_timesOf_31 0 rfl rfl ?_
    exact wq_iret rfl rfl dX5_timesOf_32

noncomputable def f_Row_join_j70 (v0 : Nat) (v1 : Int) (v2 : Int) (v3 : Int) (v4 : Int) (v5 : Int) (v6 : Int)  (I : Mem) : Option (((Int × Int × Int) ⊕ (Int × Int)) × Mem) :=
if 0 ≤ (w32 v6) ∧ (w32 v6) < (I 2 v0 2) then
if 0 ≤ (w32 v5) ∧ (w32 v5) < (I 2 v0 2) then
ltI (sI I 12 v0 (w32 v5).toNat (I 12 v0 (w32 v6).toNat)) fun J11 =>
some (.inl (v4, (v5 + 1), (v6 + 1)), J11)
else none
else none

noncomputable def f_Row_join_w9 (v0 : Nat) (v1 : Int) (v2 : Int) (v3 : Int) (s : Int × Int × Int) (I : Mem) : Option (((Int × Int × Int) ⊕ (Int × Int)) × Mem) :=
if (w32 s.2.2) < (w32 (I 2 v0 1)) then
if 0 ≤ (w32 s.2.2) ∧ (w32 s.2.2) < (I 2 v0 2) then
if (w32 (I 12 v0 (w32 s.2.2).toNat)) = (w32 v1) then
if (w32 (s.2.2 + 1)) < (w32 (I 2 v0 1)) then
if 0 ≤ (w32 (s.2.2 + 1)) ∧ (w32 (s.2.2 + 1)) < (I 2 v0 2) then
if (w32 (I 12 v0 (w32 (s.2.2 + 1)).toNat)) = (w32 v2) then
if 0 ≤ (w32 s.2.1) ∧ (w32 s.2.1) < (I 2 v0 2) then
ltI (sI I 12 v0 (w32 s.2.1).toNat v3) fun J5 =>
some (.inl ((s.1 + 1), (s.2.1 + 1), ((s.2.2 + 1) + 1)), J5)
else none
else
f_Row_join_j70 v0 v1 v2 v3 s.1 s.2.1 s.2.2 I
else none
else
f_Row_join_j70 v0 v1 v2 v3 s.1 s.2.1 s.2.2 I
else
f_Row_join_j70 v0 v1 v2 v3 s.1 s.2.1 s.2.2 I
else none
else
some (.inr (s.1, s.2.1), I)

noncomputable def f_Row_join (t : Nat) (a1 : Int) (a2 : Int) (a3 : Int) (I : Mem) : Option (Int × Mem) :=
if t < 516 then
bnd (whl (f_Row_join_w9 t a1 a2 a3) (0, 0, 0) I) fun r39 J40 =>
ltI (sI J40 2 t 1 r39.2) fun J42 =>
some (r39.1, J42)
else none
set_option maxRecDepth 20000 in
theorem R_Row_join (Z : ZT) (t : Nat) (a1 : Int) (a2 : Int) (a3 : Int) (I : Mem) (r : Int) (J : Mem) (hf : f_Row_join t a1 a2 a3 I = some (r, J)) : Runs Z yX5_join cX5_join 7 (some .int) 1 [vr Z 2 t, vi a1, vi a2, vi a3] I (some (vi r), J) := by
  refine Runs.of (rv := fun x => some (vi x)) (by decide +kernel) (Nat.le_of_ble_eq_true rfl) hf (fun gr => ?_)
  unfold f_Row_join
  refine WQ.loc [0, 1, 2, 3] (lv' := [(0, vr Z 2 t), (1, vi a1), (2, vi a2), (3, vi a3)]) rfl ?_
  refine wq_grd (fun ht => ?_)
  refine wq_iconst dX5_join_0 ?_
  refine wq_istore (lv' := [(4, vi 0), (0, vr Z 2 t), (1, vi a1), (2, vi a2), (3, vi a3)]) dX5_join_1 (by decide) rfl ?_
  refine wq_iconst dX5_join_3 ?_
  refine wq_istore (lv' := [(5, vi 0), (4, vi 0), (0, vr Z 2 t), (1, vi a1), (2, vi a2), (3, vi a3)]) dX5_join_4 (by decide) rfl ?_
  refine wq_iconst dX5_join_6 ?_
  refine wq_istore (lv' := [(6, vi 0), (5, vi 0), (4, vi 0), (0, vr Z 2 t), (1, vi a1), (2, vi a2), (3, vi a3)]) dX5_join_7 (by decide) rfl ?_
  refine WQ.loc [3, 4, 5, 6, 2, 1, 0] (lv' := [(0, vr Z 2 t), (1, vi a1), (2, vi a2), (3, vi a3), (4, vi 0), (5, vi 0), (6, vi 0)]) rfl ?_
  refine wq_loopS (fun s24 => [(0, vr Z 2 t), (1, vi a1), (2, vi a2), (3, vi a3), (4, vi s24.1), (5, vi s24.2.1), (6, vi s24.2.2)]) 93 (fun r39 => [(0, vr Z 2 t), (4, vi r39.1), (5, vi r39.2)]) (fun κ18 bk19 ex20 gr23 s24 J22 => ?_) (fun gr41 r39 J40 => ?_) gr _ rfl
  · unfold f_Row_join_w9
    refine wq_iload dX5_join_9 6 rfl ?_
    refine wq_aload_n dX5_join_11 0 rfl rfl ?_
    refine g_2_1 ht ln_RX5_15 dX5_join_12 ?_
    refine wq_icmp_ge 93 dX5_join_15 (by decide) rfl rfl (fun c38 => ?_) (fun c38 => ?_)
    · refine wq_aload_n dX5_join_18 0 rfl rfl ?_
      refine g_2_0 ht ln_RX5_9 dX5_join_19 ?_
      refine wq_iload dX5_join_22 6 rfl ?_
      refine wq_grd (fun g25 => ?_)
      refine wq_iald (k := 12) (i := t) rfl ht rfl rfl (m := (J22 2 t 2)) g25 (Nat.le_refl _) dX5_join_24 ?_
      refine wq_iload_n dX5_join_25 1 rfl rfl ?_
      have hj26 : ∀ (gr34 : Nat → Nat) (hj26v4 : Int) (hj26v5 : Int) (hj26v6 : Int)  (J33 : Mem), WQ Z (yX5_join, cX5_join, 7, some .int, 1) I gr34 70 [(0, vr Z 2 t), (1, vi a1), (2, vi a2), (3, vi a3), (4, vi hj26v4), (5, vi hj26v5), (6, vi hj26v6)] [] J33 (f_Row_join_j70 t a1 a2 a3 hj26v4 hj26v5 hj26v6 J33) κ18 := by
        intro gr34 hj26v4 hj26v5 hj26v6 J33
        unfold f_Row_join_j70
        refine wq_aload_n dX5_join_70 0 rfl rfl ?_
        refine g_2_0 ht ln_RX5_9 dX5_join_71 ?_
        refine wq_iload dX5_join_74 5 rfl ?_
        refine wq_aload_n dX5_join_76 0 rfl rfl ?_
        refine g_2_0 ht ln_RX5_9 dX5_join_77 ?_
        refine wq_iload dX5_join_80 6 rfl ?_
        refine wq_grd (fun g35 => ?_)
        refine wq_iald (k := 12) (i := t) rfl ht rfl rfl (m := (J33 2 t 2)) g35 (Nat.le_refl _) dX5_join_82 ?_
        refine wq_grd (fun g36 => ?_)
        refine wq_iast (k := 12) (i := t) (fun K hK => by show arI _ (K 2 _ 2).toNat _ = _; rw [hK]) ht rfl rfl (m := (J33 2 t 2)) g36 (Nat.le_refl _) (by decide) (by decide) (by decide) dX5_join_83 (fun J37 => ?_)
        refine wq_iinc (lv' := [(5, vi (hj26v5 + 1)), (0, vr Z 2 t), (1, vi a1), (2, vi a2), (3, vi a3), (4, vi hj26v4), (6, vi hj26v6)]) dX5_join_84 5 rfl (by decide) rfl ?_
        refine wq_iinc (lv' := [(6, vi (hj26v6 + 1)), (5, vi (hj26v5 + 1)), (0, vr Z 2 t), (1, vi a1), (2, vi a2), (3, vi a3), (4, vi hj26v4)]) dX5_join_87 6 rfl (by decide) rfl ?_
        refine wq_goto 9 dX5_join_90 (by decide) ?_
        exact WQ.loc [2, 3, 4, 5, 6, 1, 0] rfl (bk19 _ _ _)
      refine wq_icmp_ne 70 dX5_join_26 (by decide) rfl rfl (fun c32 => ?_) (fun c32 => ?_)
      · refine wq_iload dX5_join_29 6 rfl ?_
        refine wq_iconst dX5_join_31 ?_
        refine wq_iadd dX5_join_32 ?_
        refine wq_aload_n dX5_join_33 0 rfl rfl ?_
        refine g_2_1 ht ln_RX5_15 dX5_join_34 ?_
        refine wq_icmp_ge 70 dX5_join_37 (by decide) rfl rfl (fun c31 => ?_) (fun c31 => ?_)
        · refine wq_aload_n dX5_join_40 0 rfl rfl ?_
          refine g_2_0 ht ln_RX5_9 dX5_join_41 ?_
          refine wq_iload dX5_join_44 6 rfl ?_
          refine wq_iconst dX5_join_46 ?_
          refine wq_iadd dX5_join_47 ?_
          refine wq_grd (fun g27 => ?_)
          refine wq_iald (k := 12) (i := t) rfl ht rfl rfl (m := (J22 2 t 2)) g27 (Nat.le_refl _) dX5_join_48 ?_
          refine wq_iload_n dX5_join_49 2 rfl rfl ?_
          refine wq_icmp_ne 70 dX5_join_50 (by decide) rfl rfl (fun c30 => ?_) (fun c30 => ?_)
          · refine wq_aload_n dX5_join_53 0 rfl rfl ?_
            refine g_2_0 ht ln_RX5_9 dX5_join_54 ?_
            refine wq_iload dX5_join_57 5 rfl ?_
            refine wq_iload_n dX5_join_59 3 rfl rfl ?_
            refine wq_grd (fun g28 => ?_)
            refine wq_iast (k := 12) (i := t) (fun K hK => by show arI _ (K 2 _ 2).toNat _ = _; rw [hK]) ht rfl rfl (m := (J22 2 t 2)) g28 (Nat.le_refl _) (by decide) (by decide) (by decide) dX5_join_60 (fun J29 => ?_)
            refine wq_iinc (lv' := [(6, vi (s24.2.2 + 1)), (0, vr Z 2 t), (1, vi a1), (2, vi a2), (3, vi a3), (4, vi s24.1), (5, vi s24.2.1)]) dX5_join_61 6 rfl (by decide) rfl ?_
            refine wq_iinc (lv' := [(4, vi (s24.1 + 1)), (6, vi (s24.2.2 + 1)), (0, vr Z 2 t), (1, vi a1), (2, vi a2), (3, vi a3), (5, vi s24.2.1)]) dX5_join_64 5 rfl (by decide) rfl ?_
            refine wq_goto 84 dX5_join_67 (by decide) ?_
            refine wq_iinc (lv' := [(5, vi (s24.2.1 + 1)), (4, vi (s24.1 + 1)), (6, vi (s24.2.2 + 1)), (0, vr Z 2 t), (1, vi a1), (2, vi a2), (3, vi a3)]) dX5_join_84 6 rfl (by decide) rfl ?_
            refine wq_iinc (lv' := [(6, vi ((s24.2.2 + 1) + 1)), (5, vi (s24.2.1 + 1)), (4, vi (s24.1 + 1)), (0, vr Z 2 t), (1, vi a1), (2, vi a2), (3, vi a3)]) dX5_join_87 2 rfl (by decide) rfl ?_
            refine wq_goto 9 dX5_join_90 (by decide) ?_
            exact WQ.loc [3, 4, 5, 6, 2, 1, 0] rfl (bk19 _ _ _)
          · exact WQ.loc [0, 1, 2, 3, 4, 5, 6] rfl (hj26 _ _ _ _  _)
        · exact WQ.loc [0, 1, 2, 3, 4, 5, 6] rfl (hj26 _ _ _ _  _)
      · exact WQ.loc [0, 1, 2, 3, 4, 5, 6] rfl (hj26 _ _ _ _  _)
    · exact WQ.loc [0, 4, 5] rfl (ex20 _ _ _)
  · refine wq_aload_n dX5_join_93 0 rfl rfl ?_
    refine wq_iload dX5_join_94 2 rfl ?_
    refine p_2_1 ht ln_RX5_15 dX5_join_96 (fun J42 => ?_)
    refine wq_iload dX5_join_99 1 rfl ?_
    exact wq_iret rfl rfl dX5_join_101
